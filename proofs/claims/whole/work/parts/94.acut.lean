/-! cutting: the class's subtags with roles, and the model's places -/
abbrev pq_I : Type := List Nat × List (List Nat)
def pq_g (q : Nat) : List pr_E → List pq_I
  | [] => []
  | e :: l => if e.1 = q then (e.2, pr_tw l) :: pq_g q l else pq_g q l
theorem pq_tw_app {e : pr_E} (h : ¬ e.1 = 7) (m : List pr_E) : ∀ l, pr_tw (l ++ e :: m) = pr_tw l
  | [] => by simp [pr_tw, h]
  | x :: l => by
    have ih := pq_tw_app h m l
    unfold pr_tw at ih ⊢
    by_cases hx : x.1 = 7
    · simp [hx, ih]
    · simp [hx]
theorem pq_g_app (q : Nat) {e : pr_E} (h : ¬ e.1 = 7) (m : List pr_E) : ∀ l, pq_g q (l ++ e :: m) = pq_g q l ++ pq_g q (e :: m)
  | [] => rfl
  | x :: l => by
    have ih := pq_g_app q h m l
    rw [List.cons_append, pq_g, pq_g, pq_tw_app h m l, ih]
    split <;> rfl
theorem pq_g_7 {q : Nat} (hq : ¬ q = 7) : ∀ m : List pr_E, (∀ e ∈ m, e.1 = 7) → pq_g q m = []
  | [], _ => rfl
  | x :: l, h => by
    have h1 := h x List.mem_cons_self
    rw [pq_g, if_neg (by omega)]
    exact pq_g_7 hq l (fun e he => h e (List.mem_cons_of_mem _ he))
theorem pq_tw_7 : ∀ m : List pr_E, (∀ e ∈ m, e.1 = 7) → pr_tw m = m.map (·.2)
  | [], _ => rfl
  | x :: l, h => by
    have h1 := h x List.mem_cons_self
    have ih := pq_tw_7 l (fun e he => h e (List.mem_cons_of_mem _ he))
    unfold pr_tw at ih ⊢
    simp [h1, ih]
theorem pq_has (s : List Nat) (q : Nat) : ∀ l : List pr_E, pr_has l s q = (pq_g q l).any (fun g => decide (g.1 = s))
  | [] => rfl
  | x :: l => by
    have ih := pq_has s q l
    unfold pr_has at ih ⊢
    rw [List.any_cons, ih, pq_g]
    by_cases h : x.1 = q
    · simp [h]
    · simp [h]
theorem pq_part_ne {r q : Nat} (h : ¬ r = q) (rd : List pr_E) (s : List Nat) : pr_part (rd ++ [(r, s)]) q = pr_part rd q := by
  unfold pr_part
  rw [List.find?_append]
  cases hf : rd.find? (fun e => decide (e.1 = q)) with
  | some e => rfl
  | none => simp [h]
theorem pq_part_no {q : Nat} {rd : List pr_E} (h : ∀ e ∈ rd, ¬ e.1 = q) : pr_part rd q = [] := by
  unfold pr_part
  have : rd.find? (fun e => decide (e.1 = q)) = none := by
    rw [List.find?_eq_none]
    intro e he
    simpa using h e he
  rw [this]
theorem pq_part_eq {q : Nat} {rd : List pr_E} (h : ∀ e ∈ rd, ¬ e.1 = q) (s : List Nat) : pr_part (rd ++ [(q, s)]) q = s := by
  unfold pr_part
  have : rd.find? (fun e => decide (e.1 = q)) = none := by
    rw [List.find?_eq_none]
    intro e he
    simpa using h e he
  rw [List.find?_append, this]
  simp
theorem pq_priv (rd : List pr_E) (r : Nat) (s : List Nat) : pr_priv (rd ++ [(r, s)]) = pr_priv rd ++ (if 8 ≤ r then [s] else []) := by
  unfold pr_priv
  rw [List.filter_append, List.map_append]
  by_cases h : 8 ≤ r <;> simp [h]
theorem pq_text1 (ps : List (List Nat)) (l s : List Nat) : pf_text l (ps ++ [s]) = pt_put (pf_text l ps) s := by simp [pf_text]
theorem pq_seg {ty : List Nat} {a b c : Nat} (h1 : a ≤ b) (h2 : b ≤ c) : pm_seg ty a c = pm_seg ty a b ++ pm_seg ty b c := by
  unfold pm_seg
  have : c - a = (b - a) + (c - b) := by omega
  rw [this, List.take_add, List.drop_drop, show a + (b - a) = b by omega]
theorem pq_seg1 {ty : List Nat} {a : Nat} (h : a < ty.length) : pm_seg ty a (a + 1) = [ty.getD a 0] := by
  rw [pm_seg_cons (by omega) (by omega), pm_seg_nil]
theorem pq_seg2 {ty : List Nat} {a b c : Nat} (h1 : a ≤ b) (h2 : b < c) (h3 : c ≤ ty.length) : pm_seg ty a c = pm_seg ty a b ++ ty.getD b 0 :: pm_seg ty (b + 1) c := by
  rw [pq_seg h1 (show b ≤ c by omega), pq_seg (a := b) (b := b + 1) (c := c) (by omega) (by omega), pq_seg1 (by omega)]
  rfl
theorem pq_cut_in {s : List Nat} (h : ¬ pt_cut s = []) : 1 ≤ s.length ∧ s.length ≤ 8 ∧ s.all pb_isA = true := by
  have := pm_cut_ne s
  simpa [h] using this
theorem pq_cut {s : List Nat} (h : ¬ pt_cut s = []) : pt_cut s = s.map pt_low := by
  obtain ⟨h1, h2, h3⟩ := pq_cut_in h
  exact pm_cut1 h1 h2 h3
theorem pq_cutl {s : List Nat} (h : ¬ pt_cut s = []) : (pt_cut s).length = s.length := by rw [pq_cut h, List.length_map]
theorem pq_pc1 {c : Nat} (h : pb_isA c = true) : pm_pc c = pt_low c := by
  unfold pm_pc
  rw [if_neg]
  rintro rfl
  simp [pb_isA, pb_isL, pb_isD] at h
theorem pq_pcA : ∀ {s : List Nat}, s.all pb_isA = true → s.map pm_pc = s.map pt_low
  | [], _ => rfl
  | c :: s, h => by
    rw [List.all_cons, Bool.and_eq_true] at h
    rw [List.map_cons, List.map_cons, pq_pc1 h.1, pq_pcA h.2]
theorem pq_pc {s : List Nat} (h : ¬ pt_cut s = []) : s.map pm_pc = pt_cut s := by
  rw [pq_cut h, pq_pcA (pq_cut_in h).2.2]
theorem pq_sep {c : Nat} (h : pb_isC c = true) : pm_pc c = 45 := by
  unfold pm_pc pt_low
  simp [pb_isC] at h
  rcases h with h | h <;> subst h <;> rfl
theorem pq_low2 (c : Nat) : pt_low (pt_low c) = pt_low c := by
  unfold pt_low
  split <;> (try split) <;> omega
theorem pq_dlow (c : Nat) : pv_d (pt_low c) = pv_d c := by
  unfold pv_d
  rw [pm_isL', pm_isL', pq_low2]
  split
  · rfl
  · rename_i h
    unfold pt_low at h ⊢
    split
    · rename_i h2
      rw [if_pos h2] at h
      simp at h
      omega
    · rfl
theorem pq_nlow (s : List Nat) : pv_n (s.map pt_low) = pv_n s := by
  unfold pv_n
  rw [List.foldl_map]
  simp only [pq_dlow]
theorem pq_n {s : List Nat} (h : ¬ pt_cut s = []) : pv_n (pt_cut s) = pv_n s := by rw [pq_cut h, pq_nlow]
/-! the relation that cutting keeps -/
def pq_s (q : Nat) : Nat := if q ≤ 3 then q else if q = 4 then 3 else if q = 5 then 4 else if q ≤ 7 then 5 else q - 2
def pq_kx (g : pq_I) : List Nat × List Nat := (g.1, pf_text g.1 g.2)
def pq_ky (ty : List Nat) (v : Nat × Nat) : List Nat × List Nat := ((pm_seg ty v.1 (v.1 + 2)).map pt_low, (pm_seg ty v.1 v.2).map pm_pc)
def pq_vy (ty : List Nat) (v : Nat × Nat) : pq_I := ((pm_seg ty v.1 v.2).map pt_low, [])
def pq_N (rd : List pr_E) (A : pm_A) : Prop := A.1.1 = pv_n (pr_part rd 1) ∧ A.1.2.1 = pv_n (pr_part rd 2) ∧ A.1.2.2 = pv_n (pr_part rd 3)
def pq_P (ty : List Nat) (p q : Nat) (rd : List pr_E) (A : pm_A) : Prop := (q < 8 → A.2.2.2.1 = none ∧ pr_priv rd = []) ∧ (8 ≤ q → ∃ f, A.2.2.2.1 = some f ∧ f + 1 ≤ p - 1 ∧ (pm_seg ty f (p - 1)).map pm_pc = pf_text [] (pr_priv rd) ∧ (q = 9 → A.2.2.2.2 = some (p - 1)))
def pq_K (p q : Nat) (rd : List pr_E) (A : pm_A) : Prop := q = 6 ∨ q = 7 → (∃ l0 k m, rd = l0 ++ (6, k) :: m ∧ ∀ e ∈ m, e.1 = 7) ∧ ∃ ks f, A.2.2.1 = ks ++ [(f, p - 1)] ∧ f + 2 ≤ p - 1
def pq_U (q : Nat) (rd : List pr_E) : Prop := ¬ pr_part rd 5 = [] ↔ (q = 5 ∨ ¬ pq_g 6 rd = [])
def pq_L (p q : Nat) (rd : List pr_E) : Prop := (∀ e ∈ rd, q ≤ 5 → e.1 ≤ q) ∧ (q = 0 → rd = []) ∧ (¬ q = 0 → 2 * rd.length + 1 ≤ p) ∧ ∀ e ∈ rd, ¬ e.2 = []
def pq_R (ty : List Nat) (p q : Nat) (rd : List pr_E) (A : pm_A) : Prop := pq_N rd A ∧ pq_g 4 rd = A.2.1.map (pq_vy ty) ∧ (pq_g 6 rd).map pq_kx = A.2.2.1.map (pq_ky ty) ∧ pq_P ty p q rd A ∧ pq_K p q rd A ∧ pq_U q rd ∧ pq_L p q rd
theorem pq_R0 (ty : List Nat) (p : Nat) : pq_R ty p 0 [] pm_A0 := by
  refine ⟨⟨rfl, rfl, rfl⟩, rfl, rfl, ⟨fun _ => ⟨rfl, rfl⟩, fun h => by omega⟩, fun h => by omega, ?_, ?_⟩
  · unfold pq_U
    constructor
    · intro h; exact absurd rfl h
    · rintro (h | h)
      · omega
      · exact absurd rfl h
  · exact ⟨fun e he => (by cases he), fun _ => rfl, fun h => absurd rfl h, fun e he => (by cases he)⟩
/-- a subtag's role is a number that its kind decides -/
theorem pq_kinds (s : List Nat) : (pb_lang s = true → ¬ s = [] ∧ ¬ s = [120] ∧ ¬ s = [117]) ∧ (pb_script s = true → ¬ s = [] ∧ ¬ s = [120] ∧ ¬ s = [117] ∧ pb_region s = false) ∧ (pb_region s = true → ¬ s = [] ∧ ¬ s = [120] ∧ ¬ s = [117]) ∧ (pb_variant s = true → ¬ s = [] ∧ ¬ s = [120] ∧ ¬ s = [117]) ∧ (pb_key s = true → ¬ s = [] ∧ ¬ s = [120] ∧ pb_type s = false) ∧ (pb_type s = true → ¬ s = [] ∧ ¬ s = [120]) := by
  refine ⟨?_, ?_, ?_, ?_, ?_, ?_⟩ <;> intro h
  · refine ⟨?_, ?_, ?_⟩ <;> rintro rfl <;> revert h <;> decide
  · refine ⟨?_, ?_, ?_, ?_⟩
    · rintro rfl; revert h; decide
    · rintro rfl; revert h; decide
    · rintro rfl; revert h; decide
    · simp [pb_script] at h
      simp [pb_region, h.1]
  · refine ⟨?_, ?_, ?_⟩ <;> rintro rfl <;> revert h <;> decide
  · refine ⟨?_, ?_, ?_⟩ <;> rintro rfl <;> revert h <;> decide
  · refine ⟨?_, ?_, ?_⟩
    · rintro rfl; revert h; decide
    · rintro rfl; revert h; decide
    · simp [pb_key] at h
      simp [pb_type, h.1]
  · refine ⟨?_, ?_⟩ <;> rintro rfl <;> revert h <;> decide
theorem pq_allv {ty : List Nat} {rd : List pr_E} {vs : List (Nat × Nat)} (h : pq_g 4 rd = vs.map (pq_vy ty)) {a b : Nat} (hc : ¬ pt_cut (pm_seg ty a b) = []) : vs.all (fun v => !pm_sm ty a b v) = !pr_has rd (pt_cut (pm_seg ty a b)) 4 := by
  rw [pq_has, h, List.any_map, pq_cut hc, List.not_any_eq_all_not]
  congr 1
  funext v
  simp only [Function.comp, pq_vy, pm_sm]
  congr 1
  exact decide_eq_decide.mpr ⟨fun q => q.symm, fun q => q.symm⟩
theorem pq_allk {ty : List Nat} {rd : List pr_E} {ks : List (Nat × Nat)} (h : (pq_g 6 rd).map pq_kx = ks.map (pq_ky ty)) {a b : Nat} (hc : ¬ pt_cut (pm_seg ty a b) = []) : ks.all (fun v => !pm_km ty a b v) = !pr_has rd (pt_cut (pm_seg ty a b)) 6 := by
  have e : (pq_g 6 rd).any (fun g => decide (g.1 = pt_cut (pm_seg ty a b))) = ((pq_g 6 rd).map pq_kx).any (fun x => decide (x.1 = pt_cut (pm_seg ty a b))) := by
    rw [List.any_map]
    rfl
  rw [pq_has, e, h, List.any_map, pq_cut hc, List.not_any_eq_all_not]
  congr 1
  funext v
  simp only [Function.comp, pq_ky, pm_km, pm_sm]
  congr 1
  exact decide_eq_decide.mpr ⟨fun q => q.symm, fun q => q.symm⟩
/-! one step of cutting -/
section PQS
variable {ty : List Nat} {p i q r : Nat} {rd : List pr_E} {A : pm_A}
theorem pq_L1 (h : pq_L p q rd) (hr : ¬ r = 0) (hq : r ≤ 5 → q ≤ r) {s : List Nat} (hs : ¬ s = []) (hp : p + s.length ≤ i) (h1 : q = 0 → 2 ≤ s.length) : pq_L (i + 1) r (rd ++ [(r, s)]) := by
  obtain ⟨a, b, c, d⟩ := h
  have hl : 1 ≤ s.length := by
    cases s with
    | nil => exact absurd rfl hs
    | cons x l => simp
  refine ⟨fun e he h5 => ?_, fun z => absurd z hr, fun _ => ?_, fun e he => ?_⟩
  · rcases List.mem_append.mp he with he | he
    · have := hq h5
      exact Nat.le_trans (a e he (by omega)) this
    · rw [List.mem_singleton] at he
      subst he
      exact Nat.le_refl _
  · rw [List.length_append]
    by_cases hq0 : q = 0
    · have := h1 hq0
      rw [b hq0]
      simp
      omega
    · have := c hq0
      simp
      omega
  · rcases List.mem_append.mp he with he | he
    · exact d e he
    · rw [List.mem_singleton] at he
      subst he
      exact hs
theorem pq_N1 (h : pq_N rd A) (h1 : ¬ r = 1) (h2 : ¬ r = 2) (h3 : ¬ r = 3) (s : List Nat) (B : List (Nat × Nat) × List (Nat × Nat) × Option Nat × Option Nat) : pq_N (rd ++ [(r, s)]) (A.1, B) := by
  obtain ⟨a, b, c⟩ := h
  exact ⟨by rw [pq_part_ne h1]; exact a, by rw [pq_part_ne h2]; exact b, by rw [pq_part_ne h3]; exact c⟩
theorem pq_P1 (h : pq_P ty p q rd A) (hq : q < 8) (hr : r < 8) (s : List Nat) {p' : Nat} {A' : pm_A} (hA : A'.2.2.2.1 = A.2.2.2.1) : pq_P ty p' r (rd ++ [(r, s)]) A' := by
  refine ⟨fun _ => ?_, fun z => by omega⟩
  obtain ⟨a, b⟩ := h.1 hq
  refine ⟨hA.trans a, ?_⟩
  rw [pq_priv, b, if_neg (by omega)]
  rfl
theorem pq_U1 (h : pq_U q rd) (hr : r ≤ 4) (hq : ¬ q = 5) (s : List Nat) : pq_U r (rd ++ [(r, s)]) := by
  unfold pq_U at h ⊢
  have e : pq_g 6 (rd ++ [(r, s)]) = pq_g 6 rd := by
    rw [pq_g_app 6 (show ¬ (r, s).1 = 7 by show ¬ r = 7; omega), pq_g, if_neg (show ¬ (r, s).1 = 6 by show ¬ r = 6; omega)]
    simp [pq_g]
  rw [e, pq_part_ne (by omega), h]
  constructor
  · rintro (z | z)
    · exact absurd z hq
    · exact Or.inr z
  · rintro (z | z)
    · omega
    · exact Or.inr z
theorem pq_G1 {k : Nat} (hr : ¬ r = 7) (hk : ¬ r = k) (s : List Nat) : pq_g k (rd ++ [(r, s)]) = pq_g k rd := by
  rw [pq_g_app k (show ¬ (r, s).1 = 7 from hr), pq_g, if_neg (show ¬ (r, s).1 = k from hk)]
  simp [pq_g]
theorem pq_G2 (hr : ¬ r = 7) (s : List Nat) : pq_g r (rd ++ [(r, s)]) = pq_g r rd ++ [(s, [])] := by
  rw [pq_g_app r (show ¬ (r, s).1 = 7 from hr), pq_g, if_pos rfl]
  rfl
/-- the step to one of the first four roles -/
theorem pq_to1 (h : pq_R ty p 0 rd A) (hi : p ≤ i) (hil : i ≤ ty.length) (hc : pb_lang (pt_cut (pm_seg ty p i)) = true) : pq_R ty (i + 1) 1 (rd ++ [(1, pt_cut (pm_seg ty p i))]) ((pv_n (pm_seg ty p i), A.1.2), A.2) := by
  obtain ⟨a, b, c, d, e, f, g⟩ := h
  have hne := ((pq_kinds _).1 hc).1
  have hl := pq_cutl hne
  have hsl := pm_seg_len (a := p) hil
  have hrd : rd = [] := g.2.1 rfl
  subst hrd
  have h2 : 2 ≤ (pt_cut (pm_seg ty p i)).length := by
    simp [pb_lang] at hc
    omega
  refine ⟨⟨?_, ?_, ?_⟩, ?_, ?_, pq_P1 d (by decide) (by decide) _ rfl, fun z => by omega, pq_U1 f (by decide) (by decide) _, pq_L1 g (by decide) (fun _ => by decide) hne (by omega) (fun _ => h2)⟩
  · rw [pq_part_eq (fun e he => by cases he), pq_n hne]
  · rw [pq_part_ne (by decide)]; exact a.2.1
  · rw [pq_part_ne (by decide)]; exact a.2.2
  · rw [pq_G1 (by decide) (by decide)]; exact b
  · rw [pq_G1 (by decide) (by decide)]; exact c
theorem pq_to2 (h : pq_R ty p q rd A) (hq : q = 1) (hi : p ≤ i) (hil : i ≤ ty.length) (hc : pb_script (pt_cut (pm_seg ty p i)) = true) : pq_R ty (i + 1) 2 (rd ++ [(2, pt_cut (pm_seg ty p i))]) ((A.1.1, pv_n (pm_seg ty p i), A.1.2.2), A.2) := by
  obtain ⟨a, b, c, d, e, f, g⟩ := h
  have hne := ((pq_kinds _).2.1 hc).1
  have hl := pq_cutl hne
  have hsl := pm_seg_len (a := p) hil
  refine ⟨⟨?_, ?_, ?_⟩, ?_, ?_, pq_P1 d (by omega) (by decide) _ rfl, fun z => by omega, pq_U1 f (by decide) (by omega) _, pq_L1 g (by decide) (fun _ => by omega) hne (by omega) (fun _ => by omega)⟩
  · rw [pq_part_ne (by decide)]; exact a.1
  · rw [pq_part_eq (fun e he => by have := g.1 e he (by omega); omega), pq_n hne]
  · rw [pq_part_ne (by decide)]; exact a.2.2
  · rw [pq_G1 (by decide) (by decide)]; exact b
  · rw [pq_G1 (by decide) (by decide)]; exact c
theorem pq_to3 (h : pq_R ty p q rd A) (hq : q = 1 ∨ q = 2) (hi : p ≤ i) (hil : i ≤ ty.length) (hc : pb_region (pt_cut (pm_seg ty p i)) = true) : pq_R ty (i + 1) 3 (rd ++ [(3, pt_cut (pm_seg ty p i))]) ((A.1.1, A.1.2.1, pv_n (pm_seg ty p i)), A.2) := by
  obtain ⟨a, b, c, d, e, f, g⟩ := h
  have hne := ((pq_kinds _).2.2.1 hc).1
  have hl := pq_cutl hne
  have hsl := pm_seg_len (a := p) hil
  refine ⟨⟨?_, ?_, ?_⟩, ?_, ?_, pq_P1 d (by omega) (by decide) _ rfl, fun z => by omega, pq_U1 f (by decide) (by omega) _, pq_L1 g (by decide) (fun _ => by omega) hne (by omega) (fun _ => by omega)⟩
  · rw [pq_part_ne (by decide)]; exact a.1
  · rw [pq_part_ne (by decide)]; exact a.2.1
  · rw [pq_part_eq (fun e he => by have := g.1 e he (by omega); omega), pq_n hne]
  · rw [pq_G1 (by decide) (by decide)]; exact b
  · rw [pq_G1 (by decide) (by decide)]; exact c
theorem pq_to4 (h : pq_R ty p q rd A) (hq : 1 ≤ q ∧ q ≤ 4) (hi : p ≤ i) (hil : i ≤ ty.length) (hne : ¬ pt_cut (pm_seg ty p i) = []) : pq_R ty (i + 1) 4 (rd ++ [(4, pt_cut (pm_seg ty p i))]) (A.1, A.2.1 ++ [(p, i)], A.2.2) := by
  obtain ⟨a, b, c, d, e, f, g⟩ := h
  have hl := pq_cutl hne
  have hsl := pm_seg_len (a := p) hil
  refine ⟨pq_N1 a (by decide) (by decide) (by decide) _ _, ?_, ?_, pq_P1 d (by omega) (by decide) _ rfl, fun z => by omega, pq_U1 f (by decide) (by omega) _, pq_L1 g (by decide) (fun _ => by omega) hne (by omega) (fun _ => by omega)⟩
  · rw [pq_G2 (by decide), b, List.map_append, pq_cut hne]
    rfl
  · rw [pq_G1 (by decide) (by decide)]; exact c
theorem pq_to5 (h : pq_R ty p q rd A) (hq : 1 ≤ q ∧ q ≤ 4) (hi : p ≤ i) (hil : i ≤ ty.length) (hc : pt_cut (pm_seg ty p i) = [117]) : pq_R ty (i + 1) 5 (rd ++ [(5, pt_cut (pm_seg ty p i))]) A := by
  obtain ⟨a, b, c, d, e, f, g⟩ := h
  have hne : ¬ pt_cut (pm_seg ty p i) = [] := by rw [hc]; decide
  have hl := pq_cutl hne
  have hsl := pm_seg_len (a := p) hil
  refine ⟨pq_N1 a (by decide) (by decide) (by decide) _ _, ?_, ?_, pq_P1 d (by omega) (by decide) _ rfl, fun z => by omega, ?_, pq_L1 g (by decide) (fun _ => by omega) hne (by omega) (fun _ => by omega)⟩
  · rw [pq_G1 (by decide) (by decide)]; exact b
  · rw [pq_G1 (by decide) (by decide)]; exact c
  · unfold pq_U
    rw [pq_part_eq (fun e he => by have := g.1 e he (by omega); omega)]
    exact ⟨fun _ => Or.inl rfl, fun _ => hne⟩
end PQS
/-! the steps to keys, types and private subtags -/
section PQT
variable {ty : List Nat} {p i q r : Nat} {rd : List pr_E} {A : pm_A}
theorem pq_Kne (h : pq_K p q rd A) (hq : q = 6 ∨ q = 7) : ¬ pq_g 6 rd = [] := by
  obtain ⟨⟨l0, k, m, e, hm⟩, -⟩ := h hq
  rw [e, pq_g_app 6 (show ¬ (6, k).1 = 7 by show ¬ 6 = 7; decide), pq_g, if_pos rfl]
  simp
theorem pq_pput {l s : List Nat} (h : ¬ l = []) : pt_put l s = l ++ 45 :: s := by
  unfold pt_put
  rw [if_neg h]
  simp
theorem pq_more (hp : 1 ≤ p) (hsep : pb_isC (ty.getD (p - 1) 0) = true) (hil : i ≤ ty.length) {f : Nat} (hf : f ≤ p - 1) (hne : ¬ pt_cut (pm_seg ty p i) = []) (hi : p ≤ i) : (pm_seg ty f i).map pm_pc = (pm_seg ty f (p - 1)).map pm_pc ++ 45 :: pt_cut (pm_seg ty p i) := by
  rw [pq_seg2 hf (show p - 1 < i by omega) hil, List.map_append, List.map_cons, pq_sep hsep, show p - 1 + 1 = p by omega, pq_pc hne]
theorem pq_to6 (h : pq_R ty p q rd A) (hq : q = 5 ∨ q = 6 ∨ q = 7) (hi : p ≤ i) (hil : i ≤ ty.length) (hc : pb_key (pt_cut (pm_seg ty p i)) = true) : pq_R ty (i + 1) 6 (rd ++ [(6, pt_cut (pm_seg ty p i))]) (A.1, A.2.1, A.2.2.1 ++ [(p, i)], A.2.2.2) := by
  obtain ⟨a, b, c, d, e, f, g⟩ := h
  have hne := ((pq_kinds _).2.2.2.2.1 hc).1
  have hl := pq_cutl hne
  have hsl := pm_seg_len (a := p) hil
  have h2 : (pt_cut (pm_seg ty p i)).length = 2 := by
    simp [pb_key] at hc
    exact hc.1
  have hi2 : i = p + 2 := by omega
  refine ⟨pq_N1 a (by decide) (by decide) (by decide) _ _, ?_, ?_, pq_P1 d (by omega) (by decide) _ rfl, fun z => ⟨⟨rd, _, [], rfl, fun e he => by cases he⟩, A.2.2.1, p, rfl, by omega⟩, ?_, pq_L1 g (by decide) (fun z => by omega) hne (by omega) (fun _ => by omega)⟩
  · rw [pq_G1 (by decide) (by decide)]; exact b
  · rw [pq_G2 (by decide), List.map_append, c, List.map_append]
    congr 1
    simp only [List.map_cons, List.map_nil, pq_kx, pq_ky]
    rw [← hi2, pq_pc hne, ← pq_cut hne]
    rfl
  · unfold pq_U at f ⊢
    rw [pq_G2 (by decide), pq_part_ne (by decide)]
    constructor
    · intro _
      right
      simp
    · intro _
      rw [f]
      rcases hq with z | z
      · exact Or.inl z
      · exact Or.inr (pq_Kne e z)
theorem pq_to7 (h : pq_R ty p q rd A) (hq : q = 6 ∨ q = 7) (hp : 1 ≤ p) (hsep : pb_isC (ty.getD (p - 1) 0) = true) (hi : p ≤ i) (hil : i ≤ ty.length) (hne : ¬ pt_cut (pm_seg ty p i) = []) : pq_R ty (i + 1) 7 (rd ++ [(7, pt_cut (pm_seg ty p i))]) (A.1, A.2.1, pm_ext A.2.2.1 i, A.2.2.2) := by
  obtain ⟨a, b, c, d, e, f, g⟩ := h
  have hKne := pq_Kne e hq
  have hl := pq_cutl hne
  have hsl := pm_seg_len (a := p) hil
  obtain ⟨⟨l0, k, m, e1, hm⟩, ks, x, e2, hx⟩ := e hq
  have hm' : ∀ e ∈ m ++ [(7, pt_cut (pm_seg ty p i))], e.1 = 7 := by
    intro y hy
    rcases List.mem_append.mp hy with hy | hy
    · exact hm y hy
    · rw [List.mem_singleton] at hy
      subst hy
      rfl
  have n6 : ¬ ((6, k) : pr_E).1 = 7 := by show ¬ 6 = 7; decide
  have e3 : rd ++ [(7, pt_cut (pm_seg ty p i))] = l0 ++ (6, k) :: (m ++ [(7, pt_cut (pm_seg ty p i))]) := by rw [e1]; simp
  have e4 : pm_ext A.2.2.1 i = ks ++ [(x, i)] := by
    unfold pm_ext
    rw [e2]
    have hl1 : (ks ++ [(x, p - 1)]).length - 1 = ks.length := by simp
    rw [hl1, List.set_append_right (h := Nat.le_refl _)]
    simp
  have g6 : ∀ m : List pr_E, (∀ e ∈ m, e.1 = 7) → pq_g 6 (l0 ++ (6, k) :: m) = pq_g 6 l0 ++ [(k, m.map (·.2))] := fun m hm => by
    rw [pq_g_app 6 n6, pq_g, if_pos rfl, pq_g_7 (by decide) m hm, pq_tw_7 m hm]
  have g4 : ∀ m : List pr_E, (∀ e ∈ m, e.1 = 7) → pq_g 4 (l0 ++ (6, k) :: m) = pq_g 4 l0 := fun m hm => by
    rw [pq_g_app 4 n6, pq_g, if_neg (show ¬ ((6, k) : pr_E).1 = 4 by show ¬ 6 = 4; decide), pq_g_7 (by decide) m hm, List.append_nil]
  refine ⟨pq_N1 a (by decide) (by decide) (by decide) _ _, ?_, ?_, pq_P1 d (by omega) (by decide) _ rfl, fun z => ⟨⟨l0, k, _, e3, hm'⟩, ks, x, e4, by omega⟩, ?_, pq_L1 g (by decide) (fun z => by omega) hne (by omega) (fun _ => by omega)⟩
  · rw [e3, g4 _ hm', ← b, e1, g4 m hm]
  · rw [e1, g6 m hm, e2, List.map_append, List.map_append] at c
    obtain ⟨c1, c2⟩ := List.append_inj' c rfl
    rw [e3, g6 _ hm', e4, List.map_append (f := pq_kx), List.map_append (f := pq_ky ty), c1]
    congr 1
    simp only [List.map_cons, List.map_nil, pq_kx, pq_ky, List.cons.injEq, Prod.mk.injEq, and_true] at c2 ⊢
    refine ⟨c2.1, ?_⟩
    rw [List.map_append, List.map_cons, List.map_nil, pq_text1, c2.2, pq_more hp hsep hil (by omega) hne hi, pq_pput]
    intro z
    have := congrArg List.length z
    rw [List.length_map, pm_seg_len (by omega)] at this
    simp at this
    omega
  · unfold pq_U at f ⊢
    rw [e3, g6 _ hm', ← e3, pq_part_ne (by decide)]
    constructor
    · intro _
      right
      simp
    · intro _
      rw [f]
      exact Or.inr hKne
theorem pq_U8 (h : pq_U q rd) (hr : 8 ≤ r) (hq : ¬ q = 5) (s : List Nat) : pq_U r (rd ++ [(r, s)]) := by
  unfold pq_U at h ⊢
  rw [pq_G1 (by omega) (by omega), pq_part_ne (by omega), h]
  constructor
  · rintro (z | z)
    · exact absurd z hq
    · exact Or.inr z
  · rintro (z | z)
    · omega
    · exact Or.inr z
theorem pq_to8 (h : pq_R ty p q rd A) (hq0 : 1 ≤ q ∧ q < 8) (hq : ¬ q = 5) (hi : p ≤ i) (hil : i ≤ ty.length) (hc : pt_cut (pm_seg ty p i) = [120]) : pq_R ty (i + 1) 8 (rd ++ [(8, pt_cut (pm_seg ty p i))]) (A.1, A.2.1, A.2.2.1, some p, A.2.2.2.2) := by
  obtain ⟨a, b, c, d, e, f, g⟩ := h
  have hne : ¬ pt_cut (pm_seg ty p i) = [] := by rw [hc]; decide
  have hl := pq_cutl hne
  have hl1 : (pt_cut (pm_seg ty p i)).length = 1 := by rw [hc]; rfl
  have hsl := pm_seg_len (a := p) hil
  refine ⟨pq_N1 a (by decide) (by decide) (by decide) _ _, ?_, ?_, ⟨fun z => by omega, fun _ => ⟨p, rfl, by omega, ?_, fun z => by omega⟩⟩, fun z => by omega, pq_U8 f (by decide) hq _, pq_L1 g (by decide) (fun z => by omega) hne (by omega) (fun _ => by omega)⟩
  · rw [pq_G1 (by decide) (by decide)]; exact b
  · rw [pq_G1 (by decide) (by decide)]; exact c
  · rw [pq_priv, (d.1 hq0.2).2, if_pos (by decide), show i + 1 - 1 = i by omega, pq_pc hne]
    rfl
theorem pq_to9 (h : pq_R ty p q rd A) (hq : q = 8 ∨ q = 9) (hp : 1 ≤ p) (hsep : pb_isC (ty.getD (p - 1) 0) = true) (hi : p ≤ i) (hil : i ≤ ty.length) (hne : ¬ pt_cut (pm_seg ty p i) = []) : pq_R ty (i + 1) 9 (rd ++ [(9, pt_cut (pm_seg ty p i))]) (A.1, A.2.1, A.2.2.1, A.2.2.2.1, some i) := by
  obtain ⟨a, b, c, d, e, f, g⟩ := h
  have hl := pq_cutl hne
  have hsl := pm_seg_len (a := p) hil
  obtain ⟨x, d1, d2, d3, d4⟩ := d.2 (by omega)
  refine ⟨pq_N1 a (by decide) (by decide) (by decide) _ _, ?_, ?_, ⟨fun z => by omega, fun _ => ⟨x, d1, by omega, ?_, fun z => rfl⟩⟩, fun z => by omega, pq_U8 f (by decide) (by omega) _, pq_L1 g (by decide) (fun z => by omega) hne (by omega) (fun _ => by omega)⟩
  · rw [pq_G1 (by decide) (by decide)]; exact b
  · rw [pq_G1 (by decide) (by decide)]; exact c
  · rw [pq_priv, if_pos (by decide), pq_text1, ← d3, show i + 1 - 1 = i by omega, pq_more hp hsep hil (by omega) hne hi, pq_pput]
    intro z
    have := congrArg List.length z
    rw [List.length_map, pm_seg_len (by omega)] at this
    simp at this
    omega
end PQT
/-! one step of cutting, whatever it is -/
section PQU
variable {ty : List Nat} {p i q : Nat} {rd : List pr_E} {A : pm_A}
def pq_st (ty : List Nat) (p i q : Nat) (rd : List pr_E) (A : pm_A) : Prop := (pr_role rd (pt_cut (pm_seg ty p i)) q = 0 → pm_st ty A (pq_s q) p i = none) ∧ (¬ pr_role rd (pt_cut (pm_seg ty p i)) q = 0 → ∃ A', pm_st ty A (pq_s q) p i = some (pq_s (pr_role rd (pt_cut (pm_seg ty p i)) q), A') ∧ pq_R ty (i + 1) (pr_role rd (pt_cut (pm_seg ty p i)) q) (rd ++ [(pr_role rd (pt_cut (pm_seg ty p i)) q, pt_cut (pm_seg ty p i))]) A')
theorem pq_st_no {st : Nat} (h1 : pr_role rd (pt_cut (pm_seg ty p i)) q = 0) (h2 : pm_st ty A (pq_s q) p i = none) : pq_st ty p i q rd A := ⟨fun _ => h2, fun z => absurd h1 z⟩
theorem pq_st_yes {r : Nat} (h0 : ¬ r = 0) (h1 : pr_role rd (pt_cut (pm_seg ty p i)) q = r) {A' : pm_A} (h2 : pm_st ty A (pq_s q) p i = some (pq_s r, A')) (h3 : pq_R ty (i + 1) r (rd ++ [(r, pt_cut (pm_seg ty p i))]) A') : pq_st ty p i q rd A := by
  subst h1
  exact ⟨fun z => absurd z h0, fun _ => ⟨A', h2, h3⟩⟩
theorem pq_step_e (hc : pt_cut (pm_seg ty p i) = []) (hq : q < 10) : pq_st ty p i q rd A := by
  refine pq_st_no (st := 0) ?_ ?_
  · unfold pr_role
    rw [if_pos hc]
  · unfold pm_st
    rw [hc]
    have a1 : pb_lang [] = false := rfl
    have a2 : pb_script [] = false := rfl
    have a3 : pb_region [] = false := rfl
    have a4 : pb_variant [] = false := rfl
    have a5 : pb_key [] = false := rfl
    have a6 : pb_type [] = false := rfl
    simp [a1, a2, a3, a4, a5, a6]
theorem pq_step0 (h : pq_R ty p 0 rd A) (hi : p ≤ i) (hil : i ≤ ty.length) (hne : ¬ pt_cut (pm_seg ty p i) = []) : pq_st ty p i 0 rd A := by
  by_cases hc : pb_lang (pt_cut (pm_seg ty p i)) = true
  · refine pq_st_yes (r := 1) (by decide) ?_ ?_ (pq_to1 h hi hil hc)
    · simp [pr_role, hne, hc]
    · simp [pm_st, pq_s, hc]
  · refine pq_st_no (st := 0) ?_ ?_
    · simp [pr_role, hne, hc]
    · simp [pm_st, pq_s, hc]
theorem pq_step14 (h : pq_R ty p q rd A) (hq : 1 ≤ q ∧ q ≤ 4) (hi : p ≤ i) (hil : i ≤ ty.length) (hne : ¬ pt_cut (pm_seg ty p i) = []) : pq_st ty p i q rd A := by
  have hall := pq_allv h.2.1 hne
  have hs : pq_s q = (if q ≤ 3 then q else 3) := by
    unfold pq_s
    split
    · rfl
    · rw [if_pos (by omega)]
  have s0 : ¬ pq_s q = 0 := by rw [hs]; split <;> omega
  have s5 : ¬ 5 < pq_s q := by rw [hs]; split <;> omega
  have s4 : pq_s q < 4 := by rw [hs]; split <;> omega
  have s4' : ¬ pq_s q = 4 := by omega
  have s1 : pq_s q = 1 ↔ q < 2 := by rw [hs]; split <;> omega
  have s2 : pq_s q ≤ 2 ↔ q < 3 := by rw [hs]; split <;> omega
  have q0 : ¬ q = 0 := by omega
  have q8 : ¬ 8 ≤ q := by omega
  have q5 : ¬ q = 5 := by omega
  have q5' : ¬ 5 ≤ q := by omega
  have K := pq_kinds (pt_cut (pm_seg ty p i))
  by_cases cx : pt_cut (pm_seg ty p i) = [120]
  · have b2 : ¬ pb_script (pt_cut (pm_seg ty p i)) = true := fun z => (K.2.1 z).2.1 cx
    have b3 : ¬ pb_region (pt_cut (pm_seg ty p i)) = true := fun z => (K.2.2.1 z).2.1 cx
    refine pq_st_yes (r := 8) (by decide) ?_ ?_ (pq_to8 h (by omega) q5 hi hil cx)
    · unfold pr_role
      rw [if_neg hne, if_neg q0, if_neg q8, if_pos cx, if_neg q5]
    · unfold pm_st
      rw [if_neg s0, if_neg s5, if_neg (fun z => b2 z.2), if_neg (fun z => b3 z.2), if_pos ⟨s4', cx⟩]
      rfl
  have er : pr_role rd (pt_cut (pm_seg ty p i)) q = pr_front rd (pt_cut (pm_seg ty p i)) q := by
    unfold pr_role
    rw [if_neg hne, if_neg q0, if_neg q8, if_neg cx, if_neg q5']
  by_cases cu : pt_cut (pm_seg ty p i) = [117]
  · have b2 : ¬ pb_script (pt_cut (pm_seg ty p i)) = true := fun z => (K.2.1 z).2.2.1 cu
    have b3 : ¬ pb_region (pt_cut (pm_seg ty p i)) = true := fun z => (K.2.2.1 z).2.2 cu
    refine pq_st_yes (r := 5) (by decide) ?_ ?_ (pq_to5 h hq hi hil cu)
    · rw [er]
      unfold pr_front
      rw [if_pos cu]
    · unfold pm_st
      rw [if_neg s0, if_neg s5, if_neg (fun z => b2 z.2), if_neg (fun z => b3 z.2), if_neg (fun z => cx z.2), if_pos s4, if_pos cu]
      rfl
  by_cases c2 : q < 2 ∧ pb_script (pt_cut (pm_seg ty p i)) = true
  · refine pq_st_yes (r := 2) (by decide) ?_ ?_ (pq_to2 h (by omega) hi hil c2.2)
    · rw [er]
      unfold pr_front
      rw [if_neg cu, if_pos c2]
    · unfold pm_st
      rw [if_neg s0, if_neg s5, if_pos ⟨s1.mpr c2.1, c2.2⟩]
      rfl
  by_cases c3 : q < 3 ∧ pb_region (pt_cut (pm_seg ty p i)) = true
  · refine pq_st_yes (r := 3) (by decide) ?_ ?_ (pq_to3 h (by omega) hi hil c3.2)
    · rw [er]
      unfold pr_front
      rw [if_neg cu, if_neg c2, if_pos c3]
    · unfold pm_st
      rw [if_neg s0, if_neg s5, if_neg (fun z => c2 ⟨s1.mp z.1, z.2⟩), if_pos ⟨s2.mpr c3.1, c3.2⟩]
      rfl
  have em : pm_st ty A (pq_s q) p i = if pb_variant (pt_cut (pm_seg ty p i)) = true ∧ A.2.1.all (fun v => !pm_sm ty p i v) = true then some (3, (A.1, A.2.1 ++ [(p, i)], A.2.2)) else none := by
    unfold pm_st
    rw [if_neg s0, if_neg s5, if_neg (fun z => c2 ⟨s1.mp z.1, z.2⟩), if_neg (fun z => c3 ⟨s2.mp z.1, z.2⟩), if_neg (fun z => cx z.2), if_pos s4, if_neg cu]
  rw [hall] at em
  by_cases c4 : pb_variant (pt_cut (pm_seg ty p i)) = true ∧ pr_has rd (pt_cut (pm_seg ty p i)) 4 = false
  · refine pq_st_yes (r := 4) (by decide) ?_ ?_ (pq_to4 h hq hi hil hne)
    · rw [er]
      unfold pr_front
      rw [if_neg cu, if_neg c2, if_neg c3, if_pos c4]
    · rw [em, if_pos ⟨c4.1, by rw [c4.2]; rfl⟩]
      rfl
  · refine pq_st_no (st := 0) ?_ ?_
    · rw [er]
      unfold pr_front
      rw [if_neg cu, if_neg c2, if_neg c3, if_neg c4]
    · rw [em, if_neg (fun z => c4 ⟨z.1, by simpa using z.2⟩)]
theorem pq_step5 (h : pq_R ty p 5 rd A) (hi : p ≤ i) (hil : i ≤ ty.length) (hne : ¬ pt_cut (pm_seg ty p i) = []) : pq_st ty p i 5 rd A := by
  have hall := pq_allk h.2.2.1 hne
  have K := pq_kinds (pt_cut (pm_seg ty p i))
  have em : pm_st ty A (pq_s 5) p i = if pb_key (pt_cut (pm_seg ty p i)) = true ∧ A.2.2.1.all (fun v => !pm_km ty p i v) = true then some (5, (A.1, A.2.1, A.2.2.1 ++ [(p, i)], A.2.2.2)) else none := by
    unfold pm_st
    rw [if_neg (by decide), if_neg (by decide), if_neg (fun z => absurd z.1 (by decide)), if_neg (fun z => absurd z.1 (by decide)), if_neg (fun z => absurd z.1 (by decide)), if_neg (by decide), if_neg (fun z => absurd z.1 (by decide))]
  rw [hall] at em
  by_cases c6 : pb_key (pt_cut (pm_seg ty p i)) = true ∧ pr_has rd (pt_cut (pm_seg ty p i)) 6 = false
  · refine pq_st_yes (r := 6) (by decide) ?_ ?_ (pq_to6 h (Or.inl rfl) hi hil c6.1)
    · unfold pr_role
      rw [if_neg hne, if_neg (by decide), if_neg (by decide), if_neg ((K.2.2.2.2.1 c6.1).2.1), if_pos (by decide)]
      unfold pr_ext
      rw [if_pos c6.1, if_neg (by rw [c6.2]; decide)]
    · rw [em, if_pos ⟨c6.1, by rw [c6.2]; rfl⟩]
      rfl
  · refine pq_st_no (st := 0) ?_ ?_
    · unfold pr_role
      rw [if_neg hne, if_neg (by decide), if_neg (by decide)]
      split
      · rw [if_pos rfl]
      · rw [if_pos (by decide)]
        unfold pr_ext
        split
        · rename_i hk
          rw [if_pos]
          cases hh : pr_has rd (pt_cut (pm_seg ty p i)) 6 with
          | true => rfl
          | false => exact absurd ⟨hk, hh⟩ c6
        · rw [if_neg (fun z => z.1 rfl)]
    · rw [em, if_neg (fun z => c6 ⟨z.1, by simpa using z.2⟩)]
theorem pq_step67 (h : pq_R ty p q rd A) (hq : q = 6 ∨ q = 7) (hp : 1 ≤ p) (hsep : pb_isC (ty.getD (p - 1) 0) = true) (hi : p ≤ i) (hil : i ≤ ty.length) (hne : ¬ pt_cut (pm_seg ty p i) = []) : pq_st ty p i q rd A := by
  have hall := pq_allk h.2.2.1 hne
  have K := pq_kinds (pt_cut (pm_seg ty p i))
  have hs : pq_s q = 5 := by rcases hq with rfl | rfl <;> rfl
  have q0 : ¬ q = 0 := by omega
  have q8 : ¬ 8 ≤ q := by omega
  have q5 : ¬ q = 5 := by omega
  have q5' : 5 ≤ q := by omega
  by_cases cx : pt_cut (pm_seg ty p i) = [120]
  · refine pq_st_yes (r := 8) (by decide) ?_ ?_ (pq_to8 h (by omega) q5 hi hil cx)
    · unfold pr_role
      rw [if_neg hne, if_neg q0, if_neg q8, if_pos cx, if_neg q5]
    · unfold pm_st
      rw [hs, if_neg (by decide), if_neg (by decide), if_neg (fun z => absurd z.1 (by decide)), if_neg (fun z => absurd z.1 (by decide)), if_pos ⟨by decide, cx⟩]
      rfl
  have er : pr_role rd (pt_cut (pm_seg ty p i)) q = pr_ext rd (pt_cut (pm_seg ty p i)) q := by
    unfold pr_role
    rw [if_neg hne, if_neg q0, if_neg q8, if_neg cx, if_pos q5']
  have em : pm_st ty A (pq_s q) p i = if 5 = 5 ∧ pb_type (pt_cut (pm_seg ty p i)) = true then some (5, (A.1, A.2.1, pm_ext A.2.2.1 i, A.2.2.2)) else if pb_key (pt_cut (pm_seg ty p i)) = true ∧ A.2.2.1.all (fun v => !pm_km ty p i v) = true then some (5, (A.1, A.2.1, A.2.2.1 ++ [(p, i)], A.2.2.2)) else none := by
    unfold pm_st
    rw [hs, if_neg (by decide), if_neg (by decide), if_neg (fun z => absurd z.1 (by decide)), if_neg (fun z => absurd z.1 (by decide)), if_neg (fun z => cx z.2), if_neg (by decide)]
  rw [hall] at em
  by_cases c7 : pb_type (pt_cut (pm_seg ty p i)) = true
  · have nk : ¬ pb_key (pt_cut (pm_seg ty p i)) = true := fun z => by rw [(K.2.2.2.2.1 z).2.2] at c7; cases c7
    refine pq_st_yes (r := 7) (by decide) ?_ ?_ (pq_to7 h hq hp hsep hi hil hne)
    · rw [er]
      unfold pr_ext
      rw [if_neg nk, if_pos ⟨q5, c7⟩]
    · rw [em, if_pos ⟨rfl, c7⟩]
      rfl
  by_cases c6 : pb_key (pt_cut (pm_seg ty p i)) = true ∧ pr_has rd (pt_cut (pm_seg ty p i)) 6 = false
  · refine pq_st_yes (r := 6) (by decide) ?_ ?_ (pq_to6 h (Or.inr hq) hi hil c6.1)
    · rw [er]
      unfold pr_ext
      rw [if_pos c6.1, if_neg (by rw [c6.2]; decide)]
    · rw [em, if_neg (fun z => c7 z.2), if_pos ⟨c6.1, by rw [c6.2]; rfl⟩]
      rfl
  · refine pq_st_no (st := 0) ?_ ?_
    · rw [er]
      unfold pr_ext
      split
      · rename_i hk
        rw [if_pos]
        cases hh : pr_has rd (pt_cut (pm_seg ty p i)) 6 with
        | true => rfl
        | false => exact absurd ⟨hk, hh⟩ c6
      · rw [if_neg (fun z => c7 z.2)]
    · rw [em, if_neg (fun z => c7 z.2), if_neg (fun z => c6 ⟨z.1, by simpa using z.2⟩)]
theorem pq_step89 (h : pq_R ty p q rd A) (hq : q = 8 ∨ q = 9) (hp : 1 ≤ p) (hsep : pb_isC (ty.getD (p - 1) 0) = true) (hi : p ≤ i) (hil : i ≤ ty.length) (hne : ¬ pt_cut (pm_seg ty p i) = []) : pq_st ty p i q rd A := by
  have s0 : ¬ pq_s q = 0 := by rcases hq with rfl | rfl <;> decide
  have s5 : 5 < pq_s q := by rcases hq with rfl | rfl <;> decide
  refine pq_st_yes (r := 9) (by decide) ?_ ?_ (pq_to9 h hq hp hsep hi hil hne)
  · unfold pr_role
    rw [if_neg hne, if_neg (by omega), if_pos (by omega)]
  · unfold pm_st
    rw [if_neg s0, if_pos s5, if_pos hne]
    rfl
theorem pq_step (h : pq_R ty p q rd A) (hq : q < 10) (hsep : ¬ q = 0 → 1 ≤ p ∧ pb_isC (ty.getD (p - 1) 0) = true) (hi : p ≤ i) (hil : i ≤ ty.length) : pq_st ty p i q rd A := by
  by_cases hne : pt_cut (pm_seg ty p i) = []
  · exact pq_step_e hne hq
  by_cases h0 : q = 0
  · subst h0
    exact pq_step0 h hi hil hne
  obtain ⟨hp, hs⟩ := hsep h0
  by_cases h4 : q ≤ 4
  · exact pq_step14 h (by omega) hi hil hne
  by_cases h5 : q = 5
  · subst h5
    exact pq_step5 h hi hil hne
  by_cases h7 : q ≤ 7
  · exact pq_step67 h (by omega) hp hs hi hil hne
  · exact pq_step89 h (by omega) hp hs hi hil hne
end PQU
/-! cutting to the end: the class and the model -/
def pq_O (ty : List Nat) (a b : Nat) (X : Nat ⊕ List pr_E) (Y : Nat ⊕ (Nat × pm_A)) : Prop := match X, Y with
  | .inl e, .inl e' => e + a = e'
  | .inl e, .inr r => (r.1 = 4 ∨ r.1 = 6) ∧ e + a = b
  | .inr rd, .inr r => ¬ (r.1 = 4 ∨ r.1 = 6) ∧ ∃ q, (pq_R ty (b + 1) q rd r.2 ∧ q < 10) ∧ ¬ q = 0 ∧ ¬ q = 5 ∧ ¬ q = 8
  | .inr _, .inl _ => False
section PQR
variable {ty : List Nat} {a b : Nat}
theorem pq_30 {p i q : Nat} {rd : List pr_E} {A : pm_A} (h : pq_R ty p q rd A) (h60 : ty.length ≤ 60) (hi : p ≤ i) (hil : i ≤ ty.length) (hr : ¬ pr_role rd (pt_cut (pm_seg ty p i)) q = 0) : ¬ 30 ≤ rd.length := by
  have hne := pr_role_1.1 hr
  have h1 := (pq_cut_in hne).1
  rw [pm_seg_len hil] at h1
  obtain ⟨-, -, -, -, -, -, -, g2, g3, -⟩ := h
  by_cases h0 : q = 0
  · rw [g2 h0]
    decide
  · have := g3 h0
    omega
theorem pq_fin {q : Nat} {rd : List pr_E} {A : pm_A} (h : pq_R ty (b + 1) q rd A) (hq : q < 10) (h0 : ¬ q = 0) {off : Nat} (ho : off + a = b + 1) (h1 : 1 ≤ off) : pq_O ty a b (pr_run [] off q rd) (.inr (pq_s q, A)) := by
  have hs : pq_s q = 4 ∨ pq_s q = 6 ↔ q = 5 ∨ q = 8 := by
    unfold pq_s
    split
    · omega
    · split
      · omega
      · split
        · omega
        · split <;> omega
  unfold pr_run
  by_cases hc : q = 5 ∨ q = 8
  · rw [if_pos hc]
    exact ⟨hs.mpr hc, (show off - 1 + a = b by omega)⟩
  · rw [if_neg hc]
    exact ⟨fun z => hc (hs.mp z), q, ⟨h, hq⟩, h0, by omega, by omega⟩
theorem pq_run (hb : b ≤ ty.length) (h60 : ty.length ≤ 60) : ∀ (n i p q : Nat) (rd : List pr_E) (A : pm_A), i + n = b → a ≤ p → p ≤ i → q < 10 → (¬ q = 0 → 1 ≤ p ∧ pb_isC (ty.getD (p - 1) 0) = true) → pq_R ty p q rd A → pq_O ty a b (pr_run (pr_segs (pm_seg ty p i) (pm_seg ty i b)) (p - a) q rd) (pm_run ty b (n + 1) (pq_s q) p i A) := by
  intro n
  induction n with
  | zero =>
    intro i p q rd A hi hap hpi hq hsep hR
    have hib : i = b := by omega
    subst hib
    have S := pq_step hR hq hsep hpi hb
    rw [pm_seg_nil, pr_segs, pm_run, if_pos (Or.inl rfl), pr_run]
    by_cases hr : pr_role rd (pt_cut (pm_seg ty p i)) q = 0
    · rw [if_pos (Or.inl hr), S.1 hr]
      show p - a + a = p
      omega
    · have h30 := pq_30 hR h60 hpi hb hr
      obtain ⟨A', e, hR'⟩ := S.2 hr
      rw [if_neg (fun z => z.elim hr h30), e]
      show pq_O ty a i _ (pm_run ty i 0 _ _ _ A')
      rw [pm_run]
      refine pq_fin hR' (pr_role_lt _ _ _) hr ?_ (by omega)
      rw [pm_seg_len hb]
      omega
  | succ n ih =>
    intro i p q rd A hi hap hpi hq hsep hR
    have hil : i < ty.length := by omega
    rw [pm_seg_cons (show i < b by omega) hb, pr_segs, pm_run]
    by_cases hc : pb_isC (ty.getD i 0) = true
    · have S := pq_step hR hq hsep hpi (show i ≤ ty.length by omega)
      rw [if_pos hc, if_pos (Or.inr hc), pr_run]
      by_cases hr : pr_role rd (pt_cut (pm_seg ty p i)) q = 0
      · rw [if_pos (Or.inl hr), S.1 hr]
        show p - a + a = p
        omega
      · have h30 := pq_30 hR h60 hpi (show i ≤ ty.length by omega) hr
        obtain ⟨A', e, hR'⟩ := S.2 hr
        rw [if_neg (fun z => z.elim hr h30), e]
        have := ih (i + 1) (i + 1) _ _ A' (by omega) (by omega) (Nat.le_refl _) (pr_role_lt _ _ _) (fun _ => ⟨by omega, by rw [show i + 1 - 1 = i by omega]; exact hc⟩) hR'
        rw [pm_seg_nil, show i + 1 - a = p - a + (pm_seg ty p i).length + 1 by rw [pm_seg_len (by omega)]; omega] at this
        exact this
    · rw [if_neg hc, if_neg (fun z => z.elim (by omega) hc)]
      have := ih (i + 1) p q rd A (by omega) hap (by omega) hq hsep hR
      rw [pq_seg (a := p) (b := i) (c := i + 1) hpi (by omega), pq_seg1 hil] at this
      exact this
theorem pq_cutall (hab : a ≤ b) (hb : b ≤ ty.length) (h60 : ty.length ≤ 60) : pq_O ty a b (pr_cut ty a b) (pm_run ty b (b + 1 - a) 0 a a pm_A0) := by
  have := pq_run (a := a) hb h60 (b - a) a a 0 [] pm_A0 (by omega) (Nat.le_refl _) (Nat.le_refl _) (by decide) (fun z => absurd rfl z) (pq_R0 ty a)
  rw [pm_seg_nil, Nat.sub_self, show b - a + 1 = b + 1 - a by omega] at this
  exact this
end PQR
