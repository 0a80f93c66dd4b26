/-! the model: cutting off, lookup -/
def pm_ct (σ : pu_S) (l : List Nat) : Prop := σ.1 248 15 = nI l.length ∧ (∀ i, i < l.length → σ.2.2.1 255 i = nI (l.getD i 0)) ∧ l.length ≤ 80 ∧ ∀ c ∈ l, c < 128
theorem pm_ct.fr {S T : Nat → Prop} {σ τ : pu_S} {l : List Nat} (hp : pm_ct σ l) (hf : pm_fr S T σ τ) (h1 : ¬ S 255) (h2 : ¬ T 15) : pm_ct τ l :=
  ⟨(hf.2 15 h2).trans hp.1, fun i hi => (hf.1 255 h1 (by decide) i).2.2.1.trans (hp.2.1 i hi), hp.2.2⟩
theorem pm_ct_take {σ : pu_S} {l : List Nat} (h : pm_ct σ l) {n : Nat} (hn : n ≤ l.length) : pm_ct (pu_sI σ 248 15 (nI n)) (l.take n) := by
  have hl : (l.take n).length = n := by simp; omega
  refine ⟨by simp [pu_sI, hl], fun i hi => ?_, by rw [hl]; have := h.2.2.1; omega, fun c hc => h.2.2.2 c (List.mem_of_mem_take hc)⟩
  rw [hl] at hi
  have := h.2.1 i (by omega)
  rw [List.getD_eq_getElem?_getD, List.getElem?_take_of_lt hi, ← List.getD_eq_getElem?_getD]
  exact this
theorem pm_ct_at {σ : pu_S} {l : List Nat} (h : pm_ct σ l) {i : Nat} (hi : i < l.length) : im_lI (pu_mk σ) 2 255 (nI i) = some (nI (l.getD i 0)) := by
  have := h.2.2.1
  rw [pm_l255 σ (by omega), h.2.1 i hi]
def pm_V (k : Nat) : Prop := k = 15
section MDL
variable {F : Nat} {σ τ : pu_S} {ty sh : List Nat} {al : List pa_E} {lk pa : List pp_E} {tg : List pg_E} {su : List Nat} {pl : Int32}
theorem pm_startCut (hF : 100 ≤ F) (hx : pm_fs σ (tg.map pm_txt)) {t : Nat} (ht : t < tg.length) : ∃ τ, sh_Model_startCut F 248 (nI t) (pu_mk σ) = some (pu_mk τ) ∧ pm_ct τ (pm_txt (tg.getD t pg_0)) ∧ pm_fr (fun x => x = 255) pm_V σ τ := by
  obtain ⟨h80, h128⟩ := pm_fs_row hx ht
  have hlen := pm_fs_len hx ht
  generalize hX : pm_txt (tg.getD t pg_0) = X at *
  have f0 : pm_fr (fun x => x = 255) pm_V σ (pu_sI σ 248 15 (nI X.length)) := pm_fr.sI rfl
  have x0 : pm_fs (pu_sI σ 248 15 (nI X.length)) (tg.map pm_txt) := hx.fr f0 (by unfold pm_V; decide) (by decide) (by decide)
  have hch := fun i hi => pm_fs_ch x0 ht (i := i) hi
  rw [hX] at hch
  have h16 := hx.2.1
  rw [List.length_map] at h16
  have loop : ∀ (n f i : Nat), i + n = X.length → n + 1 ≤ f → sh_Model_startCut_12 F f 248 (nI t) (nI i) (pu_mk (pm_cp (pu_sI σ 248 15 (nI X.length)) 255 0 (X.take i))) = some (pu_mk (pm_cp (pu_sI σ 248 15 (nI X.length)) 255 0 X)) := by
    have r15 : ∀ l, (pm_cp (pu_sI σ 248 15 (nI X.length)) 255 0 l).1 248 15 = nI X.length := fun l => by
      show (pu_sI σ 248 15 (nI X.length)).1 248 15 = _
      simp [pu_sI]
    intro n
    induction n with
    | zero =>
      intro f i hi hf
      obtain ⟨g, rfl⟩ : ∃ g, f = g + 1 := ⟨f - 1, by omega⟩
      have hi' : i = X.length := by omega
      subst hi'
      rw [List.take_length, sh_Model_startCut_12, pm_15, Option.bind_some, r15, if_pos (nI_le (Nat.le_refl _) (by omega))]
    | succ n ih =>
      intro f i hi hf
      obtain ⟨g, rfl⟩ : ∃ g, f = g + 1 := ⟨f - 1, by omega⟩
      have hil : i < X.length := by omega
      have src : im_lI (pu_mk (pm_cp (pu_sI σ 248 15 (nI X.length)) 255 0 (X.take i))) 2 266 (nI (80 * t + i)) = some (nI (X.getD i 0)) := by
        have := hch i hil
        rw [pm_l266 _ (by omega)] at this ⊢
        rw [pm_cp_o (by decide)]
        exact this
      have cp := pm_cp1 (pu_sI σ 248 15 (nI X.length)) 255 0 hil
      rw [Nat.zero_add] at cp
      rw [sh_Model_startCut_12, pm_15, Option.bind_some, r15, if_neg (show ¬ nI X.length ≤ nI i from fun z => by rw [nI_leI (by omega) (by omega)] at z; omega), pm_16, Option.bind_some, pm_32, Option.bind_some, pm_80, src, Option.bind_some, pm_c128 h128, pm_t255 _ _ (show i < 80 by omega), Option.bind_some, nI_1, cp]
      exact ih g (i + 1) (by omega) (by omega)
  refine ⟨_, ?_, ⟨?_, fun i hi => ?_, h80, h128⟩, f0.tr (pm_cp_fr (h := 255) (off := 0) (l := X) rfl)⟩
  · have := loop X.length F 0 (by omega) (by omega)
    rw [List.take_zero, pm_cp0, nI_0] at this
    unfold sh_Model_startCut
    rw [pm_33, Option.bind_some, hlen, Option.bind_some, pm_p15, Option.bind_some, this]
  · show (pu_sI σ 248 15 (nI X.length)).1 248 15 = _
    simp [pu_sI]
  · have := pm_cp_at (σ := pu_sI σ 248 15 (nI X.length)) (h := 255) (off := 0) hi
    rw [Nat.zero_add] at this
    exact this
theorem pm_dl36 {l : List Nat} (h : pm_ct σ l) : ∃ τ, sh_Model_dropLast_36 F 248 (pu_mk σ) = some (pu_mk τ) ∧ pm_ct τ (l.take (l.length - 1)) ∧ pm_fr (fun _ => False) pm_V σ τ := by
  have h80 := h.2.2.1
  refine ⟨pu_sI σ 248 15 (nI (l.length - 1)), ?_, pm_ct_take h (by omega), pm_fr.sI rfl⟩
  unfold sh_Model_dropLast_36 sh_Model_dropLast_54
  rw [pm_15, Option.bind_some, h.1]
  by_cases h0 : l.length = 0
  · rw [h0, if_pos (show nI 0 ≤ 0 by decide), pm_p15, Option.bind_some, show 0 - 1 = 0 from rfl, nI_0]
  · rw [if_neg (nI_nle (by omega) (by omega)), Option.bind_some, show nI l.length - (1 : Int32) = nI (l.length - 1) from pn_sub (b := 1) (by omega), pm_p15, Option.bind_some]
theorem pm_dl0 {pre : List Nat} (hpre : pre = [] ∨ ∃ p, pre = p ++ [45]) : ∀ (r : List Nat) (f : Nat) (σ : pu_S), r.length + 1 ≤ f → (∀ c ∈ r, ¬ c = 45) → pm_ct σ (pre ++ r.reverse) → ∃ τ, sh_Model_dropLast_0 F f 248 (pu_mk σ) = some (pu_mk τ) ∧ pm_ct τ (pre.take (pre.length - 1)) ∧ pm_fr (fun _ => False) pm_V σ τ := by
  intro r
  induction r with
  | nil =>
    intro f σ hf _ h
    obtain ⟨g, rfl⟩ : ∃ g, f = g + 1 := ⟨f - 1, by omega⟩
    rw [List.reverse_nil, List.append_nil] at h
    have h80 := h.2.2.1
    have e := pm_dl36 (F := F) h
    rw [sh_Model_dropLast_0, pm_15, Option.bind_some, h.1]
    rcases hpre with hp | ⟨p, hp⟩
    · subst hp
      rw [if_pos (show nI ([] : List Nat).length ≤ 0 by decide)]
      exact e
    · have hl : pre.length = p.length + 1 := by rw [hp]; simp
      have hc : pre.getD (pre.length - 1) 0 = 45 := by
        rw [hl, show p.length + 1 - 1 = p.length by omega, hp, List.getD_eq_getElem?_getD, List.getElem?_append_right (Nat.le_refl _)]
        simp
      have hat := pm_ct_at h (i := pre.length - 1) (by omega)
      rw [hc] at hat
      rw [if_neg (nI_nle (by omega) (by omega)), pm_16, Option.bind_some, Option.bind_some, show nI pre.length - (1 : Int32) = nI (pre.length - 1) from pn_sub (b := 1) (by omega), hat, Option.bind_some, if_pos (show nI 45 = (45 : Int32) from rfl)]
      exact e
  | cons c r ih =>
    intro f σ hf hr h
    obtain ⟨g, rfl⟩ : ∃ g, f = g + 1 := ⟨f - 1, by omega⟩
    rw [List.length_cons] at hf
    have h80 := h.2.2.1
    have hl : (pre ++ (c :: r).reverse).length = (pre ++ r.reverse).length + 1 := by simp; omega
    have htk : (pre ++ (c :: r).reverse).take (pre ++ r.reverse).length = pre ++ r.reverse := by
      rw [List.reverse_cons, ← List.append_assoc, List.take_append_of_le_length (Nat.le_refl _), List.take_length]
    have hc : (pre ++ (c :: r).reverse).getD ((pre ++ (c :: r).reverse).length - 1) 0 = c := by
      rw [hl, show (pre ++ r.reverse).length + 1 - 1 = (pre ++ r.reverse).length by omega, List.reverse_cons, ← List.append_assoc, List.getD_eq_getElem?_getD, List.getElem?_append_right (Nat.le_refl _)]
      simp
    have hat := pm_ct_at h (i := (pre ++ (c :: r).reverse).length - 1) (by omega)
    have hcl : c < 128 := by
      have := pm_tylt h.2.2.2 ((pre ++ (c :: r).reverse).length - 1)
      rw [hc] at this
      exact this
    rw [hc] at hat
    have c45 : nI c = (45 : Int32) ↔ c = 45 := nI_eq (b := 45) (by omega) (by decide)
    have tk := pm_ct_take h (n := (pre ++ r.reverse).length) (by omega)
    rw [htk] at tk
    obtain ⟨τ, e1, e2, e3⟩ := ih g _ (by omega) (fun x hx => hr x (List.mem_cons_of_mem _ hx)) tk
    refine ⟨τ, ?_, e2, (pm_fr.sI (T := pm_V) rfl).tr e3⟩
    rw [sh_Model_dropLast_0, pm_15, Option.bind_some, h.1, if_neg (nI_nle (by omega) (by omega)), pm_16, Option.bind_some, Option.bind_some, show nI (pre ++ (c :: r).reverse).length - (1 : Int32) = nI ((pre ++ (c :: r).reverse).length - 1) from pn_sub (b := 1) (by omega), hat, Option.bind_some, if_neg (fun z => hr c List.mem_cons_self (c45.mp z)), Option.bind_some, show nI (pre ++ (c :: r).reverse).length - (1 : Int32) = nI ((pre ++ (c :: r).reverse).length - 1) from pn_sub (b := 1) (by omega), pm_p15, Option.bind_some]
    rw [show (pre ++ (c :: r).reverse).length - 1 = (pre ++ r.reverse).length by omega]
    exact e1
theorem pf_text_snoc (ps : List (List Nat)) (p : List Nat) (hc : pf_cl ps) (hne : ¬ ps = []) : pf_text [] (ps ++ [p]) = pf_text [] ps ++ [45] ++ p := by
  rw [pq_text1, pq_pput (pq_text_ne (fun x hx => (hc x hx).1) hne)]
  simp
theorem pm_dropLast (hF : 100 ≤ F) {ps : List (List Nat)} {p : List Nat} (hc : pf_cl (ps ++ [p])) (h : pm_ct σ (pf_text [] (ps ++ [p]))) : ∃ τ, sh_Model_dropLast F 248 (pu_mk σ) = some (pu_mk τ) ∧ pm_ct τ (pf_text [] ps) ∧ pm_fr (fun _ => False) pm_V σ τ := by
  have h80 := h.2.2.1
  have hp := hc p (List.mem_append.mpr (Or.inr (List.mem_singleton.mpr rfl)))
  have hps : pf_cl ps := fun x hx => hc x (List.mem_append.mpr (Or.inl hx))
  have hr : ∀ c ∈ p.reverse, ¬ c = 45 := fun c hc => pf_ok1_45 hp c (List.mem_reverse.mp hc)
  unfold sh_Model_dropLast
  by_cases hne : ps = []
  · subst hne
    have e : pf_text [] ([] ++ [p]) = [] ++ p.reverse.reverse := by
      rw [List.reverse_reverse]
      show pt_put [] p = p
      simp [pt_put]
    rw [e] at h h80
    exact pm_dl0 (pre := []) (Or.inl rfl) p.reverse F σ (by have : ([] ++ p.reverse.reverse).length ≤ 80 := h80; rw [List.reverse_reverse] at this; rw [List.length_reverse]; simp at this; omega) hr h
  · have e := pf_text_snoc ps p hps hne
    rw [e] at h80
    rw [e, ← List.reverse_reverse p] at h
    obtain ⟨τ, e1, e2, e3⟩ := pm_dl0 (F := F) (pre := pf_text [] ps ++ [45]) (Or.inr ⟨_, rfl⟩) p.reverse F σ (by rw [List.length_append] at h80; rw [List.length_reverse]; omega) hr h
    refine ⟨τ, e1, ?_, e3⟩
    have : (pf_text [] ps ++ [45]).take ((pf_text [] ps ++ [45]).length - 1) = pf_text [] ps := by
      rw [List.length_append, show (pf_text [] ps).length + [45].length - 1 = (pf_text [] ps).length by simp, List.take_append_of_le_length (Nat.le_refl _), List.take_length]
    rw [this] at e2
    exact e2
def pf_h2 (cur : List (List Nat)) : Prop := ∀ p l, cur = p :: l → 2 ≤ p.length
theorem pm_trunc (hF : 100 ≤ F) {cur : List (List Nat)} (hne : ¬ cur = []) (hc : pf_cl cur) (h2 : pf_h2 cur) (h : pm_ct σ (pf_text [] cur)) : ∃ τ, sh_Model_truncate F 248 (pu_mk σ) = some (pu_mk τ) ∧ pm_ct τ (pf_text [] (pf_cutl cur)) ∧ pm_fr (fun _ => False) pm_V σ τ := by
  obtain ⟨ps, p, rfl⟩ : ∃ ps p, cur = ps ++ [p] := ⟨cur.dropLast, cur.getLast hne, (List.dropLast_concat_getLast hne).symm⟩
  obtain ⟨τ, e1, t1, f1⟩ := pm_dropLast hF hc h
  have h80 := t1.2.2.1
  have hps : pf_cl ps := fun x hx => hc x (List.mem_append.mpr (Or.inl hx))
  unfold sh_Model_truncate sh_Model_truncate_32
  rw [pm_i, Option.bind_some, e1, Option.bind_some, pm_15, Option.bind_some, t1.1]
  have k1 : nI (pf_text [] ps).length ≤ (1 : Int32) ↔ (pf_text [] ps).length ≤ 1 := nI_leI (b := 1) (by omega) (by decide)
  have cutA : ∀ m, m = ps.length → (ps ++ [p]).take m = ps := fun m hm => by rw [hm, List.take_append_of_le_length (Nat.le_refl _), List.take_length]
  by_cases hpe : ps = []
  · subst hpe
    rw [if_pos (k1.mpr (by show 0 ≤ 1; omega))]
    refine ⟨τ, rfl, ?_, f1⟩
    have : pf_cutl ([] ++ [p]) = [] := by
      unfold pf_cutl pf_tr
      simp
    rw [this]
    exact t1
  · obtain ⟨qs, r, rfl⟩ : ∃ qs r, ps = qs ++ [r] := ⟨ps.dropLast, ps.getLast hpe, (List.dropLast_concat_getLast hpe).symm⟩
    have hr := hps r (List.mem_append.mpr (Or.inr (List.mem_singleton.mpr rfl)))
    have hqs : pf_cl qs := fun x hx => hps x (List.mem_append.mpr (Or.inl hx))
    have hr1 : 1 ≤ r.length := by
      have := hr.1
      cases r with
      | nil => exact absurd rfl this
      | cons c l => simp
    have hgr : ((qs ++ [r]) ++ [p]).getD (((qs ++ [r]) ++ [p]).length - 2) [] = r := by
      have : ((qs ++ [r]) ++ [p]).length - 2 = qs.length := by simp
      rw [this, List.append_assoc, List.getD_eq_getElem?_getD, List.getElem?_append_right (Nat.le_refl _)]
      simp
    have hm2 : 2 ≤ ((qs ++ [r]) ++ [p]).length := by simp
    by_cases hl1 : r.length = 1
    · have hqe : ¬ qs = [] := by
        intro z
        subst z
        have := h2 r [p] rfl
        omega
      have et := pf_text_snoc qs r hqs hqe
      have hT : 1 ≤ (pf_text [] qs).length := by
        have := pq_text_ne (fun x hx => (hqs x hx).1) hqe
        cases hh : pf_text [] qs with
        | nil => exact absurd hh this
        | cons c l => simp
      have hlen : (pf_text [] (qs ++ [r])).length = (pf_text [] qs).length + 2 := by
        rw [et, List.length_append, List.length_append, hl1]
        rfl
      have hch : (pf_text [] (qs ++ [r])).getD ((pf_text [] (qs ++ [r])).length - 2) 0 = 45 := by
        rw [hlen, show (pf_text [] qs).length + 2 - 2 = (pf_text [] qs).length by omega, et, List.append_assoc, List.getD_eq_getElem?_getD, List.getElem?_append_right (Nat.le_refl _)]
        simp
      have hat := pm_ct_at t1 (i := (pf_text [] (qs ++ [r])).length - 2) (by omega)
      rw [hch] at hat
      obtain ⟨ρ, e2, t2, f2⟩ := pm_dropLast hF hps t1
      rw [if_neg (fun z => by have := k1.mp z; omega), pm_16, Option.bind_some, Option.bind_some, show nI (pf_text [] (qs ++ [r])).length - (2 : Int32) = nI ((pf_text [] (qs ++ [r])).length - 2) from pn_sub (b := 2) (by omega), hat, Option.bind_some, if_pos (show nI 45 = (45 : Int32) from rfl), pm_i, Option.bind_some, e2, Option.bind_some]
      refine ⟨ρ, rfl, ?_, f1.tr f2⟩
      have : pf_cutl ((qs ++ [r]) ++ [p]) = qs := by
        unfold pf_cutl pf_tr
        rw [hgr, if_pos ⟨hm2, hl1⟩, show ((qs ++ [r]) ++ [p]).length - 2 = qs.length by simp, List.append_assoc, List.take_append_of_le_length (Nat.le_refl _), List.take_length]
      rw [this]
      exact t2
    · have hcut : pf_cutl ((qs ++ [r]) ++ [p]) = qs ++ [r] := by
        unfold pf_cutl pf_tr
        rw [hgr, if_neg (fun z => hl1 z.2)]
        exact cutA _ (by simp)
      have hlen2 : ∃ T, pf_text [] (qs ++ [r]) = T ++ r := by
        by_cases hqe : qs = []
        · subst hqe
          refine ⟨[], ?_⟩
          show pt_put [] r = [] ++ r
          simp [pt_put]
        · exact ⟨_, pf_text_snoc qs r hqs hqe⟩
      obtain ⟨T, hT⟩ := hlen2
      have hle : (pf_text [] (qs ++ [r])).length = T.length + r.length := by rw [hT, List.length_append]
      have hat := pm_ct_at t1 (i := (pf_text [] (qs ++ [r])).length - 2) (by omega)
      have hch : ¬ (pf_text [] (qs ++ [r])).getD ((pf_text [] (qs ++ [r])).length - 2) 0 = 45 := by
        rw [hle, hT, List.getD_eq_getElem?_getD, List.getElem?_append_right (by omega), ← List.getD_eq_getElem?_getD]
        have : r.getD (T.length + r.length - 2 - T.length) 0 ∈ r := pb_getG 0 (by omega)
        exact pf_ok1_45 hr _ this
      have c45 : nI ((pf_text [] (qs ++ [r])).getD ((pf_text [] (qs ++ [r])).length - 2) 0) = (45 : Int32) ↔ (pf_text [] (qs ++ [r])).getD ((pf_text [] (qs ++ [r])).length - 2) 0 = 45 := nI_eq (b := 45) (by have := pm_tylt t1.2.2.2 ((pf_text [] (qs ++ [r])).length - 2); omega) (by decide)
      rw [if_neg (fun z => by have := k1.mp z; omega), pm_16, Option.bind_some, Option.bind_some, show nI (pf_text [] (qs ++ [r])).length - (2 : Int32) = nI ((pf_text [] (qs ++ [r])).length - 2) from pn_sub (b := 2) (by omega), hat, Option.bind_some, if_neg (fun z => hch (c45.mp z))]
      exact ⟨τ, rfl, by rw [hcut]; exact t1, f1⟩
end MDL
