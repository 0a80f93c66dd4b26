/-! what is likely -/
def pl_or {α : Type} (a b : Option α) : Option α := match a with
  | some x => some x
  | none => b
/-- which pair is meant for a core -/
def pl_s {α : Type} (look : pc_C → Option α) (k : pc_C) : Option α :=
  pl_or (pl_or (pl_or (pl_or (if k.2.1 = [] ∨ k.2.2 = [] then none else look k) (if k.2.2 = [] then none else look (k.1, [], k.2.2))) (if k.2.1 = [] then none else look (k.1, k.2.1, []))) (look (k.1, [], []))) (if k.2.1 = [] then none else look (pc_und, k.2.1, []))
theorem pl_or_map {α β : Type} (g : α → β) (a b : Option α) : pl_or (a.map g) (b.map g) = (pl_or a b).map g := by cases a <;> rfl
theorem pl_s_map {α β : Type} (look : pc_C → Option α) (g : α → β) (k : pc_C) : pl_s (fun m => (look m).map g) k = (pl_s look k).map g := by
  have h : ∀ (c : Prop) [Decidable c] (a : Option α), (if c then none else a.map g) = (if c then none else a).map g := fun c _ a => by split <;> rfl
  simp only [pl_s, h, pl_or_map]
theorem pl_s_P {α : Type} {P : α → Prop} {look : pc_C → Option α} (h : ∀ m x, look m = some x → P x) {k : pc_C} {x : α} (hx : pl_s look k = some x) : P x := by
  have h2 : ∀ (c : Prop) [Decidable c] (m : pc_C) (x : α), (if c then none else look m) = some x → P x := fun c _ m x e => by
    split at e
    · cases e
    · exact h m x e
  have h3 : ∀ (a b : Option α), (∀ x, a = some x → P x) → (∀ x, b = some x → P x) → ∀ x, pl_or a b = some x → P x := fun a b ha hb x e => by
    cases a with
    | none => exact hb x e
    | some y => exact ha x e
  exact h3 _ _ (h3 _ _ (h3 _ _ (h3 _ _ (h2 _ _) (h2 _ _)) (h2 _ _)) (h _)) (h2 _ _) x hx
def pl_i (lk : List pp_E) (k : pc_C) : Option Nat := pl_s (fun m => lk.findIdx? (fun e => decide (e.1 = m))) k
theorem pl_i_lt {lk : List pp_E} {k : pc_C} {i : Nat} (h : pl_i lk k = some i) : i < lk.length := pl_s_P (P := fun i => i < lk.length) (fun m x e => (List.findIdx?_eq_some_iff_getElem.mp e).1) h
/-- filling in what is likely -/
def pl_max (lk : List pp_E) (k : pc_C) : pc_C := if ¬ k.2.1 = [] ∧ ¬ k.2.2 = [] ∧ ¬ k.1 = pc_und then k else match pl_i lk k with
  | some i => pc_fill k (lk.getD i pp_0).2
  | none => k
def pl_min (lk : List pp_E) (k : pc_C) : pc_C :=
  if pl_max lk ((pl_max lk k).1, [], []) = pl_max lk k then ((pl_max lk k).1, [], [])
  else if ¬ (pl_max lk k).2.2 = [] ∧ pl_max lk ((pl_max lk k).1, [], (pl_max lk k).2.2) = pl_max lk k then ((pl_max lk k).1, [], (pl_max lk k).2.2)
  else if ¬ (pl_max lk k).2.1 = [] ∧ pl_max lk ((pl_max lk k).1, (pl_max lk k).2.1, []) = pl_max lk k then ((pl_max lk k).1, (pl_max lk k).2.1, [])
  else pl_max lk k
theorem pl_sk : pu_sk 138 = some (.inr (3, [14, 141, 142, 143])) := by decide +kernel
theorem pl_c1 : pc_sk 139 := by unfold pc_sk; decide +kernel
theorem pl_c2 : pc_sk 140 := by unfold pc_sk; decide +kernel
theorem pl_c3 : pc_sk 141 := by unfold pc_sk; decide +kernel
theorem im_b2_s {α β γ : Type} {a : α} {b : β} {f : α → β → Option γ} : im_b2 (some (a, b)) f = f a b := rfl
section LIK
variable {F c d : Nat} {σ : pu_S} {lk : List pp_E} {k : pc_C}
theorem pl_g0 (σ : pu_S) : im_gR (pu_mk σ) 3 138 0 = some 12 := pu_gR pl_sk rfl σ
theorem pl_g1 (σ : pu_S) : im_gR (pu_mk σ) 3 138 1 = some 139 := pu_gR pl_sk rfl σ
theorem pl_g2 (σ : pu_S) : im_gR (pu_mk σ) 3 138 2 = some 140 := pu_gR pl_sk rfl σ
theorem pl_g3 (σ : pu_S) : im_gR (pu_mk σ) 3 138 3 = some 141 := pu_gR pl_sk rfl σ
theorem pl_nul {β : Type} {a : Option Nat} {x : Option Nat} {f : Nat → β} {g : Option Nat → β} (h : ∀ y, f y = g (some y)) : im_nul a (g x) f = g (pl_or a x) := by
  cases a with
  | none => rfl
  | some y => exact h y
theorem pl_sourceFor (hF : 11 ≤ F) (hp : pp_is σ 12 lk) (hc : pc_sk c) (hk : pc_is σ c k) : sh_Likely_sourceFor F 138 c (pu_mk σ) = some ((pl_i lk k).map (fun j => 19 + 6 * j), pu_mk σ) := by
  obtain ⟨o1, o2, o3⟩ := hk.2.2.2
  have L : ∀ m : pc_C, pc_ok m → sh_Pairs_coreBehind F 12 (pb_l m.1) (pb_l m.2.1) (pb_l m.2.2) (pu_mk σ) = some ((lk.findIdx? (fun e => decide (e.1 = m))).map (fun j => 19 + 6 * j), pu_mk σ) := by
    intro m hm
    rw [pp_coreBehind hF pp_sk12 hp hm]
    congr 3
    funext j
    omega
  have c0 := L k ⟨o1, o2, o3⟩
  have c1 := L (k.1, [], k.2.2) ⟨o1, pb_ok0, o3⟩
  have c2 := L (k.1, k.2.1, []) ⟨o1, o2, pb_ok0⟩
  have c3 := L (k.1, [], []) ⟨o1, pb_ok0, pb_ok0⟩
  have c4 := L (pc_und, k.2.1, []) ⟨pc_und_ok, o2, pb_ok0⟩
  simp only [pb_l0] at c1 c2 c3 c4
  rw [pl_i, ← pl_s_map]
  have e137 : ∀ a : Option Nat, sh_Likely_sourceFor_137 F a (pu_mk σ) = some (a, pu_mk σ) := fun a => rfl
  have e110 : ∀ a : Option Nat, sh_Likely_sourceFor_110 F 138 c a (pu_mk σ) = some (pl_or a (if k.2.1 = [] then none else (lk.findIdx? (fun e => decide (e.1 = (pc_und, k.2.1, [])))).map (fun j => 19 + 6 * j)), pu_mk σ) := by
    intro a
    unfold sh_Likely_sourceFor_110
    simp only [pu_is hc, Option.bind_some, pc_hasScript hc hk, im_b2, pb_b0, pl_g0, pc_g1 hc, hk.2.1, pu_is pp_sk12.1, pc_und_l, c4, e137]
    by_cases h : k.2.1 = [] <;> cases a <;> simp [h, pl_or, im_nul]
  have e92 : ∀ a : Option Nat, sh_Likely_sourceFor_92 F 138 c a (pu_mk σ) = some (pl_or (pl_or a ((lk.findIdx? (fun e => decide (e.1 = (k.1, [], [])))).map (fun j => 19 + 6 * j))) (if k.2.1 = [] then none else (lk.findIdx? (fun e => decide (e.1 = (pc_und, k.2.1, [])))).map (fun j => 19 + 6 * j)), pu_mk σ) := by
    intro a
    unfold sh_Likely_sourceFor_92
    simp only [pl_g0, pc_g0 hc, hk.1, pu_is pp_sk12.1, Option.bind_some, c3, im_b2, e110]
    cases a <;> rfl
  have e64 : ∀ a : Option Nat, sh_Likely_sourceFor_64 F 138 c a (pu_mk σ) = some (pl_or (pl_or (pl_or a (if k.2.1 = [] then none else (lk.findIdx? (fun e => decide (e.1 = (k.1, k.2.1, [])))).map (fun j => 19 + 6 * j))) ((lk.findIdx? (fun e => decide (e.1 = (k.1, [], [])))).map (fun j => 19 + 6 * j))) (if k.2.1 = [] then none else (lk.findIdx? (fun e => decide (e.1 = (pc_und, k.2.1, [])))).map (fun j => 19 + 6 * j)), pu_mk σ) := by
    intro a
    unfold sh_Likely_sourceFor_64
    simp only [pu_is hc, Option.bind_some, pc_hasScript hc hk, im_b2, pb_b0, pl_g0, pc_g0 hc, pc_g1 hc, hk.1, hk.2.1, pu_is pp_sk12.1, c2, e92]
    by_cases h : k.2.1 = [] <;> cases a <;> simp [h, pl_or, im_nul]
  have e36 : ∀ a : Option Nat, sh_Likely_sourceFor_36 F 138 c a (pu_mk σ) = some (pl_or (pl_or (pl_or (pl_or a (if k.2.2 = [] then none else (lk.findIdx? (fun e => decide (e.1 = (k.1, [], k.2.2)))).map (fun j => 19 + 6 * j))) (if k.2.1 = [] then none else (lk.findIdx? (fun e => decide (e.1 = (k.1, k.2.1, [])))).map (fun j => 19 + 6 * j))) ((lk.findIdx? (fun e => decide (e.1 = (k.1, [], [])))).map (fun j => 19 + 6 * j))) (if k.2.1 = [] then none else (lk.findIdx? (fun e => decide (e.1 = (pc_und, k.2.1, [])))).map (fun j => 19 + 6 * j)), pu_mk σ) := by
    intro a
    unfold sh_Likely_sourceFor_36
    simp only [pu_is hc, Option.bind_some, pc_hasRegion hc hk, im_b2, pb_b0, pl_g0, pc_g0 hc, pc_g2 hc, hk.1, hk.2.2.1, pu_is pp_sk12.1, c1, e64]
    by_cases h : k.2.2 = [] <;> cases a <;> simp [h, pl_or, im_nul]
  unfold sh_Likely_sourceFor pl_s
  simp only [pu_is hc, Option.bind_some, pc_hasScript hc hk, pc_hasRegion hc hk, im_b2, pb_b0, pl_g0, pc_g0 hc, pc_g1 hc, pc_g2 hc, hk.1, hk.2.1, hk.2.2.1, pu_is pp_sk12.1, c0, e36]
  by_cases h1 : k.2.1 = [] <;> by_cases h2 : k.2.2 = [] <;> simp [h1, h2]
theorem pl_max_ok (hp : pp_is σ 12 lk) (hk : pc_ok k) : pc_ok (pl_max lk k) := by
  unfold pl_max
  split
  · exact hk
  · split
    · rename_i i hi
      exact pc_fill_ok hk (hp.2.2 i (pl_i_lt hi)).2.2.2.2.2
    · exact hk
theorem pl_maximise (hF : 11 ≤ F) (hp : pp_is σ 12 lk) (hc : pc_sk c) (hd : pc_sk d) (hcd : ¬ c = d) (hdp : 75 ≤ d) (hk : pc_is σ c k) : ∃ τ, sh_Likely_maximise F 138 c d (pu_mk σ) = some (pu_mk τ) ∧ pc_is τ d (pl_max lk k) ∧ pu_fr (fun x => x = d) σ τ := by
  obtain ⟨σ1, e1, k1, f1⟩ := pc_copyFrom (F := F) hd hc hk
  have hk1 : pc_is σ1 c k := hk.fr f1 hcd
  have hp1 : pp_is σ1 12 lk := hp.fr f1 (by omega)
  have e27 : ∃ τ, sh_Likely_maximise_27 F 138 c d (pu_mk σ1) = some (pu_mk τ) ∧ pc_is τ d (match pl_i lk k with
      | some i => pc_fill k (lk.getD i pp_0).2
      | none => k) ∧ pu_fr (fun x => x = d) σ1 τ := by
    unfold sh_Likely_maximise_27
    simp only [pu_is pl_sk, Option.bind_some, pl_sourceFor hF hp1 hc hk1, im_b2]
    cases hi : pl_i lk k with
    | none => exact ⟨σ1, rfl, k1, pu_fr.rf⟩
    | some i =>
      have hlt := pl_i_lt hi
      have h10 := hp1.2.1
      have s2 := (pp_sk12.2.2.2 i (by omega)).2.2.2.1
      have q := (hp1.2.2 i hlt).2.2
      rw [show 12 + 6 + 6 * i + 1 = 19 + 6 * i by omega] at s2 q
      obtain ⟨τ, e2, k2, f2⟩ := pc_fillFrom (F := F) hd s2 k1 q
      refine ⟨τ, ?_, k2, f2⟩
      simp only [Option.map_some, im_nul, pu_is hd, Option.bind_some, e2]
      rfl
  obtain ⟨τ, e2, k2, f2⟩ := e27
  simp only [sh_Likely_maximise, pu_is hd, pu_is hc, Option.bind_some, e1, pc_hasScript hc hk1, pc_hasRegion hc hk1, pc_isUnd hc hk1, im_b2, pb_b0, e2]
  by_cases h1 : k.2.1 = []
  · exact ⟨τ, by simp [h1], by simpa [pl_max, h1] using k2, f1.tr f2⟩
  · by_cases h2 : k.2.2 = []
    · exact ⟨τ, by simp [h1, h2], by simpa [pl_max, h1, h2] using k2, f1.tr f2⟩
    · by_cases h3 : k.1 = pc_und
      · exact ⟨τ, by simp [h1, h2, h3], by simpa [pl_max, h1, h2, h3] using k2, f1.tr f2⟩
      · exact ⟨σ1, by simp [h1, h2, h3], by simpa [pl_max, h1, h2, h3] using k1, f1⟩
theorem pl_isEnough (hF : 11 ≤ F) (hp : pp_is σ 12 lk) {w : pc_C} (hw : pc_is σ 139 w) {b c : List Nat} (hb : pb_ok b) (hc : pb_ok c) : ∃ τ, sh_Likely_isEnough F 138 (pb_l b) (pb_l c) (pu_mk σ) = some (pb_b (decide (pl_max lk (w.1, b, c) = w)), pu_mk τ) ∧ pc_is τ 140 (w.1, b, c) ∧ pu_fr (fun x => x = 140 ∨ x = 141) σ τ := by
  obtain ⟨σ1, e1, k1, f1⟩ := pc_assign (F := F) (σ := σ) (k := (w.1, b, c)) pl_c2 ⟨hw.2.2.2.1, hb, hc⟩
  obtain ⟨σ2, e2, k2, f2⟩ := pl_maximise (F := F) (d := 141) hF (hp.fr f1 (by omega)) pl_c2 pl_c3 (by decide) (by decide) k1
  have hw2 : pc_is σ2 139 w := (hw.fr f1 (by omega)).fr f2 (by omega)
  refine ⟨σ2, ?_, k1.fr f2 (by omega), (f1.mono (T := fun x => x = 140 ∨ x = 141) (fun x hx => Or.inl hx)).tr (f2.mono (fun x hx => Or.inr hx))⟩
  have e1 : sh_Core_assign F 140 (pb_l w.1) (pb_l b) (pb_l c) (pu_mk σ) = some (pu_mk σ1) := e1
  unfold sh_Likely_isEnough
  rw [pl_g2, Option.bind_some, pl_g1, Option.bind_some, pc_g0 pl_c1, Option.bind_some, hw.1, pu_is pl_c2, Option.bind_some, e1, Option.bind_some, pl_g2, Option.bind_some, pl_g3, Option.bind_some, pu_is pl_sk, Option.bind_some, e2, Option.bind_some, pl_g3, Option.bind_some, pl_g1, Option.bind_some, pu_is pl_c3, Option.bind_some, pc_isSame pl_c3 pl_c1 k2 hw2]
  exact pb_rz _ _
theorem pl_minimise (hF : 11 ≤ F) (hp : pp_is σ 12 lk) (hc : pc_sk c) (hd : pc_sk d) (hcd : ¬ c = 139) (hdp : 142 ≤ d) (hk : pc_is σ c k) : ∃ τ, sh_Likely_minimise F 138 c d (pu_mk σ) = some (pu_mk τ) ∧ pc_is τ d (pl_min lk k) ∧ pu_fr (fun x => x = d ∨ x = 139 ∨ x = 140 ∨ x = 141) σ τ := by
  obtain ⟨σ1, e1, k1, f1⟩ := pl_maximise (F := F) (d := 139) hF hp hc pl_c1 hcd (by decide) hk
  obtain ⟨σ2, e2, k2, f2⟩ := pc_copyFrom (F := F) (c := d) hd pl_c1 k1
  have w2 : pc_is σ2 139 (pl_max lk k) := k1.fr f2 (by omega)
  have hp2 : pp_is σ2 12 lk := (hp.fr f1 (by omega)).fr f2 (by omega)
  have ow := k1.2.2.2
  obtain ⟨σ3, e3, t3, f3⟩ := pl_isEnough (F := F) hF hp2 w2 pb_ok0 pb_ok0
  have w3 : pc_is σ3 139 (pl_max lk k) := w2.fr f3 (by omega)
  have d3 : pc_is σ3 d (pl_max lk k) := k2.fr f3 (by omega)
  have hp3 := hp2.fr f3 (by omega)
  obtain ⟨σ4, e4, t4, f4⟩ := pl_isEnough (F := F) hF hp3 w3 pb_ok0 ow.2.2
  have e84 : ∀ w, sh_Likely_minimise_84 F w = some w := fun w => rfl
  have fin : ∀ (υ : pu_S) (t : pc_C), pc_is υ 140 t → ∃ τ, sh_Likely_minimise_76 F 138 d (pu_mk υ) = some (pu_mk τ) ∧ pc_is τ d t ∧ pu_fr (fun x => x = d) υ τ := by
    intro υ t ht
    obtain ⟨τ, e, k, f⟩ := pc_copyFrom (F := F) (c := d) hd pl_c2 ht
    exact ⟨τ, by simp only [sh_Likely_minimise_76, pl_g2, pu_is hd, Option.bind_some, e, e84], k, f⟩
  have e51 : ∀ (υ : pu_S), pp_is υ 12 lk → pc_is υ 139 (pl_max lk k) → pc_is υ d (pl_max lk k) → ∃ τ, sh_Likely_minimise_51 F 138 d (pu_mk υ) = some (pu_mk τ) ∧ pc_is τ d (if ¬ (pl_max lk k).2.1 = [] ∧ pl_max lk ((pl_max lk k).1, (pl_max lk k).2.1, []) = pl_max lk k then ((pl_max lk k).1, (pl_max lk k).2.1, []) else pl_max lk k) ∧ pu_fr (fun x => x = d ∨ x = 139 ∨ x = 140 ∨ x = 141) υ τ := by
    intro υ hpu wu du
    obtain ⟨σ5, e5, t5, f5⟩ := pl_isEnough (F := F) hF hpu wu ow.2.1 pb_ok0
    rw [pb_l0] at e5
    obtain ⟨σ6, e6, t6, f6⟩ := fin σ5 _ t5
    have u1 : sh_Likely_minimise_51 F 138 d (pu_mk υ) = if pb_b (decide (¬ (pl_max lk k).2.1 = [])) = 0 then some (pu_mk υ) else if pb_b (decide (pl_max lk ((pl_max lk k).1, (pl_max lk k).2.1, []) = pl_max lk k)) = 0 then some (pu_mk σ5) else some (pu_mk σ6) := by
      unfold sh_Likely_minimise_51
      rw [pl_g1, Option.bind_some, pu_is pl_c1, Option.bind_some, pc_hasScript pl_c1 wu, im_b2_s, pl_g1, Option.bind_some, pc_g1 pl_c1, Option.bind_some, wu.2.1, pu_is pl_sk, Option.bind_some, e5, im_b2_s, e84, e84, e6]
    rw [u1]
    simp only [pb_b0]
    by_cases h1 : (pl_max lk k).2.1 = []
    · exact ⟨υ, by simp [h1], by simpa [h1] using du, pu_fr.rf⟩
    · by_cases h2 : pl_max lk ((pl_max lk k).1, (pl_max lk k).2.1, []) = pl_max lk k
      · exact ⟨σ6, by simp [h1, h2], by rw [if_pos ⟨h1, h2⟩]; exact t6, (f5.mono (fun x hx => by omega)).tr (f6.mono (fun x hx => by omega))⟩
      · exact ⟨σ5, by simp [h1, h2], by rw [if_neg (fun q => h2 q.2)]; exact du.fr f5 (by omega), f5.mono (fun x hx => by omega)⟩
  have fr3 : pu_fr (fun x => x = d ∨ x = 139 ∨ x = 140 ∨ x = 141) σ σ3 := ((f1.mono (T := fun x => x = d ∨ x = 139 ∨ x = 140 ∨ x = 141) (fun x hx => by omega)).tr (f2.mono (fun x hx => by omega))).tr (f3.mono (fun x hx => by omega))
  rw [pb_l0] at e3 e4
  obtain ⟨σ7, e7, t7, f7⟩ := fin σ3 _ t3
  obtain ⟨σ8, e8, t8, f8⟩ := fin σ4 _ t4
  obtain ⟨σ9, e9, t9, f9⟩ := e51 σ3 hp3 w3 d3
  obtain ⟨σa, ea, ta, fa⟩ := e51 σ4 (hp3.fr f4 (by omega)) (w3.fr f4 (by omega)) (d3.fr f4 (by omega))
  have u0 : sh_Likely_minimise F 138 c d (pu_mk σ) = if pb_b (decide (pl_max lk ((pl_max lk k).1, [], []) = pl_max lk k)) = 0 then (if pb_b (decide (¬ (pl_max lk k).2.2 = [])) = 0 then some (pu_mk σ9) else if pb_b (decide (pl_max lk ((pl_max lk k).1, [], (pl_max lk k).2.2) = pl_max lk k)) = 0 then some (pu_mk σa) else some (pu_mk σ8)) else some (pu_mk σ7) := by
    unfold sh_Likely_minimise
    rw [pl_g1, Option.bind_some, pu_is pl_sk, Option.bind_some, e1, Option.bind_some, pl_g1, Option.bind_some, pu_is hd, Option.bind_some, e2, Option.bind_some, pu_is pl_sk, Option.bind_some, e3, im_b2_s, pl_g1, Option.bind_some, pu_is pl_c1, Option.bind_some, pc_hasRegion pl_c1 w3, im_b2_s, pl_g1, Option.bind_some, pc_g2 pl_c1, Option.bind_some, w3.2.2.1, pu_is pl_sk, Option.bind_some, e4, im_b2_s, e7, e8, e9, ea]
  rw [u0]
  simp only [pb_b0]
  by_cases h1 : pl_max lk ((pl_max lk k).1, [], []) = pl_max lk k
  · exact ⟨σ7, by simp [h1], by rw [pl_min, if_pos h1]; exact t7, fr3.tr (f7.mono (fun x hx => by omega))⟩
  · by_cases h2 : (pl_max lk k).2.2 = []
    · refine ⟨σ9, by simp [h1, h2], ?_, fr3.tr f9⟩
      rw [pl_min, if_neg h1, if_neg (fun q => q.1 h2)]
      exact t9
    · by_cases h3 : pl_max lk ((pl_max lk k).1, [], (pl_max lk k).2.2) = pl_max lk k
      · refine ⟨σ8, by simp [h1, h2, h3], ?_, (fr3.tr (f4.mono (fun x hx => by omega))).tr (f8.mono (fun x hx => by omega))⟩
        rw [pl_min, if_neg h1, if_pos ⟨h2, h3⟩]
        exact t8
      · refine ⟨σa, by simp [h1, h2, h3], ?_, (fr3.tr (f4.mono (fun x hx => by omega))).tr fa⟩
        rw [pl_min, if_neg h1, if_neg (fun q => h3 q.2)]
        exact ta
end LIK
