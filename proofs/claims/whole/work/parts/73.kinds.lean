/-! the model: variants, keys, single letters, same parts, typing -/
theorem pm_getlow (s : List Nat) (i : Nat) (h : i < s.length) : (s.map pt_low).getD i 0 = pt_low (s.getD i 0) := by
  simp [List.getD_eq_getElem?_getD, h]
theorem pm_seg_get {ty : List Nat} {a b i : Nat} (h1 : a + i < b) (h2 : b ≤ ty.length) : (pm_seg ty a b).getD i 0 = ty.getD (a + i) 0 := by
  unfold pm_seg
  rw [List.getD_eq_getElem?_getD, List.getElem?_take_of_lt (by omega), List.getElem?_drop, List.getD_eq_getElem?_getD]
theorem pm_mem_get {s : List Nat} (hs : ∀ c ∈ s, c < 128) (i : Nat) : s.getD i 0 < 128 := pm_tylt hs i
theorem pm_variant_eq {s : List Nat} (hs : ∀ c ∈ s, c < 128) : pb_variant (pt_cut s) = decide (s.all pb_isA = true ∧ ((5 ≤ s.length ∧ s.length ≤ 8) ∨ (s.length = 4 ∧ pb_isD (s.getD 0 0) = true))) := by
  by_cases h : 1 ≤ s.length ∧ s.length ≤ 8 ∧ s.all pb_isA = true
  · rw [pm_cut1 h.1 h.2.1 h.2.2]
    unfold pb_variant
    rw [pm_getlow s 0 h.1, pm_lowD _ (pm_mem_get hs 0), List.length_map, Bool.eq_iff_iff]
    simp only [Bool.and_eq_true, Bool.or_eq_true, beq_iff_eq, decide_eq_true_eq, h.2.2, true_and]
    constructor
    · rintro (a | a)
      · exact Or.inl ⟨a, h.2.1⟩
      · exact Or.inr a
    · rintro (a | a)
      · exact Or.inl a.1
      · exact Or.inr a
  · rw [pm_cut0 h]
    symm
    rw [show pb_variant [] = false from rfl, decide_eq_false_iff_not]
    rintro ⟨h0, (⟨h1, h2⟩ | ⟨h1, h2⟩)⟩
    · exact h ⟨by omega, by omega, h0⟩
    · exact h ⟨by omega, by omega, h0⟩
theorem pm_key_eq {s : List Nat} (hs : ∀ c ∈ s, c < 128) : pb_key (pt_cut s) = decide (s.length = 2 ∧ s.all pb_isA = true ∧ pb_isL (s.getD 1 0) = true) := by
  by_cases h : 1 ≤ s.length ∧ s.length ≤ 8 ∧ s.all pb_isA = true
  · rw [pm_cut1 h.1 h.2.1 h.2.2]
    unfold pb_key
    by_cases h2 : s.length = 2
    · rw [pm_getlow s 1 (by omega), pm_lowL _ (pm_mem_get hs 1), List.length_map, Bool.eq_iff_iff]
      simp only [Bool.and_eq_true, beq_iff_eq, decide_eq_true_eq, h.2.2, true_and]
    · rw [decide_eq_false (fun q => h2 q.1), List.length_map]
      simp [h2]
  · rw [pm_cut0 h]
    symm
    rw [show pb_key [] = false from rfl, decide_eq_false_iff_not]
    rintro ⟨h1, h2, h3⟩
    exact h ⟨by omega, by omega, h2⟩
theorem pm_type_eq (s : List Nat) : pb_type (pt_cut s) = decide (3 ≤ s.length ∧ s.length ≤ 8 ∧ s.all pb_isA = true) := by
  by_cases h : 1 ≤ s.length ∧ s.length ≤ 8 ∧ s.all pb_isA = true
  · rw [pm_cut1 h.1 h.2.1 h.2.2]
    unfold pb_type
    simp only [List.length_map, h.2.1, h.2.2, true_and, and_true]
  · rw [pm_cut0 h]
    symm
    rw [show pb_type [] = false from rfl, decide_eq_false_iff_not]
    rintro ⟨h1, h2, h3⟩
    exact h ⟨by omega, h2, h3⟩
theorem pm_cut_ne (s : List Nat) : decide (¬ pt_cut s = []) = decide (1 ≤ s.length ∧ s.length ≤ 8 ∧ s.all pb_isA = true) := by
  by_cases h : 1 ≤ s.length ∧ s.length ≤ 8 ∧ s.all pb_isA = true
  · rw [pm_cut1 h.1 h.2.1 h.2.2, decide_eq_true h, decide_eq_true]
    intro q
    have := congrArg List.length q
    simp at this
    rw [this] at h
    simp at h
  · rw [pm_cut0 h, decide_eq_false h, decide_eq_false (fun q => q rfl)]
theorem pm_low_A : ∀ c, c < 128 → pb_isL (pt_low c) = true → pb_isA c = true := by decide +kernel
theorem pm_one_eq {s : List Nat} (hs : ∀ c ∈ s, c < 128) {d : Nat} (hd : pb_isL d = true) : decide (pt_cut s = [d]) = decide (s.length = 1 ∧ pt_low (s.getD 0 0) = d) := by
  rw [decide_eq_decide]
  constructor
  · intro q
    by_cases h : 1 ≤ s.length ∧ s.length ≤ 8 ∧ s.all pb_isA = true
    · rw [pm_cut1 h.1 h.2.1 h.2.2] at q
      have h1 := congrArg List.length q
      rw [List.length_map] at h1
      refine ⟨h1, ?_⟩
      rw [← pm_getlow s 0 (by rw [h1]; exact Nat.one_pos), q]
      rfl
    · rw [pm_cut0 h] at q
      cases q
  · rintro ⟨h1, h2⟩
    have hA : pb_isA (s.getD 0 0) = true := pm_low_A _ (pm_mem_get hs 0) (by rw [h2]; exact hd)
    cases s with
    | nil => cases h1
    | cons c s =>
      have : s = [] := by simpa using h1
      subst this
      have hA : pb_isA c = true := hA
      have h2 : pt_low c = d := h2
      rw [pm_cut1 (by simp) (by simp) (by simp [hA])]
      simp [h2]
section MKJ
variable {F : Nat} {σ : pu_S} {ty : List Nat}
theorem pm_isOne (hp : pm_ty σ ty) {a b : Nat} (hab : a ≤ b) (hb : b ≤ ty.length) {d : Nat} (hd : pb_isL d = true) : sh_Model_isOne F 248 (nI a) (nI b) (nI d) (pu_mk σ) = some (pb_b (decide (pt_cut (pm_seg ty a b) = [d])), pu_mk σ) := by
  have hl := hp.2.2.1
  have hd2 : d < 65536 := by
    simp [pb_isL] at hd
    omega
  have c1 : nI b - nI a = (1 : Int32) ↔ b - a = 1 := pm_sub (c := 1) hab (by omega) (by decide)
  rw [pm_one_eq (pm_seg_lt hp a b) hd, pm_seg_len hb]
  unfold sh_Model_isOne sh_Model_isOne_25 sh_Model_isOne_26
  by_cases h1 : b - a = 1
  · have ha : a < ty.length := by omega
    have hc := pm_tylt hp.2.2.2 a
    have hlo := pm_low_lt hc
    have e : (pm_seg ty a b).getD 0 0 = ty.getD a 0 := pm_seg_get (i := 0) (by omega) hb
    have hq : nI (pt_low (ty.getD a 0)) = nI d ↔ pt_low (ty.getD a 0) = d := nI_eq (by omega) (by omega)
    rw [if_pos (c1.mpr h1), pm_1, Option.bind_some, pm_at hp ha, Option.bind_some, pm_i, Option.bind_some, pm_small (by omega), im_b2_s, e]
    by_cases h2 : pt_low (ty.getD a 0) = d
    · rw [if_pos (hq.mpr h2), pb_rz1, decide_eq_true ⟨h1, h2⟩]
      rfl
    · rw [if_neg (fun q => h2 (hq.mp q)), pb_rz0, decide_eq_false (fun q => h2 q.2)]
      rfl
  · rw [if_neg (fun q => h1 (c1.mp q)), pb_rz0, decide_eq_false (fun q => h1 q.1)]
    rfl
theorem pm_isKey (hp : pm_ty σ ty) (hF : 62 ≤ F) {a b : Nat} (hab : a ≤ b) (hb : b ≤ ty.length) : sh_Model_isKey F 248 (nI a) (nI b) (pu_mk σ) = some (pb_b (pb_key (pt_cut (pm_seg ty a b))), pu_mk σ) := by
  have hl := hp.2.2.1
  have c2 : nI b - nI a = (2 : Int32) ↔ b - a = 2 := pm_sub (c := 2) hab (by omega) (by decide)
  rw [pm_key_eq (pm_seg_lt hp a b), pm_seg_len hb]
  unfold sh_Model_isKey sh_Model_isKey_35 sh_Model_isKey_36
  by_cases h1 : b - a = 2
  · have ha : a + 1 < ty.length := by omega
    have hc := pm_tylt hp.2.2.2 (a + 1)
    have e : (pm_seg ty a b).getD 1 0 = ty.getD (a + 1) 0 := pm_seg_get (i := 1) (by omega) hb
    rw [if_pos (c2.mpr h1), pm_i, Option.bind_some, pm_allBoth hp hF hab hb, im_b2_s, e]
    cases hA : (pm_seg ty a b).all pb_isA with
    | false =>
      rw [if_pos (show pb_b false = 0 from rfl), pb_rz0, decide_eq_false (fun q => by simpa using q.2.1)]
      rfl
    | true =>
      rw [if_neg (show ¬ pb_b true = 0 by decide), pm_1, Option.bind_some, nI_1, pm_at hp ha, Option.bind_some, pm_i, Option.bind_some, pm_letter hc, im_b2_s]
      cases hL : pb_isL (ty.getD (a + 1) 0) with
      | false =>
        rw [if_pos (show pb_b false = 0 from rfl), pb_rz0, decide_eq_false (fun q => by simpa using q.2.2)]
        rfl
      | true =>
        rw [if_neg (show ¬ pb_b true = 0 by decide), pb_rz1, decide_eq_true ⟨h1, rfl, rfl⟩]
        rfl
  · rw [if_neg (fun q => h1 (c2.mp q)), pb_rz0, decide_eq_false (fun q => h1 q.1)]
    rfl
theorem pm_isVariant (hp : pm_ty σ ty) (hF : 62 ≤ F) {a b : Nat} (hab : a ≤ b) (hb : b ≤ ty.length) : sh_Model_isVariant F 248 (nI a) (nI b) (pu_mk σ) = some (pb_b (pb_variant (pt_cut (pm_seg ty a b))), pu_mk σ) := by
  have hl := hp.2.2.1
  have eS : nI b - nI a = nI (b - a) := pn_sub hab
  have c4 : nI (b - a) = (4 : Int32) ↔ b - a = 4 := nI_eq (b := 4) (by omega) (by decide)
  have c5 : nI (b - a) < (5 : Int32) ↔ b - a < 5 := nI_ltI (b := 5) (by omega) (by decide)
  have c8 : nI (b - a) ≤ (8 : Int32) ↔ b - a ≤ 8 := nI_leI (b := 8) (by omega) (by decide)
  rw [pm_variant_eq (pm_seg_lt hp a b), pm_seg_len hb]
  unfold sh_Model_isVariant sh_Model_isVariant_24 sh_Model_isVariant_42 sh_Model_isVariant_46 sh_Model_isVariant_47
  rw [eS, pm_i, Option.bind_some, pm_allBoth hp hF hab hb, im_b2_s]
  cases hA : (pm_seg ty a b).all pb_isA with
  | false =>
    rw [if_pos (show pb_b false = 0 from rfl), pb_rz0, decide_eq_false (fun q => by simpa using q.1)]
    rfl
  | true =>
    rw [if_neg (show ¬ pb_b true = 0 by decide)]
    by_cases h5 : b - a < 5
    · rw [if_pos (c5.mpr h5)]
      by_cases h4 : b - a = 4
      · have ha : a < ty.length := by omega
        have hc := pm_tylt hp.2.2.2 a
        have e : (pm_seg ty a b).getD 0 0 = ty.getD a 0 := pm_seg_get (i := 0) (by omega) hb
        rw [if_pos (c4.mpr h4), pm_1, Option.bind_some, pm_at hp ha, Option.bind_some, pm_i, Option.bind_some, pm_digit (by omega), im_b2_s, e]
        cases hD : pb_isD (ty.getD a 0) with
        | false =>
          rw [if_pos (show pb_b false = 0 from rfl), pb_rz0, decide_eq_false (fun q => by rcases q.2 with q | q <;> simp_all)]
          rfl
        | true =>
          rw [if_neg (show ¬ pb_b true = 0 by decide), pb_rz1, decide_eq_true ⟨rfl, Or.inr ⟨h4, rfl⟩⟩]
          rfl
      · rw [if_neg (fun q => h4 (c4.mp q)), pb_rz0, decide_eq_false (fun q => by rcases q.2 with q | q <;> omega)]
        rfl
    · rw [if_neg (fun q => h5 (c5.mp q))]
      by_cases h8 : b - a ≤ 8
      · rw [if_pos (c8.mpr h8), pb_rz1, decide_eq_true ⟨rfl, Or.inl ⟨by omega, h8⟩⟩]
        rfl
      · rw [if_neg (fun q => h8 (c8.mp q)), if_neg (fun q => by have := c4.mp q; omega), pb_rz0, decide_eq_false (fun q => by rcases q.2 with q | q <;> omega)]
        rfl
theorem pm_wipe : ∃ τ, sh_Model_wipe F 248 (pu_mk σ) = some (pu_mk τ) ∧ pm_ty τ [] ∧ pm_fr (fun _ => False) (fun k => k = 0) σ τ := by
  refine ⟨pu_sI σ 248 0 0, ?_, ⟨by simp [pu_sI, nI_0], fun i hi => by simp at hi, by simp, by simp⟩, pm_fr.sI rfl⟩
  unfold sh_Model_wipe
  rw [pm_p0, Option.bind_some]
end MKJ
