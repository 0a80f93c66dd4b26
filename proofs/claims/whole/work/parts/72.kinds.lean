/-! the model: kinds of parts -/
theorem pm_lowL : ∀ c, c < 128 → pb_isL (pt_low c) = pb_isL c := by decide +kernel
theorem pm_lowD : ∀ c, c < 128 → pb_isD (pt_low c) = pb_isD c := by decide +kernel
theorem pm_cnt : ∀ {s : List Nat}, (∀ c ∈ s, c < 128) → (s.map pt_low).countP pb_isL = s.countP pb_isL
  | [], _ => rfl
  | c :: s, h => by
    have ih := pm_cnt (s := s) (fun d hd => h d (List.mem_cons_of_mem _ hd))
    have h1 := pm_lowL c (h c List.mem_cons_self)
    rw [List.map_cons, List.countP_cons, List.countP_cons, ih, h1]
theorem pm_cut1 {s : List Nat} (h1 : 1 ≤ s.length) (h2 : s.length ≤ 8) (h3 : s.all pb_isA = true) : pt_cut s = s.map pt_low := by
  unfold pt_cut
  rw [if_pos ⟨h1, h2, h3⟩]
theorem pm_cut0 {s : List Nat} (h : ¬ (1 ≤ s.length ∧ s.length ≤ 8 ∧ s.all pb_isA = true)) : pt_cut s = [] := by
  unfold pt_cut
  rw [if_neg h]
theorem pm_LA {s : List Nat} (h : s.all pb_isL = true) : s.all pb_isA = true := by
  rw [List.all_eq_true] at h ⊢
  intro c hc
  simp [pb_isA, h c hc]
theorem pm_DA {s : List Nat} (h : s.all pb_isD = true) : s.all pb_isA = true := by
  rw [List.all_eq_true] at h ⊢
  intro c hc
  simp [pb_isA, h c hc]
theorem pm_cL (s : List Nat) : s.countP pb_isL = s.length ↔ s.all pb_isL = true := by
  rw [List.countP_eq_length, List.all_eq_true]
theorem pm_cD {s : List Nat} (hA : s.all pb_isA = true) : s.countP pb_isL = 0 ↔ s.all pb_isD = true := by
  rw [List.countP_eq_zero, List.all_eq_true]
  rw [List.all_eq_true] at hA
  constructor
  · intro h c hc
    have h1 := hA c hc
    have h2 := h c hc
    unfold pb_isA at h1
    simp only [Bool.or_eq_true] at h1
    exact h1.resolve_left h2
  · intro h c hc h2
    have h1 := h c hc
    simp [pb_isL, pb_isD] at h1 h2
    omega
theorem pm_lang_eq {s : List Nat} (hs : ∀ c ∈ s, c < 128) : pb_lang (pt_cut s) = decide ((s.length = 2 ∨ s.length = 3) ∧ s.all pb_isL = true) := by
  by_cases h : 1 ≤ s.length ∧ s.length ≤ 8 ∧ s.all pb_isA = true
  · rw [pm_cut1 h.1 h.2.1 h.2.2]
    unfold pb_lang
    rw [pm_cnt hs, List.length_map, Bool.eq_iff_iff]
    simp only [Bool.and_eq_true, Bool.or_eq_true, beq_iff_eq, decide_eq_true_eq, pm_cL]
  · rw [pm_cut0 h]
    symm
    rw [show pb_lang [] = false from rfl, decide_eq_false_iff_not]
    rintro ⟨h1, h2⟩
    exact h ⟨by omega, by omega, pm_LA h2⟩
theorem pm_region_eq {s : List Nat} (hs : ∀ c ∈ s, c < 128) : pb_region (pt_cut s) = decide ((s.length = 2 ∧ s.all pb_isL = true) ∨ (s.length = 3 ∧ s.all pb_isD = true)) := by
  by_cases h : 1 ≤ s.length ∧ s.length ≤ 8 ∧ s.all pb_isA = true
  · rw [pm_cut1 h.1 h.2.1 h.2.2]
    unfold pb_region
    rw [pm_cnt hs, List.length_map, Bool.eq_iff_iff]
    simp only [Bool.and_eq_true, Bool.or_eq_true, beq_iff_eq, decide_eq_true_eq, pm_cD h.2.2]
    constructor
    · rintro (⟨a, b⟩ | b)
      · exact Or.inl ⟨a, (pm_cL s).mp (by omega)⟩
      · exact Or.inr b
    · rintro (⟨a, b⟩ | b)
      · exact Or.inl ⟨a, by have := (pm_cL s).mpr b; omega⟩
      · exact Or.inr b
  · rw [pm_cut0 h]
    symm
    rw [show pb_region [] = false from rfl, decide_eq_false_iff_not]
    rintro (⟨h1, h2⟩ | ⟨h1, h2⟩)
    · exact h ⟨by omega, by omega, pm_LA h2⟩
    · exact h ⟨by omega, by omega, pm_DA h2⟩
theorem pm_script_eq {s : List Nat} (hs : ∀ c ∈ s, c < 128) : pb_script (pt_cut s) = decide (s.length = 4 ∧ s.all pb_isL = true) := by
  by_cases h : 1 ≤ s.length ∧ s.length ≤ 8 ∧ s.all pb_isA = true
  · rw [pm_cut1 h.1 h.2.1 h.2.2]
    unfold pb_script
    rw [pm_cnt hs, List.length_map, Bool.eq_iff_iff]
    simp only [Bool.and_eq_true, beq_iff_eq, decide_eq_true_eq]
    constructor
    · rintro ⟨a, b⟩
      exact ⟨a, (pm_cL s).mp (by omega)⟩
    · rintro ⟨a, b⟩
      exact ⟨a, by have := (pm_cL s).mpr b; omega⟩
  · rw [pm_cut0 h]
    symm
    rw [show pb_script [] = false from rfl, decide_eq_false_iff_not]
    rintro ⟨h1, h2⟩
    exact h ⟨by omega, by omega, pm_LA h2⟩
theorem pm_sub {a b c : Nat} (hab : a ≤ b) (hb : b < 2 ^ 31) (hc : c < 2 ^ 31) : nI b - nI a = nI c ↔ b - a = c := by
  rw [pn_sub hab]
  exact nI_eq (by omega) hc
section MKI
variable {F : Nat} {σ : pu_S} {ty : List Nat}
theorem pm_seg_lt (hp : pm_ty σ ty) (a b : Nat) : ∀ c ∈ pm_seg ty a b, c < 128 := fun c hc => hp.2.2.2 c (List.mem_of_mem_drop (List.mem_of_mem_take hc))
theorem pm_isLanguage (hp : pm_ty σ ty) (hF : 62 ≤ F) {a b : Nat} (hab : a ≤ b) (hb : b ≤ ty.length) : sh_Model_isLanguage F 248 (nI a) (nI b) (pu_mk σ) = some (pb_b (pb_lang (pt_cut (pm_seg ty a b))), pu_mk σ) := by
  have hl := hp.2.2.1
  have c2 : nI b - nI a = (2 : Int32) ↔ b - a = 2 := pm_sub (c := 2) hab (by omega) (by decide)
  have c3 : nI b - nI a = (3 : Int32) ↔ b - a = 3 := pm_sub (c := 3) hab (by omega) (by decide)
  rw [pm_lang_eq (pm_seg_lt hp a b), pm_seg_len hb]
  have e14 : sh_Model_isLanguage_14 F 248 (nI a) (nI b) (pu_mk σ) = some (pb_b ((pm_seg ty a b).all pb_isL), pu_mk σ) := by
    unfold sh_Model_isLanguage_14 sh_Model_isLanguage_27 sh_Model_isLanguage_28
    rw [pm_i, Option.bind_some, pm_allLetters hp hF hab hb, im_b2_s]
    cases (pm_seg ty a b).all pb_isL with
    | false => rw [if_pos (show pb_b false = 0 from rfl)]; exact pb_rz0 _
    | true => rw [if_neg (show ¬ pb_b true = 0 by decide)]; exact pb_rz1 _
  unfold sh_Model_isLanguage sh_Model_isLanguage_27 sh_Model_isLanguage_28
  by_cases h2 : b - a = 2
  · rw [if_pos (c2.mpr h2), e14]
    cases (pm_seg ty a b).all pb_isL <;> simp [h2]
  · rw [if_neg (fun q => h2 (c2.mp q))]
    by_cases h3 : b - a = 3
    · rw [if_pos (c3.mpr h3), e14]
      cases (pm_seg ty a b).all pb_isL <;> simp [h3]
    · rw [if_neg (fun q => h3 (c3.mp q)), pb_rz0, decide_eq_false (fun q => by rcases q.1 with q | q <;> omega)]
      rfl
theorem pm_isRegion (hp : pm_ty σ ty) (hF : 62 ≤ F) {a b : Nat} (hab : a ≤ b) (hb : b ≤ ty.length) : sh_Model_isRegion F 248 (nI a) (nI b) (pu_mk σ) = some (pb_b (pb_region (pt_cut (pm_seg ty a b))), pu_mk σ) := by
  have hl := hp.2.2.1
  have c2 : nI b - nI a = (2 : Int32) ↔ b - a = 2 := pm_sub (c := 2) hab (by omega) (by decide)
  have c3 : nI b - nI a = (3 : Int32) ↔ b - a = 3 := pm_sub (c := 3) hab (by omega) (by decide)
  rw [pm_region_eq (pm_seg_lt hp a b), pm_seg_len hb]
  unfold sh_Model_isRegion sh_Model_isRegion_16 sh_Model_isRegion_32 sh_Model_isRegion_36 sh_Model_isRegion_37
  by_cases h2 : b - a = 2
  · have h3 : ¬ b - a = 3 := by omega
    rw [if_pos (c2.mpr h2), pm_i, Option.bind_some, pm_allLetters hp hF hab hb, im_b2_s]
    cases hL : (pm_seg ty a b).all pb_isL with
    | false =>
      rw [if_pos (show pb_b false = 0 from rfl), if_neg (fun q => h3 (c3.mp q)), pb_rz0, decide_eq_false (fun q => by rcases q with q | q <;> simp_all)]
      rfl
    | true =>
      rw [if_neg (show ¬ pb_b true = 0 by decide), pb_rz1, decide_eq_true (Or.inl ⟨h2, rfl⟩)]
      rfl
  · rw [if_neg (fun q => h2 (c2.mp q))]
    by_cases h3 : b - a = 3
    · rw [if_pos (c3.mpr h3), pm_i, Option.bind_some, pm_allDigits hp hF hab hb, im_b2_s]
      cases hL : (pm_seg ty a b).all pb_isD with
      | false =>
        rw [if_pos (show pb_b false = 0 from rfl), pb_rz0, decide_eq_false (fun q => by rcases q with q | q <;> simp_all)]
        rfl
      | true =>
        rw [if_neg (show ¬ pb_b true = 0 by decide), pb_rz1, decide_eq_true (Or.inr ⟨h3, rfl⟩)]
        rfl
    · rw [if_neg (fun q => h3 (c3.mp q)), pb_rz0, decide_eq_false (fun q => by rcases q with q | q <;> omega)]
      rfl
end MKI
