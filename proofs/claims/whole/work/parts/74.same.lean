/-! the model: typing, same parts -/
theorem pm_isL' (c : Nat) : pb_isL c = decide (97 ≤ pt_low c ∧ pt_low c ≤ 122) := by
  unfold pb_isL pt_low
  by_cases h : 65 ≤ c ∧ c ≤ 90
  · rw [if_pos h]
    simp
    omega
  · rw [if_neg h, Bool.eq_iff_iff]
    simp
    omega
theorem pm_A128 {c : Nat} (h : ty_ok c = true) : c < 128 := by
  simp [ty_ok, pb_isL, pb_isD, pb_isC] at h
  omega
theorem pb_decC' {a b : Nat} {l m : List Nat} : decide (a :: l = b :: m) = (decide (a = b) && decide (l = m)) := by
  rw [Bool.eq_iff_iff]
  simp
section MTP
variable {F : Nat} {σ : pu_S} {ty : List Nat}
theorem pm_small' {c : Nat} (hc : c < 65536) (m : Nat) (w : im_W) : sh_Model_small F m (nI c) w = some (nI (pt_low c), w) := by
  by_cases h : c < 65000
  · exact pm_small h m w
  · have h1 : nI c < (65 : Int32) ↔ c < 65 := nI_ltI (b := 65) (by omega) (by decide)
    have h2 : (90 : Int32) < nI c ↔ 90 < c := nI_ltI (a := 90) (by decide) (by omega)
    have : pt_low c = c := by unfold pt_low; rw [if_neg (by omega)]
    unfold sh_Model_small sh_Model_small_20 sh_Model_small_21
    rw [if_neg (fun q => by have := h1.mp q; omega), if_pos (h2.mpr (by omega)), pb_rc (by omega), this]
theorem pm_letter' {c : Nat} (hc : c < 65536) (σ : pu_S) : sh_Model_letter F 248 (nI c) (pu_mk σ) = some (pb_b (pb_isL c), pu_mk σ) := by
  by_cases h : c < 128
  · exact pm_letter h σ
  · have e : pt_low c = c := by unfold pt_low; rw [if_neg (by omega)]
    have h1 : nI c < (97 : Int32) ↔ c < 97 := nI_ltI (b := 97) (by omega) (by decide)
    have h2 : (122 : Int32) < nI c ↔ 122 < c := nI_ltI (a := 122) (by decide) (by omega)
    have : pb_isL c = false := by rw [pm_isL', e]; simp; omega
    unfold sh_Model_letter sh_Model_letter_24 sh_Model_letter_25
    rw [pm_i, Option.bind_some, pm_small' hc, im_b2_s, e, if_neg (fun q => by have := h1.mp q; omega), pm_i, Option.bind_some, pm_small' hc, im_b2_s, e, if_pos (h2.mpr (by omega)), pb_rz0, this]
    rfl
theorem pm_type (h : pm_ty σ ty) {c : Nat} (hc : c < 65536) : ∃ τ, sh_Model_type F 248 (nI c) (pu_mk σ) = some (pb_b (ty_ok c && decide (ty.length < 60)), pu_mk τ) ∧ pm_ty τ (if ty_ok c = true ∧ ty.length < 60 then ty ++ [c] else ty) ∧ pm_fr (fun x => x = 249) (fun k => k = 0) σ τ := by
  have hl := h.2.2.1
  have e34 : ty_ok c = true → ∃ τ, sh_Model_type_34 F 248 (nI c) (pu_mk σ) = some (pb_b (ty_ok c && decide (ty.length < 60)), pu_mk τ) ∧ pm_ty τ (if ty_ok c = true ∧ ty.length < 60 then ty ++ [c] else ty) ∧ pm_fr (fun x => x = 249) (fun k => k = 0) σ τ := by
    intro hk
    have h60 : nI ty.length = (60 : Int32) ↔ ty.length = 60 := nI_eq (b := 60) (by omega) (by decide)
    unfold sh_Model_type_34 sh_Model_type_43
    rw [pm_0, Option.bind_some, h.1, hk]
    by_cases h6 : ty.length = 60
    · refine ⟨σ, ?_, ?_, pm_fr.rf⟩
      · rw [if_pos (h60.mpr h6), pb_rz0, decide_eq_false (show ¬ ty.length < 60 by omega)]
        rfl
      · rw [if_neg (by omega)]
        exact h
    · have hlt : ty.length < 60 := by omega
      refine ⟨pu_sI (pu_sA σ 249 ty.length (nI c)) 248 0 (nI (ty.length + 1)), ?_, ?_, pm_fr.tr (τ := pu_sA σ 249 ty.length (nI c)) (pm_fr.sA (S := fun x => x = 249) (h := 249) rfl) (pm_fr.sI (T := fun k => k = 0) rfl)⟩
      · have e : (pu_sA σ 249 ty.length (nI c)).1 248 0 = nI ty.length := h.1
        rw [if_neg (fun q => h6 (h60.mp q)), pm_1, Option.bind_some, Option.bind_some, pt_nar hc, pm_t249 σ _ hlt, Option.bind_some, pm_0, Option.bind_some, e, nI_1, pm_p0, Option.bind_some, pb_rz1, decide_eq_true hlt]
        rfl
      · rw [if_pos ⟨rfl, hlt⟩]
        refine ⟨by simp [pu_sI], fun i hi => ?_, by simp; omega, fun x hx => ?_⟩
        · have hi : i < ty.length + 1 := by simpa using hi
          by_cases hil : i = ty.length
          · subst hil
            simp [pu_sI, pu_sA]
          · have h6 : i < ty.length := by omega
            have h7 := h.2.1 i h6
            have e : (ty ++ [c]).getD i 0 = ty.getD i 0 := by
              rw [List.getD_eq_getElem?_getD, List.getElem?_append_left h6, ← List.getD_eq_getElem?_getD]
            rw [e]
            simpa [pu_sI, pu_sA, hil] using h7
        · rcases List.mem_append.mp hx with hx | hx
          · exact h.2.2.2 x hx
          · simp at hx
            rw [hx]
            exact pm_A128 hk
  have e45 : nI c = (45 : Int32) ↔ c = 45 := pb_eqn hc (b := 45) (by decide)
  have e95 : nI c = (95 : Int32) ↔ c = 95 := pb_eqn hc (b := 95) (by decide)
  have e61 : nI c = (61 : Int32) ↔ c = 61 := pb_eqn hc (b := 61) (by decide)
  unfold sh_Model_type
  rw [pm_i, Option.bind_some, pm_letter' hc, im_b2_s]
  cases hL : pb_isL c with
  | true =>
    rw [if_neg (show ¬ pb_b true = 0 by decide)]
    exact e34 (by simp [ty_ok, hL])
  | false =>
    rw [if_pos (show pb_b false = 0 from rfl), pm_i, Option.bind_some, pm_digit hc, im_b2_s]
    cases hD : pb_isD c with
    | true =>
      rw [if_neg (show ¬ pb_b true = 0 by decide)]
      exact e34 (by simp [ty_ok, hD])
    | false =>
      rw [if_pos (show pb_b false = 0 from rfl)]
      by_cases a1 : c = 45
      · rw [if_pos (e45.mpr a1)]
        exact e34 (by simp [ty_ok, pb_isC, a1])
      · rw [if_neg (fun q => a1 (e45.mp q))]
        by_cases a2 : c = 95
        · rw [if_pos (e95.mpr a2)]
          exact e34 (by simp [ty_ok, pb_isC, a2])
        · rw [if_neg (fun q => a2 (e95.mp q))]
          by_cases a3 : c = 61
          · rw [if_pos (e61.mpr a3)]
            exact e34 (by simp [ty_ok, a3])
          · have hk : ty_ok c = false := by simp [ty_ok, hL, hD, pb_isC, a1, a2, a3]
            refine ⟨σ, ?_, ?_, pm_fr.rf⟩
            · rw [if_neg (fun q => a3 (e61.mp q)), hk]
              unfold sh_Model_type_43
              rw [pb_rz0]
              rfl
            · rw [hk, if_neg (fun q => by simpa using q.1)]
              exact h
theorem pm_same_20 (hp : pm_ty σ ty) {a b c d : Nat} (hab : a ≤ b) (hb : b ≤ ty.length) (hcd : c + (b - a) = d) (hd : d ≤ ty.length) : ∀ (f k : Nat) (acc : Bool), (b - a) + 1 ≤ f + k → k ≤ b - a → sh_Model_same_20 F f 248 (nI a) (nI b) (nI c) (pb_b acc) (nI k) (pu_mk σ) = some (pb_b (acc && decide ((pm_seg ty (a + k) b).map pt_low = (pm_seg ty (c + k) d).map pt_low)), pu_mk σ) := by
  have hl := hp.2.2.1
  have eS : nI b - nI a = nI (b - a) := pn_sub hab
  intro f
  induction f with
  | zero => intro k acc h1 h2; omega
  | succ f ih =>
    intro k acc h1 h2
    unfold sh_Model_same_20 sh_Model_same_67 sh_Model_same_75
    have h6 : nI (b - a) ≤ nI k ↔ b - a ≤ k := nI_leI (by omega) (by omega)
    rw [eS]
    by_cases h3 : b - a ≤ k
    · have e1 : a + k = b := by omega
      have e2 : c + k = d := by omega
      rw [if_pos (h6.mpr h3), pb_rz, e1, e2, pm_seg_nil, pm_seg_nil]
      simp
    · rw [if_neg (fun q => h3 (h6.mp q))]
      cases acc with
      | false =>
        rw [if_pos (show pb_b false = 0 from rfl), pb_rz]
        rfl
      | true =>
        have h7 := pm_low_lt (pm_tylt hp.2.2.2 (a + k))
        have h8 := pm_low_lt (pm_tylt hp.2.2.2 (c + k))
        have hc1 := pm_tylt hp.2.2.2 (a + k)
        have hc2 := pm_tylt hp.2.2.2 (c + k)
        have hq : nI (pt_low (ty.getD (a + k) 0)) = nI (pt_low (ty.getD (c + k) 0)) ↔ pt_low (ty.getD (a + k) 0) = pt_low (ty.getD (c + k) 0) := nI_eq (by omega) (by omega)
        rw [pm_seg_cons (show a + k < b by omega) hb, pm_seg_cons (show c + k < d by omega) hd, List.map_cons, List.map_cons, pb_decC']
        rw [if_neg (show ¬ pb_b true = 0 by decide), pm_1, Option.bind_some, nI_add, pm_at hp (by omega), Option.bind_some, pm_i, Option.bind_some, pm_small (by omega), im_b2_s, pm_1, Option.bind_some, nI_add, pm_at hp (by omega), Option.bind_some, pm_i, Option.bind_some, pm_small (by omega), im_b2_s, nI_1]
        by_cases h9 : pt_low (ty.getD (a + k) 0) = pt_low (ty.getD (c + k) 0)
        · have := ih (k + 1) true (by omega) (by omega)
          rw [if_pos (hq.mpr h9), decide_eq_true h9]
          exact this
        · have := ih (k + 1) false (by omega) (by omega)
          rw [if_neg (fun q => h9 (hq.mp q)), decide_eq_false h9]
          exact this
theorem pm_same (hp : pm_ty σ ty) (hF : 62 ≤ F) {a b c d : Nat} (hab : a ≤ b) (hb : b ≤ ty.length) (hcd : c ≤ d) (hd : d ≤ ty.length) : sh_Model_same F 248 (nI a) (nI b) (nI c) (nI d) (pu_mk σ) = some (pb_b (decide ((pm_seg ty a b).map pt_low = (pm_seg ty c d).map pt_low)), pu_mk σ) := by
  have hl := hp.2.2.1
  have eS : nI b - nI a = nI (b - a) := pn_sub hab
  have eT : nI d - nI c = nI (d - c) := pn_sub hcd
  have hq : nI (b - a) = nI (d - c) ↔ b - a = d - c := nI_eq (by omega) (by omega)
  unfold sh_Model_same sh_Model_same_15
  rw [eS, eT]
  by_cases h1 : b - a = d - c
  · have := pm_same_20 (F := F) hp hab hb (show c + (b - a) = d by omega) hd F 0 true (by omega) (by omega)
    rw [if_pos (hq.mpr h1)]
    exact this
  · have hn : ¬ (pm_seg ty a b).map pt_low = (pm_seg ty c d).map pt_low := fun q => h1 (by
      have := congrArg List.length q
      rw [List.length_map, List.length_map, pm_seg_len hb, pm_seg_len hd] at this
      exact this)
    rw [if_neg (fun q => h1 (hq.mp q)), decide_eq_false hn]
    have e0 : ∀ f, sh_Model_same_20 F (f + 1) 248 (nI a) (nI b) (nI c) 0 0 (pu_mk σ) = some (0, pu_mk σ) := by
      intro f
      unfold sh_Model_same_20 sh_Model_same_75
      by_cases z : nI b - nI a ≤ 0
      · rw [if_pos z, pb_rz0]
      · rw [if_neg z, if_pos rfl, pb_rz0]
    obtain ⟨f, rfl⟩ : ∃ f, F = f + 1 := ⟨F - 1, by omega⟩
    exact e0 f
end MTP
