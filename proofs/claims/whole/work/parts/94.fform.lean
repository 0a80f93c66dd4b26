/-! the model: the form of what was cut -/
def pm_vt (ty : List Nat) (vs : List (Nat × Nat)) (j : Nat) : List Nat := 45 :: (pm_seg ty (vs.getD j pm_0p).1 (vs.getD j pm_0p).2).map pm_pc
def pm_only (ty : List Nat) (v : Nat × Nat) : Bool := decide (v.2 = v.1 + 7 ∧ (pm_seg ty (v.1 + 3) (v.1 + 7)).map pt_low = pr_true)
def pm_ke (ty : List Nat) (v : Nat × Nat) : Nat := if pm_only ty v = true then v.1 + 2 else v.2
def pm_kt (ty : List Nat) (ks : List (Nat × Nat)) (j : Nat) : List Nat := 45 :: (pm_seg ty (ks.getD j pm_0p).1 (pm_ke ty (ks.getD j pm_0p))).map pm_pc
section MMG
variable {F : Nat} {ty : List Nat} {vs ks : List (Nat × Nat)}
theorem pm_mf20 (hF : 62 ≤ F) : ∀ (n f k : Nat) (last : Option Nat) (l : List Nat) (σ : pu_S), k + n = vs.length → n + 1 ≤ f → (∀ j, last = some j → j < vs.length) → (pm_sel (vs.map (pm_vk ty)) n last).length = n → (l ++ (pm_sel (vs.map (pm_vk ty)) n last).flatMap (pm_vt ty vs)).length ≤ 80 → pm_ty σ ty → pm_pl σ ty 5 250 251 vs → pm_fm σ l → ∃ τ, sh_Model_makeForm_20 F f 248 (pm_o last) (nI k) (pu_mk σ) = sh_Model_makeForm_20 F 1 248 0 (nI vs.length) (pu_mk τ) ∧ pm_fm τ (l ++ (pm_sel (vs.map (pm_vk ty)) n last).flatMap (pm_vt ty vs)) ∧ pm_fr (fun x => x = 254) (fun k => k = 13) σ τ := by
  intro n
  induction n with
  | zero =>
    intro f k last l σ hk hf hla hs hl hp hv hm
    obtain ⟨g, rfl⟩ : ∃ g, f = g + 1 := ⟨f - 1, by omega⟩
    have v3 := hv.2.2.1
    have hk' : k = vs.length := by omega
    subst hk'
    refine ⟨σ, ?_, by simpa [pm_sel] using hm, pm_fr.rf⟩
    rw [sh_Model_makeForm_20, sh_Model_makeForm_20, pm_5, Option.bind_some, Option.bind_some, hv.1, if_pos (nI_le (Nat.le_refl _) (by omega)), if_pos (nI_le (Nat.le_refl _) (by omega))]
  | succ n ih =>
    intro f k last l σ hk hf hla hs hl hp hv hm
    obtain ⟨g, rfl⟩ : ∃ g, f = g + 1 := ⟨f - 1, by omega⟩
    have v3 := hv.2.2.1
    rw [pm_sel] at hs hl ⊢
    cases hj : pm_lw (vs.map (pm_vk ty)) last (vs.map (pm_vk ty)) 0 none with
    | none => rw [hj] at hs; simp at hs
    | some j =>
      rw [hj] at hs hl
      have hs' : (pm_sel (vs.map (pm_vk ty)) n (some j)).length = n := by simpa using hs
      have hjl : j < vs.length := by
        have := pm_lw_lt (last := last) (vs.map (pm_vk ty)) 0 none (by simp) (fun k hk => by cases hk) j hj
        simpa using this
      have hl' : (l ++ (pm_vt ty vs j ++ (pm_sel (vs.map (pm_vk ty)) n (some j)).flatMap (pm_vt ty vs))).length ≤ 80 := by
        simpa [List.flatMap_cons] using hl
      have m1 := hv.2.2.2 _ (pb_getG pm_0p hjl)
      obtain ⟨a1, a2⟩ := hv.2.1 j hjl
      have hb : l.length + 1 + ((vs.getD j pm_0p).2 - (vs.getD j pm_0p).1) ≤ 80 := by
        simp only [List.length_append, pm_vt, List.length_cons, List.length_map] at hl'
        rw [pm_seg_len m1.2] at hl'
        omega
      obtain ⟨τ, e1, e2, e3⟩ := pm_putTyped (F := F) hp hm hF m1.1 m1.2 hb
      have hp' : pm_ty τ ty := hp.fr e3 (by decide) (by decide)
      have hv' : pm_pl τ ty 5 250 251 vs := hv.fr e3 (by decide) ⟨by decide, by decide⟩ ⟨by decide, by decide⟩
      obtain ⟨ρ, f1, f2, f3⟩ := ih g (k + 1) (some j) (l ++ pm_vt ty vs j) τ (by omega) (by omega) (fun i hi => by cases hi; exact hjl) hs' (by rw [List.append_assoc]; exact hl') hp' hv' e2
      refine ⟨ρ, ?_, ?_, e3.tr f3⟩
      · have key := pm_mf33 (F := F) (k20 := sh_Model_makeForm_20 F g) (x2 := nI k) hp hF hv hla vs.length F 0 none (by omega) (by omega) (fun j hj => by cases hj)
        rw [List.drop_zero, hj, nI_0] at key
        rw [sh_Model_makeForm_20, pm_5, Option.bind_some, hv.1, if_neg (show ¬ nI vs.length ≤ nI k from fun z => by rw [nI_leI (by omega) (by omega)] at z; omega)]
        refine key.trans ?_
        rw [sh_Model_makeForm_33, pm_5, Option.bind_some, hv.1, if_pos (nI_le (Nat.le_refl _) (by omega)), pm_6, Option.bind_some, show pm_o (some j) = nI j from rfl, pm_l250 σ (show j < 32 by omega), Option.bind_some, pm_7, Option.bind_some, pm_l251 σ (show j < 32 by omega), Option.bind_some, pm_i, Option.bind_some, a1, a2, e1, Option.bind_some, nI_1]
        exact f1
      · show pm_fm ρ (l ++ (j :: pm_sel (vs.map (pm_vk ty)) n (some j)).flatMap (pm_vt ty vs))
        rw [List.flatMap_cons, ← List.append_assoc]
        exact f2
theorem pm_mkF (hF : 62 ≤ F) {σ : pu_S} (hp : pm_ty σ ty) (hv : pm_pl σ ty 8 252 253 ks) (h2 : ∀ k ∈ ks, k.1 + 2 ≤ k.2) {k4 : Nat → Int32 → Int32 → im_W → Option im_W} {x1 : Int32} {k j : Nat} (hj : j < ks.length) : sh_Model_makeKeywords_17 F k4 1 248 x1 (nI k) (nI j) (nI ks.length) (pu_mk σ) = (sh_Model_putTyped F 248 (nI (ks.getD j pm_0p).1) (nI (pm_ke ty (ks.getD j pm_0p))) (pu_mk σ)).bind fun w => k4 248 (nI j) (nI (k + 1)) w := by
  have v3 := hv.2.2.1
  have hty := hp.2.2.1
  have m1 := hv.2.2.2 _ (pb_getG pm_0p hj)
  have n1 := h2 _ (pb_getG pm_0p hj)
  obtain ⟨a1, a2⟩ := hv.2.1 j hj
  generalize hx : ks.getD j pm_0p = v at *
  have no : pm_only ty v = false → sh_Model_makeKeywords_228 F k4 248 (nI k) (nI j) (nI v.1) (pu_mk σ) = (sh_Model_putTyped F 248 (nI v.1) (nI (pm_ke ty v)) (pu_mk σ)).bind fun w => k4 248 (nI j) (nI (k + 1)) w := by
    intro z
    unfold sh_Model_makeKeywords_228 sh_Model_makeKeywords_229 sh_Model_makeKeywords_252
    rw [if_pos rfl, pm_10, Option.bind_some, pm_l253 σ (show j < 32 by omega), Option.bind_some, a2, pm_i, Option.bind_some, nI_1]
    unfold pm_ke
    rw [if_neg (by rw [z]; decide)]
  have seg : v.2 = v.1 + 7 → (pm_seg ty (v.1 + 3) (v.1 + 7)).map pt_low = [pt_low (ty.getD (v.1 + 3) 0), pt_low (ty.getD (v.1 + 4) 0), pt_low (ty.getD (v.1 + 5) 0), pt_low (ty.getD (v.1 + 6) 0)] := by
    intro z
    rw [pm_seg_cons (by omega) (by omega), pm_seg_cons (by omega) (by omega), pm_seg_cons (by omega) (by omega), pm_seg_cons (by omega) (by omega), show v.1 + 3 + 1 + 1 + 1 + 1 = v.1 + 7 by omega, pm_seg_nil]
    rfl
  have c7 : nI v.2 = nI v.1 + (7 : Int32) ↔ v.2 = v.1 + 7 := by
    rw [show nI v.1 + (7 : Int32) = nI (v.1 + 7) from nI_add _ 7]
    exact nI_eq (by omega) (by omega)
  have ch : ∀ (d c : Nat), c < 128 → (nI (pt_low (ty.getD (v.1 + d) 0)) = nI c ↔ pt_low (ty.getD (v.1 + d) 0) = c) := fun d c hc => nI_eq (by have := pm_low_lt (pm_tylt hp.2.2.2 (v.1 + d)); omega) (by omega)
  have k3 : nI (pt_low (ty.getD (v.1 + 3) 0)) = (116 : Int32) ↔ pt_low (ty.getD (v.1 + 3) 0) = 116 := ch 3 116 (by decide)
  have k4 : nI (pt_low (ty.getD (v.1 + 4) 0)) = (114 : Int32) ↔ pt_low (ty.getD (v.1 + 4) 0) = 114 := ch 4 114 (by decide)
  have k5 : nI (pt_low (ty.getD (v.1 + 5) 0)) = (117 : Int32) ↔ pt_low (ty.getD (v.1 + 5) 0) = 117 := ch 5 117 (by decide)
  have k6 : nI (pt_low (ty.getD (v.1 + 6) 0)) = (101 : Int32) ↔ pt_low (ty.getD (v.1 + 6) 0) = 101 := ch 6 101 (by decide)
  rw [sh_Model_makeKeywords_17, pm_8, Option.bind_some, hv.1, if_pos (nI_le (Nat.le_refl _) (by omega)), pm_9, Option.bind_some, pm_l252 σ (show j < 32 by omega), Option.bind_some, pm_10, Option.bind_some, pm_l253 σ (show j < 32 by omega), Option.bind_some, a1, a2]
  by_cases h7 : v.2 = v.1 + 7
  · have s := seg h7
    rw [if_pos (c7.mpr h7), pm_1, Option.bind_some, show nI v.1 + (3 : Int32) = nI (v.1 + 3) from nI_add _ 3, pm_at hp (show v.1 + 3 < ty.length by omega), Option.bind_some, pm_i, Option.bind_some, pm_small (by have := pm_tylt hp.2.2.2 (v.1 + 3); omega), im_b2_s]
    by_cases h3 : pt_low (ty.getD (v.1 + 3) 0) = 116
    · rw [if_pos (k3.mpr h3), pm_1, Option.bind_some, show nI v.1 + (4 : Int32) = nI (v.1 + 4) from nI_add _ 4, pm_at hp (show v.1 + 4 < ty.length by omega), Option.bind_some, pm_i, Option.bind_some, pm_small (by have := pm_tylt hp.2.2.2 (v.1 + 4); omega), im_b2_s]
      by_cases h4 : pt_low (ty.getD (v.1 + 4) 0) = 114
      · rw [if_pos (k4.mpr h4), pm_1, Option.bind_some, show nI v.1 + (5 : Int32) = nI (v.1 + 5) from nI_add _ 5, pm_at hp (show v.1 + 5 < ty.length by omega), Option.bind_some, pm_i, Option.bind_some, pm_small (by have := pm_tylt hp.2.2.2 (v.1 + 5); omega), im_b2_s]
        by_cases h5 : pt_low (ty.getD (v.1 + 5) 0) = 117
        · rw [if_pos (k5.mpr h5), pm_1, Option.bind_some, show nI v.1 + (6 : Int32) = nI (v.1 + 6) from nI_add _ 6, pm_at hp (show v.1 + 6 < ty.length by omega), Option.bind_some, pm_i, Option.bind_some, pm_small (by have := pm_tylt hp.2.2.2 (v.1 + 6); omega), im_b2_s]
          by_cases h6 : pt_low (ty.getD (v.1 + 6) 0) = 101
          · have yes : pm_only ty v = true := by
              unfold pm_only
              rw [s, h3, h4, h5, h6]
              simpa using ⟨h7, rfl⟩
            rw [if_pos (k6.mpr h6)]
            unfold sh_Model_makeKeywords_229 sh_Model_makeKeywords_252
            rw [if_neg (by decide), pm_n2, pm_i, Option.bind_some, nI_1]
            unfold pm_ke
            rw [if_pos yes]
          · rw [if_neg (fun z => h6 (k6.mp z))]
            refine no ?_
            refine decide_eq_false (fun z => ?_)
            have y := z.2
            rw [s] at y
            simp only [pr_true, List.cons.injEq] at y
            exact h6 y.2.2.2.1
        · rw [if_neg (fun z => h5 (k5.mp z))]
          refine no ?_
          refine decide_eq_false (fun z => ?_)
          have y := z.2
          rw [s] at y
          simp only [pr_true, List.cons.injEq] at y
          exact h5 y.2.2.1
      · rw [if_neg (fun z => h4 (k4.mp z))]
        refine no ?_
        refine decide_eq_false (fun z => ?_)
        have y := z.2
        rw [s] at y
        simp only [pr_true, List.cons.injEq] at y
        exact h4 y.2.1
    · rw [if_neg (fun z => h3 (k3.mp z))]
      refine no ?_
      refine decide_eq_false (fun z => ?_)
      have y := z.2
      rw [s] at y
      simp only [pr_true, List.cons.injEq] at y
      exact h3 y.1
  · rw [if_neg (fun z => h7 (c7.mp z))]
    refine no ?_
    unfold pm_only
    simp [h7]
end MMG
