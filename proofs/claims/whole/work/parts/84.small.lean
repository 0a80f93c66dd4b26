/-! the model: the small calls -/
def pm_sh (σ : pu_S) (sh : List Nat) : Prop := σ.1 248 41 = nI sh.length ∧ (∀ i, i < sh.length → σ.2.2.1 274 i = nI (sh.getD i 0)) ∧ sh.length ≤ 80 ∧ ∀ c ∈ sh, c < 128
theorem pm_sh.fr {S T : Nat → Prop} {σ τ : pu_S} {sh : List Nat} (hp : pm_sh σ sh) (hf : pm_fr S T σ τ) (h1 : ¬ S 274) (h2 : ¬ T 41) : pm_sh τ sh :=
  ⟨(hf.2 41 h2).trans hp.1, fun i hi => (hf.1 274 h1 (by decide) i).2.2.1.trans (hp.2.1 i hi), hp.2.2⟩
section MSM
variable {F : Nat} {σ : pu_S} {sh : List Nat} {xs : List (List Nat)}
theorem pm_tags (hx : pm_fs σ xs) : sh_Model_tags F 248 (pu_mk σ) = some (nI xs.length, pu_mk σ) := by
  unfold sh_Model_tags
  rw [pm_31, Option.bind_some, hx.1]
theorem pm_found : sh_Model_found F 248 (pu_mk σ) = some (σ.1 248 43, pu_mk σ) := by
  unfold sh_Model_found
  rw [pm_43, Option.bind_some]
theorem pm_shown (hs : pm_sh σ sh) (x : Int32) : sh_Model_shown F 248 x (pu_mk σ) = some (nI (if ¬ x < 0 ∧ x.toNatClampNeg < sh.length then sh.getD x.toNatClampNeg 0 else 32), pu_mk σ) := by
  have hl := hs.2.2.1
  unfold sh_Model_shown sh_Model_shown_12 sh_Model_shown_23
  have e32 : im_rc (32 : Int32) (pu_mk σ) = some (nI 32, pu_mk σ) := pb_rc (k := 32) (by decide) _
  rcases pn_case x with h | ⟨k, hk, rfl⟩
  · rw [if_pos h, if_neg (fun q => q.1 h), e32]
  · have h0 := nI_pos hk
    have c : nI k < nI sh.length ↔ k < sh.length := nI_ltI hk (by omega)
    rw [if_neg h0, pm_41, Option.bind_some, hs.1, nI_clamp hk]
    by_cases h : k < sh.length
    · have a := pm_tylt hs.2.2.2 k
      rw [if_pos (c.mpr h), pm_42, Option.bind_some, pm_l274 σ (by omega), Option.bind_some, hs.2.1 k h, pb_rc (by omega), if_pos ⟨h0, h⟩]
    · rw [if_neg (fun q => h (c.mp q)), if_neg (fun q => h q.2), e32]
theorem pm_none (hx : pm_fs σ xs) (x : Int32) : sh_Model_none F 248 x (pu_mk σ) = some (pb_b (decide (¬ (¬ x < 0 ∧ x.toNatClampNeg < xs.length))), pu_mk σ) := by
  have h16 := hx.2.1
  unfold sh_Model_none sh_Model_none_12 sh_Model_none_17
  rcases pn_case x with h | ⟨k, hk, rfl⟩
  · rw [if_pos h, pb_rz1, decide_eq_true (show ¬ (¬ x < 0 ∧ x.toNatClampNeg < xs.length) from fun q => q.1 h)]
    rfl
  · have h0 := nI_pos hk
    have c : nI k < nI xs.length ↔ k < xs.length := nI_ltI hk (by omega)
    rw [if_neg h0, pm_31, Option.bind_some, hx.1, nI_clamp hk]
    by_cases h : k < xs.length
    · rw [if_pos (c.mpr h), pb_rz0, decide_eq_false (fun q => q ⟨h0, h⟩)]
      rfl
    · rw [if_neg (fun q => h (c.mp q)), pb_rz1, decide_eq_true (show ¬ (¬ nI k < 0 ∧ k < xs.length) from fun q => h q.2)]
      rfl
end MSM
