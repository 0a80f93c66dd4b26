/-! the model: what is supported -/
def pm_su (σ : pu_S) (su : List Nat) : Prop := σ.1 248 39 = nI su.length ∧ (∀ i, i < su.length → σ.2.2.1 273 i = nI (su.getD i 0)) ∧ su.length ≤ 16 ∧ ∀ t ∈ su, t < 16
theorem pm_su.fr {S T : Nat → Prop} {σ τ : pu_S} {su : List Nat} (hp : pm_su σ su) (hf : pm_fr S T σ τ) (h1 : ¬ S 273) (h2 : ¬ T 39) : pm_su τ su :=
  ⟨(hf.2 39 h2).trans hp.1, fun i hi => (hf.1 273 h1 (by decide) i).2.2.1.trans (hp.2.1 i hi), hp.2.2⟩
section MSU
variable {F : Nat} {σ : pu_S} {su : List Nat} {xs : List (List Nat)}
theorem pm_isSupported_2 (hp : pm_su σ su) {t : Nat} (ht : t < 2 ^ 31) : ∀ (f k : Nat), su.length + 1 ≤ f + k → k ≤ su.length → sh_Model_isSupported_2 F f 248 (nI t) (nI k) (pu_mk σ) = some (pb_b (decide (t ∈ su.drop k)), pu_mk σ) := by
  have hl := hp.2.2.1
  intro f
  induction f with
  | zero => intro k h1 h2; omega
  | succ f ih =>
    intro k h1 h2
    have h6 : nI su.length ≤ nI k ↔ su.length ≤ k := nI_leI (by omega) (by omega)
    rw [sh_Model_isSupported_2, pm_39, Option.bind_some, hp.1]
    by_cases h3 : su.length ≤ k
    · rw [if_pos (h6.mpr h3), pb_rz0, List.drop_eq_nil_of_le h3, decide_eq_false (by simp)]
      rfl
    · have hk : k < su.length := by omega
      have g := hp.2.2.2 _ (pb_getG 0 hk)
      have hq : nI (su.getD k 0) = nI t ↔ su.getD k 0 = t := nI_eq (by omega) ht
      rw [if_neg (fun q => h3 (h6.mp q)), pm_40, Option.bind_some, pm_l273 σ (by omega), Option.bind_some, hp.2.1 k hk, pb_dropG 0 hk]
      by_cases h9 : su.getD k 0 = t
      · rw [if_pos (hq.mpr h9), pb_rz1, decide_eq_true (List.mem_cons.mpr (Or.inl h9.symm))]
        rfl
      · rw [if_neg (fun q => h9 (hq.mp q)), nI_1, ih (k + 1) (by omega) (by omega)]
        have : decide (t ∈ su.drop (k + 1)) = decide (t ∈ su.getD k 0 :: su.drop (k + 1)) := by
          rw [decide_eq_decide, List.mem_cons]
          constructor
          · exact Or.inr
          · rintro (q | q)
            · exact absurd q.symm h9
            · exact q
        rw [this]
theorem pm_isSupported (hp : pm_su σ su) (hF : 62 ≤ F) {t : Nat} (ht : t < 2 ^ 31) : sh_Model_isSupported F 248 (nI t) (pu_mk σ) = some (pb_b (decide (t ∈ su)), pu_mk σ) := by
  have hl := hp.2.2.1
  have e := pm_isSupported_2 (F := F) hp ht F 0 (by omega) (by omega)
  rw [nI_0, List.drop_zero] at e
  exact e
end MSU
