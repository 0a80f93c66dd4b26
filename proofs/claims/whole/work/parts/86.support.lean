/-! the model: support -/
section MSV
variable {F : Nat} {σ : pu_S} {su : List Nat} {xs : List (List Nat)}
theorem pm_support (hF : 62 ≤ F) (hx : pm_fs σ xs) (hp : pm_su σ su) (hroom : ∀ t, t < xs.length → ¬ t ∈ su → su.length < 16) (x : Int32) : ∃ τ, sh_Model_support F 248 x (pu_mk σ) = some (pb_b (decide ((¬ x < 0 ∧ x.toNatClampNeg < xs.length) ∧ ¬ x.toNatClampNeg ∈ su)), pu_mk τ) ∧ pm_su τ (if (¬ x < 0 ∧ x.toNatClampNeg < xs.length) ∧ ¬ x.toNatClampNeg ∈ su then su ++ [x.toNatClampNeg] else su) ∧ pm_fr (fun x => x = 273) (fun k => k = 39) σ τ := by
  have h16 := hx.2.1
  unfold sh_Model_support sh_Model_support_16
  rw [pm_i, Option.bind_some, pm_none hx, im_b2_s]
  by_cases h1 : ¬ x < 0 ∧ x.toNatClampNeg < xs.length
  · rcases pn_case x with h | ⟨t, ht, rfl⟩
    · exact absurd h h1.1
    · rw [nI_clamp ht] at h1 ⊢
      have hd : decide (¬ (¬ nI t < 0 ∧ t < xs.length)) = false := decide_eq_false (fun q => q h1)
      rw [hd, if_pos (show pb_b false = 0 from rfl), pm_i, Option.bind_some, pm_isSupported hp hF ht, im_b2_s]
      by_cases h2 : t ∈ su
      · have hn : ¬ ((¬ nI t < 0 ∧ t < xs.length) ∧ ¬ t ∈ su) := fun q => q.2 h2
        refine ⟨σ, ?_, ?_, pm_fr.rf⟩
        · rw [decide_eq_true h2, if_neg (show ¬ pb_b true = 0 by decide), pb_rz0, decide_eq_false hn]
          rfl
        · rw [if_neg hn]
          exact hp
      · have hy : (¬ nI t < 0 ∧ t < xs.length) ∧ ¬ t ∈ su := ⟨h1, h2⟩
        have hr := hroom t h1.2 h2
        refine ⟨pu_sI (pu_sA σ 273 su.length (nI t)) 248 39 (nI (su.length + 1)), ?_, ?_, pm_fr.tr (τ := pu_sA σ 273 su.length (nI t)) (pm_fr.sA (S := fun x => x = 273) (h := 273) rfl) (pm_fr.sI (T := fun k => k = 39) rfl)⟩
        · have e : (pu_sA σ 273 su.length (nI t)).1 248 39 = nI su.length := hp.1
          rw [decide_eq_false h2, if_pos (show pb_b false = 0 from rfl), pm_40, Option.bind_some, pm_39, Option.bind_some, hp.1, pm_t273 σ _ hr, Option.bind_some, pm_39, Option.bind_some, e, nI_1, pm_p39, Option.bind_some, pb_rz1, decide_eq_true hy]
          rfl
        · rw [if_pos hy]
          refine ⟨by simp [pu_sI], fun i hi => ?_, by simp; omega, fun y hy => ?_⟩
          · have hi : i < su.length + 1 := by simpa using hi
            rw [pb_appG hi]
            by_cases hil : i = su.length
            · subst hil
              simp [pu_sI, pu_sA]
            · have h7 := hp.2.1 i (by omega)
              rw [if_neg hil]
              simpa [pu_sI, pu_sA, hil] using h7
          · rcases List.mem_append.mp hy with hy | hy
            · exact hp.2.2.2 y hy
            · simp at hy
              have := h1.2
              omega
  · have hd : decide (¬ (¬ x < 0 ∧ x.toNatClampNeg < xs.length)) = true := decide_eq_true h1
    have hn : ¬ ((¬ x < 0 ∧ x.toNatClampNeg < xs.length) ∧ ¬ x.toNatClampNeg ∈ su) := fun q => h1 q.1
    refine ⟨σ, ?_, ?_, pm_fr.rf⟩
    · rw [hd, if_neg (show ¬ pb_b true = 0 by decide), pb_rz0, decide_eq_false hn]
      rfl
    · rw [if_neg hn]
      exact hp
end MSV
