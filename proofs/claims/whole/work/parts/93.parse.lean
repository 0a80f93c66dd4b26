/-! the model: parse -/
def pm_A0 : pm_A := ((0, 0, 0), [], [], none, none)
section MPM
variable {F : Nat} {σ : pu_S} {ty : List Nat} {ma : List pm_R}
theorem pm_parse (hF : 100 ≤ F) (hp : pm_ty σ ty) (hm : pm_al σ ma) {a b : Nat} (hab : a ≤ b) (hb : b ≤ ty.length) : ∃ τ v, sh_Model_parse F 248 (nI a) (nI b) (pu_mk σ) = some (v, pu_mk τ) ∧ pm_fr pm_S pm_T σ τ ∧ (match pm_run ty b (b + 1 - a) 0 a a pm_A0 with
    | .inl e => v = nI e
    | .inr r => v = (if r.1 = 4 ∨ r.1 = 6 then nI b else -1) ∧ pm_ps τ ty (pm_fin ma r.2)) := by
  have hl := hp.2.2.1
  have T2 : pm_T 2 := by unfold pm_T; omega
  have T3 : pm_T 3 := by unfold pm_T; omega
  have T4 : pm_T 4 := by unfold pm_T; omega
  have T5 : pm_T 5 := by unfold pm_T; omega
  have T8 : pm_T 8 := by unfold pm_T; omega
  have T11 : pm_T 11 := by unfold pm_T; omega
  have f0 : pm_fr pm_S pm_T σ (pu_sI (pu_sI (pu_sI (pu_sI (pu_sI (pu_sI σ 248 2 0) 248 3 0) 248 4 0) 248 5 0) 248 8 0) 248 11 (-1)) :=
    ((((pm_fr.tr (pm_fr.sI T2) (pm_fr.sI T3)).tr (pm_fr.sI T4)).tr (pm_fr.sI T5)).tr (pm_fr.sI T8)).tr (pm_fr.sI T11)
  have hA : pm_ps (pu_sI (pu_sI (pu_sI (pu_sI (pu_sI (pu_sI σ 248 2 0) 248 3 0) 248 4 0) 248 5 0) 248 8 0) 248 11 (-1)) ty pm_A0 := by
    refine ⟨⟨?_, ?_, ?_⟩, ⟨?_, fun i hi => by simp [pm_A0] at hi, by simp [pm_A0], by simp [pm_A0]⟩, ⟨?_, fun i hi => by simp [pm_A0] at hi, by simp [pm_A0], by simp [pm_A0]⟩, ?_, fun p hp => by cases hp⟩
    all_goals simp [pu_sI, pm_A0, nI_0, pm_o]
  obtain ⟨τ, v, e, f1, q⟩ := pm_parse_38 (F := F) (ma := ma) (by omega) hb (b + 1 - a) F 0 a a pm_A0 _ (by omega) (by omega) (Nat.le_refl _) (hp.fr f0 (by unfold pm_S; omega) (by unfold pm_T; omega)) hA (hm.fr f0 (by unfold pm_T; omega) (fun x h1 h2 => by unfold pm_S; omega)) ⟨by decide, by simp [pm_A0], by simp [pm_A0], fun h => by omega⟩ ⟨by decide, by decide⟩
  refine ⟨τ, v, ?_, f0.tr f1, q⟩
  rw [nI_0] at e
  unfold sh_Model_parse
  rw [pm_p2, Option.bind_some, pm_p3, Option.bind_some, pm_p4, Option.bind_some, pm_p5, Option.bind_some, pm_p8, Option.bind_some, pm_p11, Option.bind_some]
  exact e
end MPM
