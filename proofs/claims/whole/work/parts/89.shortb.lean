/-! the model: putShort -/
def pv_sh (a b c : List Nat) : List Nat := pv_t 0 a ++ (if b = [] then [] else 45 :: pv_t 1 b) ++ (if c = [] then [] else 45 :: pv_t 3 c)
theorem pv_n0 {s : List Nat} (h : pv_ok s) : nI (pv_n s) ≤ 0 ↔ s = [] := by
  constructor
  · intro q
    apply Classical.byContradiction
    intro hne
    have := pv_n_b h.2.1 hne h.2.2
    exact nI_nle (by omega) (by omega) q
  · intro q
    subst q
    decide
section MSI
variable {F : Nat} {σ : pu_S}
theorem pm_putShort_27 (hF : 62 ≤ F) {c l : List Nat} (hc : pv_ok c) (hf : pm_fm σ l) (hl : l.length ≤ 60) : ∃ τ, sh_Model_putShort_27 F 248 (nI (pv_n c)) (pu_mk σ) = some (pu_mk τ) ∧ pm_fm τ (l ++ (if c = [] then [] else 45 :: pv_t 3 c)) ∧ pm_fr (fun x => x = 254) (fun k => k = 13) σ τ := by
  have hm := hc.2.2
  unfold sh_Model_putShort_27 sh_Model_putShort_43
  by_cases h : c = []
  · refine ⟨σ, ?_, ?_, pm_fr.rf⟩
    · rw [if_pos ((pv_n0 hc).mpr h)]
    · rw [if_pos h, List.append_nil]
      exact hf
  · obtain ⟨σ1, e1, p1, f1⟩ := pm_putChar (F := F) hf (c := 45) (by decide) (by omega)
    have e1 : sh_Model_putChar F 248 (45 : Int32) (pu_mk σ) = some (pu_mk σ1) := e1
    obtain ⟨τ, e2, p2, f2⟩ := pm_putNumber (F := F) hF hc h (caps := 3) (by decide) p1 (by simp; omega)
    have e2 : sh_Model_putNumber F 248 (nI (pv_n c)) (3 : Int32) (pu_mk σ1) = some (pu_mk τ) := e2
    refine ⟨τ, ?_, ?_, f1.tr f2⟩
    · rw [if_neg (fun q => h ((pv_n0 hc).mp q)), pm_i, Option.bind_some, e1, Option.bind_some, pm_i, Option.bind_some, e2, Option.bind_some]
    · rw [if_neg h]
      simpa using p2
theorem pm_putShort (hF : 62 ≤ F) {a b c : List Nat} (ha : pv_ok a) (hb : pv_ok b) (hc : pv_ok c) (hne : ¬ a = []) : ∃ τ, sh_Model_putShort F 248 (nI (pv_n a)) (nI (pv_n b)) (nI (pv_n c)) (pu_mk σ) = some (pu_mk τ) ∧ pm_fm τ (pv_sh a b c) ∧ pm_fr (fun x => x = 254) (fun k => k = 13) σ τ := by
  have hma := ha.2.2
  have hmb := hb.2.2
  have f0 : pm_fm (pu_sI σ 248 13 0) [] := ⟨by simp [pu_sI, nI_0], fun i hi => by simp at hi, by simp, by simp⟩
  have g0 : pm_fr (fun x => x = 254) (fun k => k = 13) σ (pu_sI σ 248 13 0) := pm_fr.sI (T := fun k => k = 13) rfl
  obtain ⟨σ1, e1, p1, f1⟩ := pm_putNumber (F := F) hF ha hne (caps := 0) (by decide) f0 (by simp; omega)
  have e1 : sh_Model_putNumber F 248 (nI (pv_n a)) (0 : Int32) (pu_mk (pu_sI σ 248 13 0)) = some (pu_mk σ1) := e1
  rw [List.nil_append] at p1
  have hla := pv_len 0 a
  unfold sh_Model_putShort pv_sh
  by_cases h : b = []
  · obtain ⟨τ, e3, p3, f3⟩ := pm_putShort_27 (F := F) hF hc p1 (by omega)
    refine ⟨τ, ?_, ?_, (g0.tr f1).tr f3⟩
    · rw [pm_p13, Option.bind_some, pm_i, Option.bind_some, e1, Option.bind_some, if_pos ((pv_n0 hb).mpr h), e3]
    · rw [if_pos h, List.append_nil]
      exact p3
  · obtain ⟨σ2, e2, p2, f2⟩ := pm_putChar (F := F) p1 (c := 45) (by decide) (by omega)
    have e2 : sh_Model_putChar F 248 (45 : Int32) (pu_mk σ1) = some (pu_mk σ2) := e2
    obtain ⟨σ3, e3, p3, f3⟩ := pm_putNumber (F := F) hF hb h (caps := 1) (by decide) p2 (by simp; omega)
    have e3 : sh_Model_putNumber F 248 (nI (pv_n b)) (1 : Int32) (pu_mk σ2) = some (pu_mk σ3) := e3
    have hlb := pv_len 1 b
    obtain ⟨τ, e4, p4, f4⟩ := pm_putShort_27 (F := F) hF hc p3 (by simp; omega)
    refine ⟨τ, ?_, ?_, (((g0.tr f1).tr f2).tr f3).tr f4⟩
    · rw [pm_p13, Option.bind_some, pm_i, Option.bind_some, e1, Option.bind_some, if_neg (fun q => h ((pv_n0 hb).mp q)), pm_i, Option.bind_some, e2, Option.bind_some, pm_i, Option.bind_some, e3, Option.bind_some, e4]
    · rw [if_neg h]
      simpa using p4
end MSI
