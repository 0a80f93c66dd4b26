/-! the model: the short form is put -/
/-- a part that has a number: small enough, of letters and digits -/
def pv_ok (s : List Nat) : Prop := (∀ c ∈ s, c < 128) ∧ s.all pb_isA = true ∧ s.length ≤ 4
theorem pv_n_ge {s : List Nat} (hA : s.all pb_isA = true) (h : ¬ s = []) : 37 ^ (s.length - 1) ≤ pv_n s := by
  cases s with
  | nil => exact absurd rfl h
  | cons c s =>
    rw [List.all_cons, Bool.and_eq_true] at hA
    have hd := pv_d_b hA.1
    rw [pv_n_cons, List.length_cons, show s.length + 1 - 1 = s.length by omega]
    have : 1 * 37 ^ s.length ≤ pv_d c * 37 ^ s.length := Nat.mul_le_mul_right _ hd.1
    omega
section MSH
variable {F : Nat} {s : List Nat}
theorem pm_putNumber_2 (hs : pv_ok s) (hne : ¬ s = []) (x2 : Int32) (σ : pu_S) : ∀ (t f j : Nat), j + t = s.length - 1 → t + 1 ≤ f → sh_Model_putNumber_2 F f 248 (nI (pv_n s)) x2 (nI (37 ^ j)) (pu_mk σ) = sh_Model_putNumber_21 F F 248 (nI (pv_n s)) x2 (nI (37 ^ (s.length - 1))) (0 : Int32) (pu_mk σ) := by
  obtain ⟨h1, hA, hm⟩ := hs
  have hn := pv_n_lt hA
  have hg := pv_n_ge hA hne
  have hpos : 1 ≤ s.length := List.length_pos_iff.mpr hne
  have hp4 : 37 ^ s.length ≤ 37 ^ 4 := Nat.pow_le_pow_right (by decide) hm
  have h374 : (37 : Nat) ^ 4 = 1874161 := by decide
  intro t
  induction t with
  | zero =>
    intro f j hj hf
    obtain ⟨f, rfl⟩ : ∃ g, f = g + 1 := ⟨f - 1, by omega⟩
    have hj : j = s.length - 1 := by omega
    subst hj
    have hpw : 37 ^ (s.length - 1) ≤ 37 ^ 4 := Nat.pow_le_pow_right (by decide) (by omega)
    have hp0 : 0 < 37 ^ (s.length - 1) := Nat.pow_pos (by decide)
    have e1 : nI (pv_n s) / nI (37 ^ (s.length - 1)) = nI (pv_n s / 37 ^ (s.length - 1)) := pn_div (by omega) (by omega)
    have hlt : pv_n s / 37 ^ (s.length - 1) < 37 := by
      rw [Nat.div_lt_iff_lt_mul hp0, Nat.mul_comm, ← Nat.pow_succ, show (s.length - 1).succ = s.length by omega]
      exact hn
    rw [sh_Model_putNumber_2, pm_dv hp0 (by omega), Option.bind_some, e1, if_pos (show nI (pv_n s / 37 ^ (s.length - 1)) < (37 : Int32) from nI_lt (b := 37) hlt (by decide))]
  | succ t ih =>
    intro f j hj hf
    obtain ⟨f, rfl⟩ : ∃ g, f = g + 1 := ⟨f - 1, by omega⟩
    have hpw : 37 ^ j ≤ 37 ^ 4 := Nat.pow_le_pow_right (by decide) (by omega)
    have hp0 : 0 < 37 ^ j := Nat.pow_pos (by decide)
    have hdv : pv_n s / 37 ^ j ≤ pv_n s := Nat.div_le_self _ _
    have e1 : nI (pv_n s) / nI (37 ^ j) = nI (pv_n s / 37 ^ j) := pn_div (by omega) (by omega)
    have hge : 37 ≤ pv_n s / 37 ^ j := by
      rw [Nat.le_div_iff_mul_le hp0, Nat.mul_comm, ← Nat.pow_succ]
      exact Nat.le_trans (Nat.pow_le_pow_right (by decide) (by omega)) hg
    have e2 : (37 : Int32) * nI (37 ^ j) = nI (37 ^ (j + 1)) := by
      have : (37 : Int32) * nI (37 ^ j) = nI (37 * 37 ^ j) := pn_mul 37 _
      rw [this, Nat.pow_succ, Nat.mul_comm]
    rw [sh_Model_putNumber_2, pm_dv hp0 (by omega), Option.bind_some, e1, if_neg (show ¬ nI (pv_n s / 37 ^ j) < (37 : Int32) from nI_nlt (b := 37) hge (by omega)), e2]
    exact ih f (j + 1) (by omega) (by omega)
theorem pm_putNumber (hF : 62 ≤ F) (hs : pv_ok s) (hne : ¬ s = []) {caps : Nat} (hcaps : caps < 100) {σ : pu_S} {l : List Nat} (hf : pm_fm σ l) (hl : l.length + s.length ≤ 80) : ∃ τ, sh_Model_putNumber F 248 (nI (pv_n s)) (nI caps) (pu_mk σ) = some (pu_mk τ) ∧ pm_fm τ (l ++ pv_t caps s) ∧ pm_fr (fun x => x = 254) (fun k => k = 13) σ τ := by
  have hpos : 1 ≤ s.length := List.length_pos_iff.mpr hne
  have hm := hs.2.2
  obtain ⟨τ, e, p, f⟩ := pm_putNumber_21 (F := F) hs.1 hs.2.1 hm caps hcaps F 0 σ l (by omega) (by omega) hf (by omega)
  refine ⟨τ, ?_, by simpa using p, f⟩
  have e2 := pm_putNumber_2 (F := F) hs hne (nI caps) σ (s.length - 1) F 0 (by omega) (by omega)
  rw [if_pos (show 0 < s.length by omega), nI_0, Nat.sub_zero] at e
  unfold sh_Model_putNumber
  exact e2.trans e
end MSH
