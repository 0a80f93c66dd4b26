/-! the model: a number's characters are put -/
def pv_t : Nat → List Nat → List Nat
  | _, [] => []
  | n, c :: s => (if 0 < n then pv_u (pt_low c) else pt_low c) :: pv_t (n - 1) s
theorem pv_cd : ∀ c, c < 128 → pb_isA c = true → pv_c (pv_d c) = pt_low c := by decide +kernel
theorem pv_u_lt {c : Nat} (h : c < 128) : pv_u c < 128 := by
  unfold pv_u
  split <;> omega
theorem pm_dv {x : Nat} (h0 : 0 < x) (hx : x < 2 ^ 31) : im_dv (nI x) = some () := by
  unfold im_dv
  rw [if_neg (nI_ne0 h0 hx)]
theorem pv_len (n : Nat) (s : List Nat) : (pv_t n s).length = s.length := by
  induction s generalizing n with
  | nil => rfl
  | cons c s ih => simp [pv_t, ih]
section MPN
variable {F : Nat} {s : List Nat}
theorem pm_putNumber_21 (hs : ∀ c ∈ s, c < 128) (hA : s.all pb_isA = true) (hm : s.length ≤ 4) (caps : Nat) (hcaps : caps < 100) : ∀ (f k : Nat) (σ : pu_S) (l : List Nat), s.length + 1 ≤ f + k → k ≤ s.length → pm_fm σ l → l.length + (s.length - k) ≤ 80 → ∃ τ, sh_Model_putNumber_21 F f 248 (nI (pv_n s)) (nI caps) (nI (if k < s.length then 37 ^ (s.length - 1 - k) else 0)) (nI k) (pu_mk σ) = some (pu_mk τ) ∧ pm_fm τ (l ++ pv_t (caps - k) (s.drop k)) ∧ pm_fr (fun x => x = 254) (fun k => k = 13) σ τ := by
  have hn := pv_n_lt hA
  have hp4 : 37 ^ s.length ≤ 37 ^ 4 := Nat.pow_le_pow_right (by decide) hm
  have h374 : (37 : Nat) ^ 4 = 1874161 := by decide
  intro f
  induction f with
  | zero => intro k σ l h1 h2; omega
  | succ f ih =>
    intro k σ l h1 h2 hf hl
    rw [sh_Model_putNumber_21]
    by_cases hk : k < s.length
    · have hc := pm_mem_get hs k
      have hAk : pb_isA (s.getD k 0) = true := List.all_eq_true.mp hA _ (pb_getG 0 hk)
      have hdb := pv_d_b hAk
      have hat := pv_at hA hk
      have hpw : 37 ^ (s.length - 1 - k) ≤ 37 ^ 4 := Nat.pow_le_pow_right (by decide) (by omega)
      have hp0 : 0 < 37 ^ (s.length - 1 - k) := Nat.pow_pos (by decide)
      have hdv : pv_n s / 37 ^ (s.length - 1 - k) ≤ pv_n s := Nat.div_le_self _ _
      have e1 : nI (pv_n s) / nI (37 ^ (s.length - 1 - k)) = nI (pv_n s / 37 ^ (s.length - 1 - k)) := pn_div (by omega) (by omega)
      have e2 : nI (pv_n s / 37 ^ (s.length - 1 - k)) / (37 : Int32) = nI (pv_n s / 37 ^ (s.length - 1 - k) / 37) := pn_div (b := 37) (by omega) (by decide)
      have e3 : nI (pv_n s / 37 ^ (s.length - 1 - k) / 37) * (37 : Int32) = nI (pv_n s / 37 ^ (s.length - 1 - k) / 37 * 37) := pn_mul _ 37
      have e4 : nI (pv_n s / 37 ^ (s.length - 1 - k)) - nI (pv_n s / 37 ^ (s.length - 1 - k) / 37 * 37) = nI (pv_d (s.getD k 0)) := by
        rw [pn_sub (Nat.div_mul_le_self _ _), ← hat]
        congr 1
        omega
      have e5 : nI (37 ^ (s.length - 1 - k)) / (37 : Int32) = nI (if k + 1 < s.length then 37 ^ (s.length - 1 - (k + 1)) else 0) := by
        have : nI (37 ^ (s.length - 1 - k)) / (37 : Int32) = nI (37 ^ (s.length - 1 - k) / 37) := pn_div (b := 37) (by omega) (by decide)
        rw [this]
        congr 1
        by_cases h : k + 1 < s.length
        · rw [if_pos h, show s.length - 1 - k = (s.length - 1 - (k + 1)) + 1 by omega, Nat.pow_succ]
          exact Nat.mul_div_cancel _ (by decide)
        · rw [if_neg h, show s.length - 1 - k = 0 by omega]
      have e6 := pv_cd _ hc hAk
      have hcap : nI caps ≤ nI k ↔ caps ≤ k := nI_leI (by omega) (by omega)
      have hlow := pm_low_lt hc
      have hch : (if 0 < caps - k then pv_u (pt_low (s.getD k 0)) else pt_low (s.getD k 0)) < 128 := by
        split
        · exact pv_u_lt hlow
        · exact hlow
      obtain ⟨σ1, p1, p2, p3⟩ := pm_putChar (F := F) hf hch (by omega)
      obtain ⟨τ, q1, q2, q3⟩ := ih (k + 1) σ1 (l ++ [if 0 < caps - k then pv_u (pt_low (s.getD k 0)) else pt_low (s.getD k 0)]) (by omega) (by omega) p2 (by simp; omega)
      refine ⟨τ, ?_, ?_, p3.tr q3⟩
      · rw [if_pos hk, if_neg (nI_nle hp0 (by omega)), pm_dv hp0 (by omega), Option.bind_some, pm_i, Option.bind_some, e1, e2, e3, e4, pm_character hdb.1 hdb.2, im_b2_s, e6]
        unfold sh_Model_putNumber_55
        by_cases h : caps ≤ k
        · rw [if_neg (by omega)] at p1
          rw [if_pos (hcap.mpr h), pm_i, Option.bind_some, p1, Option.bind_some, e5, nI_1, q1]
        · rw [if_pos (by omega)] at p1
          rw [if_neg (fun q => h (hcap.mp q)), pm_i, Option.bind_some, pm_capital hlow, im_b2_s, pm_i, Option.bind_some, p1, Option.bind_some, e5, nI_1, q1]
      · rw [pb_dropG 0 hk, pv_t, show caps - k - 1 = caps - (k + 1) by omega]
        simpa using q2
    · refine ⟨σ, ?_, ?_, pm_fr.rf⟩
      · rw [if_neg hk, nI_0, if_pos (by decide)]
      · rw [List.drop_eq_nil_of_le (by omega)]
        simpa [pv_t] using hf
end MPN
