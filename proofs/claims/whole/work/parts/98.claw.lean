/-! the law's loop -/
theorem lw_8 (σ : pu_S) : im_is (pu_mk σ) 8 0 = some () := pu_is po_sk σ
theorem lw_scr {L : Nat} {xs : Nat → Int32} {i : Nat} (hi : i < L) (hL : L ≤ 2048) : im_scr L xs (nI i) = some (xs i) := by
  unfold im_scr
  rw [if_neg (nI_in hi (by omega)), nI_clamp (by omega)]
theorem lw_15 (x : Int32) : ∃ j, j < 16 ∧ x &&& 15 = nI j := by
  refine ⟨(x &&& 15).toBitVec.toNat, ?_, ?_⟩
  · have e : (x &&& 15).toBitVec = x.toBitVec &&& 15#32 := rfl
    rw [e, BitVec.toNat_and]
    have : x.toBitVec.toNat &&& (15#32).toNat ≤ (15#32).toNat := Nat.and_le_right
    have h15 : (15#32).toNat = 15 := rfl
    omega
  · apply Int32.toBitVec_inj.mp
    apply BitVec.eq_of_toNat_eq
    show (x &&& 15).toBitVec.toNat = (BitVec.ofNat 32 (x &&& 15).toBitVec.toNat).toNat
    rw [BitVec.toNat_ofNat, Nat.mod_eq_of_lt (x &&& 15).toBitVec.isLt]
theorem lw_i2c (x : Int32) : ∃ c, c < 65536 ∧ im_i2c x = nI c := by
  refine ⟨(x.toUInt32 % 65536).toNat, ?_, ?_⟩
  · rw [UInt32.toNat_mod]
    exact Nat.mod_lt _ (by decide)
  · unfold im_i2c nI
    apply Int32.toBitVec_inj.mp
    apply BitVec.eq_of_toNat_eq
    simp
    have e : x.toUInt32.toNat = x.toBitVec.toNat := rfl
    rw [e]
    omega
theorem lw_end {L i : Nat} (hL : L ≤ 2048) (hi : i ≤ L) : (Int32.ofNat L - (4 : Int32) < nI i) ↔ L < i + 4 := by
  by_cases h4 : 4 ≤ L
  · have e : Int32.ofNat L - (4 : Int32) = nI (L - 4) := pn_sub (b := 4) h4
    rw [e, nI_ltI (by omega) (by omega)]
    omega
  · have : ∀ L : Fin 4, ∀ i : Fin 4, Int32.ofNat L.val - (4 : Int32) < nI i.val := by decide
    have := this ⟨L, by omega⟩ ⟨i, by omega⟩
    exact ⟨fun _ => by omega, fun _ => this⟩
theorem jj_z : jj pu_z := by
  refine ⟨[], [], [], [], [], [], [], 0, ⟨⟨?_, ?_, ?_, ?_, ?_⟩, ?_⟩, ⟨?_, ?_, ?_, ?_, ?_, ⟨?_, ?_, ?_⟩, ?_, rfl⟩, ⟨?_, ?_, ?_, ?_, ?_, ?_⟩, ?_, ?_, ?_, List.nodup_nil⟩
  · exact ⟨nI_0.symm, fun i hi => (by cases hi), by decide, fun c hc => by cases hc⟩
  · exact ⟨nI_0.symm, fun i hi => (by cases hi), by decide, fun c hc => by cases hc⟩
  · exact ⟨nI_0.symm, fun i hi => (by cases hi), by decide, fun c hc => by cases hc⟩
  · exact ⟨nI_0.symm, by decide, fun i hi => by cases hi⟩
  · exact ⟨nI_0.symm, by decide, fun i hi => by cases hi⟩
  · exact ⟨nI_0.symm, by decide, fun i hi => (by cases hi), fun t _ _ => ⟨rfl, fun k _ => rfl⟩, nI_0.symm, by decide, fun i hi => (by cases hi), fun t ht => (by cases ht), rfl⟩
  · exact ⟨nI_0.symm, fun i hi => (by cases hi), by decide, fun c hc => by cases hc⟩
  · exact ⟨nI_0.symm, fun i hi => (by cases hi), by decide, fun c hc => by cases hc⟩
  · exact ⟨nI_0.symm, fun i hi => (by cases hi), by decide, fun c hc => by cases hc⟩
  · exact ⟨nI_0.symm, by decide, fun i hi => by cases hi⟩
  · exact ⟨nI_0.symm, by decide, fun i hi => by cases hi⟩
  · exact ⟨nI_0.symm, by decide, fun i hi => (by cases hi), fun x hx => by cases hx⟩
  · exact fun t ht => by cases ht
  · exact fun t k _ _ => ⟨rfl, fun v hv => by cases hv⟩
  · exact ⟨nI_0.symm, fun i hi => (by cases hi), by decide, fun c hc => by cases hc⟩
  · exact fun a ha => by cases ha
  · exact List.Pairwise.nil
  · exact fun r s => ⟨0, rfl⟩
  · exact fun a ha => by cases ha
  · decide
  · exact fun a ha => by cases ha
  · exact fun a ha => by cases ha
  · exact fun a ha => by cases ha
  · exact fun a ha => by cases ha
set_option maxHeartbeats 4000000 in
theorem lw_loop {F L : Nat} (hF : 100 ≤ F) (hL : L ≤ 2048) (xs : Nat → Int32) : ∀ (f i : Nat) (σ : pu_S), i ≤ L → L < i + 4 * f → jj σ → sh_Law_law_18 F L xs f 0 248 (nI i) (pu_mk σ) = some () := by
  intro f
  induction f with
  | zero => intro i σ h1 h2; omega
  | succ f ih =>
  intro i σ h1 h2 h
  have hend := lw_end hL h1
  rw [sh_Law_law_18]
  by_cases he : L < i + 4
  · rw [if_pos (hend.mpr he)]
  rw [if_neg (fun z => he (hend.mp z)), lw_scr (show i < L by omega) hL, Option.bind_some]
  have s1 : im_scr L xs (nI i + 1) = some (xs (i + 1)) := by rw [nI_1]; exact lw_scr (by omega) hL
  have s2 : im_scr L xs (nI i + 2) = some (xs (i + 2)) := by rw [show nI i + (2 : Int32) = nI (i + 2) from nI_add i 2]; exact lw_scr (by omega) hL
  have s3 : im_scr L xs (nI i + 3) = some (xs (i + 3)) := by rw [show nI i + (3 : Int32) = nI (i + 3) from nI_add i 3]; exact lw_scr (by omega) hL
  have n4' : nI i + (4 : Int32) = nI (i + 4) := nI_add i 4
  have n4 : ∀ (k : Nat → Nat → Int32 → im_W → Option Unit) (w : im_W), sh_Law_law_532 F L xs k 0 248 (nI i) w = k 0 248 (nI (i + 4)) w := fun k w => by unfold sh_Law_law_532; rw [n4']
  obtain ⟨j, hj16, hj⟩ := lw_15 (xs i)
  by_cases j0 : j = 0
  · subst j0
    rw [hj]
    obtain ⟨c, hc, hcc⟩ := lw_i2c (xs (i + 1))
    obtain ⟨v, τ, ρ, e1, e2, J⟩ := jc_type hF h hc
    rw [if_pos (show nI 0 = (0 : Int32) from rfl), s1, Option.bind_some, lw_8, Option.bind_some, hcc, e1, im_b2_s, Option.bind_some, pm_i, Option.bind_some, hcc, e2, im_b2_s, if_pos rfl, n4]
    exact ih (i + 4) ρ (by omega) (by omega) J
  by_cases j1 : j = 1
  · subst j1
    rw [hj]
    obtain ⟨τ, ρ, e1, e2, J⟩ := jc_wipe (F := F) h
    rw [if_neg (show ¬ nI 1 = (0 : Int32) by decide), if_pos (show nI 1 = (1 : Int32) from rfl), lw_8, Option.bind_some, e1, Option.bind_some, pm_i, Option.bind_some, e2, Option.bind_some, n4]
    exact ih (i + 4) ρ (by omega) (by omega) J
  by_cases j2 : j = 2
  · subst j2
    rw [hj]
    obtain ⟨r, hr0, hr1⟩ : ∃ r : Bool, (xs (i + 1) = 0 → r = false) ∧ (¬ xs (i + 1) = 0 → r = true) := ⟨decide (¬ xs (i + 1) = 0), fun z => by simp [z], fun z => by simp [z]⟩
    obtain ⟨v, τ, ρ, e1, e2, J⟩ := jc_alias hF h r
    unfold sh_Law_law_162 sh_Law_law_179 sh_Law_law_532
    rw [if_neg (show ¬ nI 2 = (0 : Int32) by decide), if_neg (show ¬ nI 2 = (1 : Int32) by decide), if_pos (show nI 2 = (2 : Int32) from rfl), s1, Option.bind_some]
    by_cases hz : xs (i + 1) = 0
    · have hr := hr0 hz
      subst hr
      rw [if_pos hz, lw_8, Option.bind_some]
      rw [show sh_LT_alias F 0 0 (pu_mk σ) = _ from e1, im_b2_s, Option.bind_some, if_pos hz, pm_i, Option.bind_some]
      rw [show sh_Model_alias F 248 0 (pu_mk τ) = _ from e2, im_b2_s, if_pos rfl, n4']
      exact ih (i + 4) ρ (by omega) (by omega) J
    · have hr := hr1 hz
      subst hr
      rw [if_neg hz, lw_8, Option.bind_some]
      rw [show sh_LT_alias F 0 1 (pu_mk σ) = _ from e1, im_b2_s, Option.bind_some, if_neg hz, pm_i, Option.bind_some]
      rw [show sh_Model_alias F 248 1 (pu_mk τ) = _ from e2, im_b2_s, if_pos rfl, n4']
      exact ih (i + 4) ρ (by omega) (by omega) J
  by_cases j3 : j = 3
  · subst j3
    rw [hj]
    obtain ⟨v, τ, ρ, e1, e2, J⟩ := jc_read (F := F) hF h
    rw [if_neg (show ¬ nI 3 = (0 : Int32) by decide), if_neg (show ¬ nI 3 = (1 : Int32) by decide), if_neg (show ¬ nI 3 = (2 : Int32) by decide), if_pos (show nI 3 = (3 : Int32) from rfl), lw_8, Option.bind_some, e1, im_b2_s, pm_i, Option.bind_some, e2, im_b2_s, if_pos rfl, n4]
    exact ih (i + 4) ρ (by omega) (by omega) J
  by_cases j4 : j = 4
  · subst j4
    rw [hj]
    obtain ⟨r, hr0, hr1⟩ : ∃ r : Bool, (xs (i + 1) = 0 → r = false) ∧ (¬ xs (i + 1) = 0 → r = true) := ⟨decide (¬ xs (i + 1) = 0), fun z => by simp [z], fun z => by simp [z]⟩
    obtain ⟨v, τ, ρ, e1, e2, J⟩ := jc_pair hF h r
    unfold sh_Law_law_214 sh_Law_law_231 sh_Law_law_532
    rw [if_neg (show ¬ nI 4 = (0 : Int32) by decide), if_neg (show ¬ nI 4 = (1 : Int32) by decide), if_neg (show ¬ nI 4 = (2 : Int32) by decide), if_neg (show ¬ nI 4 = (3 : Int32) by decide), if_pos (show nI 4 = (4 : Int32) from rfl), s1, Option.bind_some]
    by_cases hz : xs (i + 1) = 0
    · have hr := hr0 hz
      subst hr
      rw [if_pos hz, lw_8, Option.bind_some]
      rw [show sh_LT_pair F 0 0 (pu_mk σ) = _ from e1, im_b2_s, Option.bind_some, if_pos hz, pm_i, Option.bind_some]
      rw [show sh_Model_pair F 248 0 (pu_mk τ) = _ from e2, im_b2_s, if_pos rfl, n4']
      exact ih (i + 4) ρ (by omega) (by omega) J
    · have hr := hr1 hz
      subst hr
      rw [if_neg hz, lw_8, Option.bind_some]
      rw [show sh_LT_pair F 0 1 (pu_mk σ) = _ from e1, im_b2_s, Option.bind_some, if_neg hz, pm_i, Option.bind_some]
      rw [show sh_Model_pair F 248 1 (pu_mk τ) = _ from e2, im_b2_s, if_pos rfl, n4']
      exact ih (i + 4) ρ (by omega) (by omega) J
  by_cases j5 : j = 5
  · subst j5
    rw [hj]
    obtain ⟨v, τ, ρ, e1, e2, J⟩ := jc_show (F := F) hF h (xs (i + 1)) (xs (i + 2))
    rw [if_neg (show ¬ nI 5 = (0 : Int32) by decide), if_neg (show ¬ nI 5 = (1 : Int32) by decide), if_neg (show ¬ nI 5 = (2 : Int32) by decide), if_neg (show ¬ nI 5 = (3 : Int32) by decide), if_neg (show ¬ nI 5 = (4 : Int32) by decide), if_pos (show nI 5 = (5 : Int32) from rfl), s1, Option.bind_some, s2, Option.bind_some, lw_8, Option.bind_some, e1, im_b2_s, Option.bind_some, Option.bind_some, pm_i, Option.bind_some, e2, im_b2_s, if_pos rfl, n4]
    exact ih (i + 4) ρ (by omega) (by omega) J
  by_cases j6 : j = 6
  · subst j6
    rw [hj]
    obtain ⟨v, τ, ρ, e1, e2, J⟩ := jc_shown (F := F) h (xs (i + 1))
    rw [if_neg (show ¬ nI 6 = (0 : Int32) by decide), if_neg (show ¬ nI 6 = (1 : Int32) by decide), if_neg (show ¬ nI 6 = (2 : Int32) by decide), if_neg (show ¬ nI 6 = (3 : Int32) by decide), if_neg (show ¬ nI 6 = (4 : Int32) by decide), if_neg (show ¬ nI 6 = (5 : Int32) by decide), if_pos (show nI 6 = (6 : Int32) from rfl), s1, Option.bind_some, lw_8, Option.bind_some, e1, im_b2_s, Option.bind_some, pm_i, Option.bind_some, e2, im_b2_s, if_pos rfl, n4]
    exact ih (i + 4) ρ (by omega) (by omega) J
  by_cases j7 : j = 7
  · subst j7
    rw [hj]
    obtain ⟨v, τ, ρ, e1, e2, J⟩ := jc_tags (F := F) h
    rw [if_neg (show ¬ nI 7 = (0 : Int32) by decide), if_neg (show ¬ nI 7 = (1 : Int32) by decide), if_neg (show ¬ nI 7 = (2 : Int32) by decide), if_neg (show ¬ nI 7 = (3 : Int32) by decide), if_neg (show ¬ nI 7 = (4 : Int32) by decide), if_neg (show ¬ nI 7 = (5 : Int32) by decide), if_neg (show ¬ nI 7 = (6 : Int32) by decide), if_pos (show nI 7 = (7 : Int32) from rfl), lw_8, Option.bind_some, e1, im_b2_s, pm_i, Option.bind_some, e2, im_b2_s, if_pos rfl, n4]
    exact ih (i + 4) ρ (by omega) (by omega) J
  by_cases j8 : j = 8
  · subst j8
    rw [hj]
    obtain ⟨v, τ, ρ, e1, e2, J⟩ := jc_support (F := F) hF h (xs (i + 1))
    rw [if_neg (show ¬ nI 8 = (0 : Int32) by decide), if_neg (show ¬ nI 8 = (1 : Int32) by decide), if_neg (show ¬ nI 8 = (2 : Int32) by decide), if_neg (show ¬ nI 8 = (3 : Int32) by decide), if_neg (show ¬ nI 8 = (4 : Int32) by decide), if_neg (show ¬ nI 8 = (5 : Int32) by decide), if_neg (show ¬ nI 8 = (6 : Int32) by decide), if_neg (show ¬ nI 8 = (7 : Int32) by decide), if_pos (show nI 8 = (8 : Int32) from rfl), s1, Option.bind_some, lw_8, Option.bind_some, e1, im_b2_s, Option.bind_some, pm_i, Option.bind_some, e2, im_b2_s, if_pos rfl, n4]
    exact ih (i + 4) ρ (by omega) (by omega) J
  by_cases j9 : j = 9
  · subst j9
    rw [hj]
    obtain ⟨v, τ, ρ, e1, e2, J⟩ := jc_fits (F := F) hF h (xs (i + 1)) (xs (i + 2))
    rw [if_neg (show ¬ nI 9 = (0 : Int32) by decide), if_neg (show ¬ nI 9 = (1 : Int32) by decide), if_neg (show ¬ nI 9 = (2 : Int32) by decide), if_neg (show ¬ nI 9 = (3 : Int32) by decide), if_neg (show ¬ nI 9 = (4 : Int32) by decide), if_neg (show ¬ nI 9 = (5 : Int32) by decide), if_neg (show ¬ nI 9 = (6 : Int32) by decide), if_neg (show ¬ nI 9 = (7 : Int32) by decide), if_neg (show ¬ nI 9 = (8 : Int32) by decide), if_pos (show nI 9 = (9 : Int32) from rfl), s1, Option.bind_some, s2, Option.bind_some, lw_8, Option.bind_some, e1, im_b2_s, Option.bind_some, Option.bind_some, pm_i, Option.bind_some, e2, im_b2_s, if_pos rfl, n4]
    exact ih (i + 4) ρ (by omega) (by omega) J
  by_cases j10 : j = 10
  · subst j10
    rw [hj]
    obtain ⟨v, τ, ρ, e1, e2, J⟩ := jc_lookup (F := F) hF h (xs (i + 1))
    rw [if_neg (show ¬ nI 10 = (0 : Int32) by decide), if_neg (show ¬ nI 10 = (1 : Int32) by decide), if_neg (show ¬ nI 10 = (2 : Int32) by decide), if_neg (show ¬ nI 10 = (3 : Int32) by decide), if_neg (show ¬ nI 10 = (4 : Int32) by decide), if_neg (show ¬ nI 10 = (5 : Int32) by decide), if_neg (show ¬ nI 10 = (6 : Int32) by decide), if_neg (show ¬ nI 10 = (7 : Int32) by decide), if_neg (show ¬ nI 10 = (8 : Int32) by decide), if_neg (show ¬ nI 10 = (9 : Int32) by decide), if_pos (show nI 10 = (10 : Int32) from rfl), s1, Option.bind_some, lw_8, Option.bind_some, e1, im_b2_s, Option.bind_some, pm_i, Option.bind_some, e2, im_b2_s, if_pos rfl, n4]
    exact ih (i + 4) ρ (by omega) (by omega) J
  by_cases j11 : j = 11
  · subst j11
    rw [hj]
    obtain ⟨v, τ, ρ, e1, e2, J⟩ := jc_distance (F := F) hF h (xs (i + 1)) (xs (i + 2))
    rw [if_neg (show ¬ nI 11 = (0 : Int32) by decide), if_neg (show ¬ nI 11 = (1 : Int32) by decide), if_neg (show ¬ nI 11 = (2 : Int32) by decide), if_neg (show ¬ nI 11 = (3 : Int32) by decide), if_neg (show ¬ nI 11 = (4 : Int32) by decide), if_neg (show ¬ nI 11 = (5 : Int32) by decide), if_neg (show ¬ nI 11 = (6 : Int32) by decide), if_neg (show ¬ nI 11 = (7 : Int32) by decide), if_neg (show ¬ nI 11 = (8 : Int32) by decide), if_neg (show ¬ nI 11 = (9 : Int32) by decide), if_neg (show ¬ nI 11 = (10 : Int32) by decide), if_pos (show nI 11 = (11 : Int32) from rfl), s1, Option.bind_some, s2, Option.bind_some, lw_8, Option.bind_some, e1, im_b2_s, Option.bind_some, Option.bind_some, pm_i, Option.bind_some, e2, im_b2_s, if_pos rfl, n4]
    exact ih (i + 4) ρ (by omega) (by omega) J
  by_cases j12 : j = 12
  · subst j12
    rw [hj]
    obtain ⟨v, τ, ρ, e1, e2, J⟩ := jc_best (F := F) hF h (xs (i + 1))
    rw [if_neg (show ¬ nI 12 = (0 : Int32) by decide), if_neg (show ¬ nI 12 = (1 : Int32) by decide), if_neg (show ¬ nI 12 = (2 : Int32) by decide), if_neg (show ¬ nI 12 = (3 : Int32) by decide), if_neg (show ¬ nI 12 = (4 : Int32) by decide), if_neg (show ¬ nI 12 = (5 : Int32) by decide), if_neg (show ¬ nI 12 = (6 : Int32) by decide), if_neg (show ¬ nI 12 = (7 : Int32) by decide), if_neg (show ¬ nI 12 = (8 : Int32) by decide), if_neg (show ¬ nI 12 = (9 : Int32) by decide), if_neg (show ¬ nI 12 = (10 : Int32) by decide), if_neg (show ¬ nI 12 = (11 : Int32) by decide), if_pos (show nI 12 = (12 : Int32) from rfl), s1, Option.bind_some, lw_8, Option.bind_some, e1, im_b2_s, Option.bind_some, pm_i, Option.bind_some, e2, im_b2_s, if_pos rfl, n4]
    exact ih (i + 4) ρ (by omega) (by omega) J
  by_cases j13 : j = 13
  · subst j13
    rw [hj]
    obtain ⟨v, τ, ρ, e1, e2, J⟩ := jc_put (F := F) h (xs (i + 1)) (xs (i + 2)) (xs (i + 3))
    rw [if_neg (show ¬ nI 13 = (0 : Int32) by decide), if_neg (show ¬ nI 13 = (1 : Int32) by decide), if_neg (show ¬ nI 13 = (2 : Int32) by decide), if_neg (show ¬ nI 13 = (3 : Int32) by decide), if_neg (show ¬ nI 13 = (4 : Int32) by decide), if_neg (show ¬ nI 13 = (5 : Int32) by decide), if_neg (show ¬ nI 13 = (6 : Int32) by decide), if_neg (show ¬ nI 13 = (7 : Int32) by decide), if_neg (show ¬ nI 13 = (8 : Int32) by decide), if_neg (show ¬ nI 13 = (9 : Int32) by decide), if_neg (show ¬ nI 13 = (10 : Int32) by decide), if_neg (show ¬ nI 13 = (11 : Int32) by decide), if_neg (show ¬ nI 13 = (12 : Int32) by decide), if_pos (show nI 13 = (13 : Int32) from rfl), s1, Option.bind_some, s2, Option.bind_some, s3, Option.bind_some, lw_8, Option.bind_some, e1, im_b2_s, Option.bind_some, Option.bind_some, Option.bind_some, pm_i, Option.bind_some, e2, im_b2_s, if_pos rfl, n4]
    exact ih (i + 4) ρ (by omega) (by omega) J
  by_cases j14 : j = 14
  · subst j14
    rw [hj]
    obtain ⟨v, τ, ρ, e1, e2, J⟩ := jc_get (F := F) hF h (xs (i + 1)) (xs (i + 2))
    rw [if_neg (show ¬ nI 14 = (0 : Int32) by decide), if_neg (show ¬ nI 14 = (1 : Int32) by decide), if_neg (show ¬ nI 14 = (2 : Int32) by decide), if_neg (show ¬ nI 14 = (3 : Int32) by decide), if_neg (show ¬ nI 14 = (4 : Int32) by decide), if_neg (show ¬ nI 14 = (5 : Int32) by decide), if_neg (show ¬ nI 14 = (6 : Int32) by decide), if_neg (show ¬ nI 14 = (7 : Int32) by decide), if_neg (show ¬ nI 14 = (8 : Int32) by decide), if_neg (show ¬ nI 14 = (9 : Int32) by decide), if_neg (show ¬ nI 14 = (10 : Int32) by decide), if_neg (show ¬ nI 14 = (11 : Int32) by decide), if_neg (show ¬ nI 14 = (12 : Int32) by decide), if_neg (show ¬ nI 14 = (13 : Int32) by decide), if_pos (show nI 14 = (14 : Int32) from rfl), s1, Option.bind_some, s2, Option.bind_some, lw_8, Option.bind_some, e1, im_b2_s, Option.bind_some, Option.bind_some, pm_i, Option.bind_some, e2, im_b2_s, if_pos rfl, n4]
    exact ih (i + 4) ρ (by omega) (by omega) J
  by_cases j15 : j = 15
  · subst j15
    rw [hj]
    obtain ⟨v, τ, ρ, e1, e2, J⟩ := jc_found (F := F) h
    rw [if_neg (show ¬ nI 15 = (0 : Int32) by decide), if_neg (show ¬ nI 15 = (1 : Int32) by decide), if_neg (show ¬ nI 15 = (2 : Int32) by decide), if_neg (show ¬ nI 15 = (3 : Int32) by decide), if_neg (show ¬ nI 15 = (4 : Int32) by decide), if_neg (show ¬ nI 15 = (5 : Int32) by decide), if_neg (show ¬ nI 15 = (6 : Int32) by decide), if_neg (show ¬ nI 15 = (7 : Int32) by decide), if_neg (show ¬ nI 15 = (8 : Int32) by decide), if_neg (show ¬ nI 15 = (9 : Int32) by decide), if_neg (show ¬ nI 15 = (10 : Int32) by decide), if_neg (show ¬ nI 15 = (11 : Int32) by decide), if_neg (show ¬ nI 15 = (12 : Int32) by decide), if_neg (show ¬ nI 15 = (13 : Int32) by decide), if_neg (show ¬ nI 15 = (14 : Int32) by decide), if_pos (show nI 15 = (15 : Int32) from rfl), lw_8, Option.bind_some, e1, im_b2_s, pm_i, Option.bind_some, e2, im_b2_s, if_pos rfl, n4]
    exact ih (i + 4) ρ (by omega) (by omega) J
  omega
theorem pure_law (L : Nat) (xs : Nat → Int32) (hL : L ≤ 2048) : ∃ F, sh_Law F L xs = some () := by
  refine ⟨1000, ?_⟩
  rw [pw_law]
  have := lw_loop (F := 1000) (L := L) (by decide) hL xs 1000 0 pu_z (by omega) (by omega) jj_z
  rw [nI_0] at this
  exact this
