/-! numbers: longs and ints out of naturals -/
theorem pn_and (a b : Nat) : Int64.ofNat a &&& Int64.ofNat b = Int64.ofNat (a &&& b) := by
  apply Int64.toBitVec_inj.mp
  simp
theorem pn_or (a b : Nat) : Int64.ofNat a ||| Int64.ofNat b = Int64.ofNat (a ||| b) := by
  apply Int64.toBitVec_inj.mp
  simp
theorem pn_i32 (a : Nat) : (Int64.ofNat a).toInt32 = Int32.ofNat a := by
  simp
theorem pn_i64 {a : Nat} (h : a < 2 ^ 31) : (Int32.ofNat a).toInt64 = Int64.ofNat a := nI_l h
theorem pn_u (a : Nat) : (Int64.ofNat a).toUInt64 = UInt64.ofNat a := by
  simp
theorem pn_63 (s : Nat) (h : s < 64) : (Int64.ofNat s).toUInt64 &&& Int64.toUInt64 63 = UInt64.ofNat s := by
  apply UInt64.toNat_inj.mp
  rw [pn_u, UInt64.toNat_and]
  have e : (Int64.toUInt64 63).toNat = 2 ^ 6 - 1 := by decide
  rw [e, Nat.and_two_pow_sub_one_eq_mod]
  simp
  omega
theorem pn_ushr {N s : Nat} (hN : N < 2 ^ 64) (h : s < 64) : im_lushr (Int64.ofNat N) (nI s) = Int64.ofNat (N / 2 ^ s) := by
  unfold im_lushr
  rw [show (nI s).toInt64 = Int64.ofNat s from nI_l (by omega), pn_63 s h, pn_u]
  apply Int64.toBitVec_inj.mp
  apply BitVec.eq_of_toNat_eq
  have h1 : N / 2 ^ s ≤ N := Nat.div_le_self _ _
  simp [Nat.shiftRight_eq_div_pow]
  rw [Nat.mod_eq_of_lt (show N < 18446744073709551616 by omega), Nat.mod_eq_of_lt h, Nat.mod_eq_of_lt (show N / 2 ^ s < 18446744073709551616 by omega)]
theorem pn_smod : ∀ s, s < 64 → ((BitVec.ofNat 64 s).smod 64#64).toNat = s := by decide +kernel
theorem pn_shl {N s : Nat} (h : s < 64) : im_lshl (Int64.ofNat N) (nI s) = Int64.ofNat (N * 2 ^ s) := by
  unfold im_lshl
  rw [show (nI s).toInt64 = Int64.ofNat s from nI_l (by omega)]
  have e : Int64.ofNat s &&& 63 = Int64.ofNat s := by
    have := pn_and s 63
    rw [show (63 : Int64) = Int64.ofNat 63 from rfl, this, show (63 : Nat) = 2 ^ 6 - 1 from rfl, Nat.and_two_pow_sub_one_eq_mod]
    congr 1
    omega
  rw [e]
  apply Int64.toBitVec_inj.mp
  apply BitVec.eq_of_toNat_eq
  simp [Nat.shiftLeft_eq, pn_smod s h]
theorem pn_i2c {k : Nat} (h : k < 65536) : im_i2c (nI k) = nI k := by
  unfold im_i2c nI
  apply Int32.toBitVec_inj.mp
  apply BitVec.eq_of_toNat_eq
  simp
  omega
theorem pn_char {k : Nat} (h : k < 65536) : narrow .char (.int (nI k)) = .int (nI k) := by
  have h1 := pn_i2c h
  unfold im_i2c at h1
  simp [narrow, h1]
theorem pn_lt64 {a b : Nat} (ha : a < 2 ^ 63) (hb : b < 2 ^ 63) : Int64.ofNat a < Int64.ofNat b ↔ a < b := by
  rw [Int64.lt_iff_toInt_lt, Int64.toInt_ofNat_of_lt ha, Int64.toInt_ofNat_of_lt hb]
  omega
theorem pn_eq64 {a b : Nat} (ha : a < 2 ^ 64) (hb : b < 2 ^ 64) : Int64.ofNat a = Int64.ofNat b ↔ a = b := by
  constructor
  · intro h
    have h2 := congrArg (fun x => x.toUInt64.toNat) h
    simp at h2
    omega
  · rintro rfl
    rfl
