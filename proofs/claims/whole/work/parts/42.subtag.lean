/-! subtags: lists of characters, and the longs that hold them -/
def pb_e : Nat → List Nat → Nat
  | 0, _ => 0
  | _ + 1, [] => 0
  | k + 1, c :: l => c * 256 ^ k + pb_e k l
/-- the long of a subtag -/
def pb_l (s : List Nat) : Int64 := Int64.ofNat (pb_e 8 s)
def pb_ok (s : List Nat) : Prop := s.length ≤ 8 ∧ ∀ c ∈ s, 1 ≤ c ∧ c < 128
theorem pb_nil (k : Nat) : pb_e k [] = 0 := by cases k <;> rfl
theorem pb_lt {k : Nat} : ∀ {s : List Nat}, (∀ c ∈ s, c < 256) → pb_e k s < 256 ^ k := by
  induction k with
  | zero => intro s _; simp [pb_e]
  | succ k ih =>
    intro s h
    cases s with
    | nil => simp [pb_e, Nat.pow_pos]
    | cons c l =>
      have h1 := ih (s := l) (fun c hc => h c (List.mem_cons_of_mem _ hc))
      have h2 := h c List.mem_cons_self
      simp only [pb_e]
      have h3 : c * 256 ^ k ≤ 255 * 256 ^ k := Nat.mul_le_mul_right _ (by omega)
      have h4 : 256 ^ (k + 1) = 256 * 256 ^ k := by rw [Nat.pow_succ, Nat.mul_comm]
      omega
theorem pb_lt63 {s : List Nat} (h : ∀ c ∈ s, c < 128) : pb_e 8 s < 2 ^ 63 := by
  cases s with
  | nil => simp [pb_e]
  | cons c l =>
    have h1 := pb_lt (k := 7) (s := l) (fun c hc => by have := h c (List.mem_cons_of_mem _ hc); omega)
    have h2 := h c List.mem_cons_self
    simp only [pb_e]
    have h3 : c * 256 ^ 7 ≤ 127 * 256 ^ 7 := Nat.mul_le_mul_right _ (by omega)
    omega
theorem pb_byte {k : Nat} : ∀ {s : List Nat} {i : Nat}, (∀ c ∈ s, c < 256) → i < k → pb_e k s / 256 ^ (k - 1 - i) % 256 = s.getD i 0 := by
  induction k with
  | zero => intro s i _ h; omega
  | succ k ih =>
    intro s i h hi
    cases s with
    | nil => simp [pb_e]
    | cons c l =>
      have hl : ∀ c ∈ l, c < 256 := fun c hc => h c (List.mem_cons_of_mem _ hc)
      have h1 := pb_lt (k := k) hl
      have h2 := h c List.mem_cons_self
      simp only [pb_e]
      cases i with
      | zero =>
        have e : k + 1 - 1 - 0 = k := by omega
        rw [e, Nat.mul_comm, Nat.mul_add_div (Nat.pow_pos (by decide)), Nat.div_eq_of_lt h1]
        simp
        omega
      | succ i =>
        have e : k + 1 - 1 - (i + 1) = k - 1 - i := by omega
        have e2 : 256 ^ k = 256 ^ (k - 1 - i) * (256 * 256 ^ i) := by
          rw [← Nat.pow_succ', ← Nat.pow_add]
          congr 1
          omega
        rw [e, e2, show c * (256 ^ (k - 1 - i) * (256 * 256 ^ i)) = 256 ^ (k - 1 - i) * (256 * (256 ^ i * c)) by simp [Nat.mul_comm, Nat.mul_left_comm, Nat.mul_assoc], Nat.mul_add_div (Nat.pow_pos (by decide)), Nat.mul_add_mod, ih hl (by omega)]
        simp
theorem pb_inj {k : Nat} : ∀ {s t : List Nat}, s.length ≤ k → t.length ≤ k → (∀ c ∈ s, 1 ≤ c ∧ c < 256) → (∀ c ∈ t, 1 ≤ c ∧ c < 256) → pb_e k s = pb_e k t → s = t := by
  intro s t h1 h2 hs ht h
  refine List.ext_getElem? fun i => ?_
  by_cases hi : i < k
  · have a := pb_byte (k := k) (s := s) (i := i) (fun c hc => (hs c hc).2) hi
    have b := pb_byte (k := k) (s := t) (i := i) (fun c hc => (ht c hc).2) hi
    rw [h] at a
    have e : s.getD i 0 = t.getD i 0 := a.symm.trans b
    rw [List.getD_eq_getElem?_getD, List.getD_eq_getElem?_getD] at e
    cases hx : s[i]? with
    | none =>
      cases hy : t[i]? with
      | none => rfl
      | some y =>
        have := (ht y (List.mem_of_getElem? hy)).1
        simp [hx, hy] at e
        omega
    | some x =>
      have := (hs x (List.mem_of_getElem? hx)).1
      cases hy : t[i]? with
      | none =>
        simp [hx, hy] at e
        omega
      | some y =>
        simp [hx, hy] at e
        rw [e]
  · rw [List.getElem?_eq_none (by omega), List.getElem?_eq_none (by omega)]
theorem pb_l_inj {s t : List Nat} (hs : pb_ok s) (ht : pb_ok t) : pb_l s = pb_l t ↔ s = t := by
  constructor
  · intro h
    have a := pb_lt63 (fun c hc => (hs.2 c hc).2)
    have b := pb_lt63 (fun c hc => (ht.2 c hc).2)
    have h2 := (pn_eq64 (by omega) (by omega)).mp h
    exact pb_inj hs.1 ht.1 (fun c hc => ⟨(hs.2 c hc).1, by have := (hs.2 c hc).2; omega⟩) (fun c hc => ⟨(ht.2 c hc).1, by have := (ht.2 c hc).2; omega⟩) h2
  · rintro rfl
    rfl
/-- a boolean as an int -/
def pb_b (b : Bool) : Int32 := if b then 1 else 0
theorem pb_b0 (b : Bool) : (pb_b b = 0) ↔ b = false := by cases b <;> simp [pb_b]
theorem pb_rz (b : Bool) (w : im_W) : im_rz (pb_b b) w = some (pb_b b, w) := by cases b <;> simp [im_rz, pb_b]
theorem pb_rz0 (w : im_W) : im_rz 0 w = some (0, w) := by simp [im_rz]
theorem pb_rz1 (w : im_W) : im_rz 1 w = some (1, w) := by simp [im_rz]
theorem pb_rc {k : Nat} (h : k < 65536) (w : im_W) : im_rc (nI k) w = some (nI k, w) := by simp [im_rc, pn_char h]
def pb_isL (c : Nat) : Bool := (97 ≤ c && c ≤ 122) || (65 ≤ c && c ≤ 90)
def pb_isD (c : Nat) : Bool := 48 ≤ c && c ≤ 57
def pb_isC (c : Nat) : Bool := c == 45 || c == 95
theorem pb_lit (k : Nat) : (OfNat.ofNat k : Int32) = nI k := rfl
theorem pb_ltn {a b : Nat} (ha : a < 65536) (hb : b < 65536) : nI a < nI b ↔ a < b := nI_ltI (by omega) (by omega)
theorem pb_len {a b : Nat} (ha : a < 65536) (hb : b < 65536) : nI a ≤ nI b ↔ a ≤ b := nI_leI (by omega) (by omega)
theorem pb_eqn {a b : Nat} (ha : a < 65536) (hb : b < 65536) : nI a = nI b ↔ a = b := nI_eq (by omega) (by omega)
theorem pb_isLetter {F c : Nat} (h : c < 65536) (w : im_W) : sh_Subtag_isLetter F (nI c) w = some (pb_b (pb_isL c), w) := by
  simp only [sh_Subtag_isLetter, sh_Subtag_isLetter_12, sh_Subtag_isLetter_24, sh_Subtag_isLetter_28, sh_Subtag_isLetter_29, pb_rz0, pb_rz1, show (65 : Int32) = nI 65 from rfl, show (90 : Int32) = nI 90 from rfl, show (97 : Int32) = nI 97 from rfl, show (122 : Int32) = nI 122 from rfl, pb_ltn h (show 65 < 65536 by decide), pb_ltn h (show 97 < 65536 by decide), pb_ltn (show 90 < 65536 by decide) h, pb_len h (show 122 < 65536 by decide)]
  by_cases h1 : c < 97
  · by_cases h2 : c < 65
    · have : pb_isL c = false := by simp [pb_isL]; omega
      simp [h1, h2, this, pb_b]
    · by_cases h3 : 90 < c
      · have : pb_isL c = false := by simp [pb_isL]; omega
        simp [h1, h2, h3, this, pb_b]
      · have : pb_isL c = true := by simp [pb_isL]; omega
        simp [h1, h2, h3, this, pb_b]
  · by_cases h4 : c ≤ 122
    · have : pb_isL c = true := by simp [pb_isL]; omega
      simp [h1, h4, this, pb_b]
    · have : pb_isL c = false := by simp [pb_isL]; omega
      have h2 : ¬ c < 65 := by omega
      have h3 : 90 < c := by omega
      simp [h1, h4, h2, h3, this, pb_b]
theorem pb_isDigit {F c : Nat} (h : c < 65536) (w : im_W) : sh_Subtag_isDigit F (nI c) w = some (pb_b (pb_isD c), w) := by
  simp only [sh_Subtag_isDigit, sh_Subtag_isDigit_16, sh_Subtag_isDigit_17, pb_rz0, pb_rz1, show (48 : Int32) = nI 48 from rfl, show (57 : Int32) = nI 57 from rfl, pb_ltn h (show 48 < 65536 by decide), pb_ltn (show 57 < 65536 by decide) h]
  by_cases h1 : c < 48
  · have : pb_isD c = false := by simp [pb_isD]; omega
    simp [h1, this, pb_b]
  · by_cases h2 : 57 < c
    · have : pb_isD c = false := by simp [pb_isD]; omega
      simp [h1, h2, this, pb_b]
    · have : pb_isD c = true := by simp [pb_isD]; omega
      simp [h1, h2, this, pb_b]
theorem pb_isCut {F c : Nat} (h : c < 65536) (w : im_W) : sh_Subtag_isCut F (nI c) w = some (pb_b (pb_isC c), w) := by
  simp only [sh_Subtag_isCut, sh_Subtag_isCut_12, sh_Subtag_isCut_17, pb_rz0, pb_rz1, show (45 : Int32) = nI 45 from rfl, show (95 : Int32) = nI 95 from rfl, pb_eqn h (show 45 < 65536 by decide), pb_eqn h (show 95 < 65536 by decide)]
  by_cases h1 : c = 45
  · simp [h1, pb_isC, pb_b]
  · by_cases h2 : c = 95
    · simp [h2, pb_isC, pb_b]
    · simp [h1, h2, pb_isC, pb_b]
theorem pn_mul (a b : Nat) : nI a * nI b = nI (a * b) := (Int32.ofNat_mul a b).symm
theorem pn_sub {a b : Nat} (h : b ≤ a) : nI a - nI b = nI (a - b) := by
  have h1 : nI (a - b) + nI b = nI a := by rw [nI_add]; congr 1; omega
  rw [← h1]
  simp
theorem pb_atN {F N i : Nat} (hN : N < 2 ^ 63) (hi : i < 8) (w : im_W) : sh_Subtag_at F (Int64.ofNat N) (nI i) w = some (nI (N / 256 ^ (7 - i) % 256), w) := by
  have h1 : ¬ nI i < 0 := nI_pos (by omega)
  have h2 : nI i < (8 : Int32) := (pb_ltn (by omega) (by decide)).mpr hi
  have e : (56 : Int32) - (8 : Int32) * nI i = nI (56 - 8 * i) := by
    rw [show (8 : Int32) = nI 8 from rfl, pn_mul, show (56 : Int32) = nI 56 from rfl, pn_sub (by omega)]
  have e2 : 256 ^ (7 - i) = 2 ^ (56 - 8 * i) := by
    rw [show 256 = 2 ^ 8 from rfl, ← Nat.pow_mul]
    congr 1
    omega
  have h3 : N / 2 ^ (56 - 8 * i) % 256 < 256 := Nat.mod_lt _ (by decide)
  simp only [sh_Subtag_at, sh_Subtag_at_29, h1, h2, if_true, if_false, e, pn_ushr (show N < 2 ^ 64 by omega) (show 56 - 8 * i < 64 by omega)]
  rw [show (255 : Int64) = Int64.ofNat 255 from rfl, pn_and, pn_i32, show (255 : Nat) = 2 ^ 8 - 1 from rfl, Nat.and_two_pow_sub_one_eq_mod, e2]
  exact (congrArg (fun x => im_rc x w) (pn_i2c (by omega))).trans (pb_rc (by omega) w)
theorem pb_at {F i : Nat} {s : List Nat} (hs : pb_ok s) (hi : i < 8) (w : im_W) : sh_Subtag_at F (pb_l s) (nI i) w = some (nI (s.getD i 0), w) := by
  have h1 := pb_byte (k := 8) (s := s) (i := i) (fun c hc => by have := (hs.2 c hc).2; omega) hi
  rw [pb_l, pb_atN (pb_lt63 (fun c hc => (hs.2 c hc).2)) hi, ← h1]
