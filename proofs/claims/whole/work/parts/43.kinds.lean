/-! what can be asked of a subtag -/
theorem pb_n0 {k : Nat} (h : k < 65536) : nI k = 0 ↔ k = 0 := by
  rw [← nI_0]
  exact pb_eqn h (by decide)
theorem pb_get {s : List Nat} (hs : pb_ok s) (i : Nat) : s.getD i 0 < 128 ∧ (s.getD i 0 = 0 ↔ s.length ≤ i) := by
  rw [List.getD_eq_getElem?_getD]
  by_cases hi : i < s.length
  · have h1 := hs.2 s[i] (List.getElem_mem hi)
    simp [hi]
    omega
  · simp [hi]
    omega
theorem pb_lengthOf_4 {F : Nat} {s : List Nat} (hs : pb_ok s) (w : im_W) : ∀ (f i cnt : Nat), 9 ≤ f + i → i ≤ 8 → sh_Subtag_lengthOf_4 F f (pb_l s) (nI cnt) (nI i) w = some (nI (cnt + (s.length - i)), w) := by
  intro f
  induction f with
  | zero => intro i cnt h1 h2; omega
  | succ f ih =>
    intro i cnt h1 h2
    have hl := hs.1
    unfold sh_Subtag_lengthOf_4
    by_cases h : 8 ≤ i
    · have h4 : (8 : Int32) ≤ nI i := (pb_len (by decide) (by omega)).mpr h
      simp only [h4, if_true]
      congr 3
      omega
    · have h4 : ¬ (8 : Int32) ≤ nI i := fun q => h ((pb_len (by decide) (by omega)).mp q)
      have hg := pb_get hs i
      have hz := pb_n0 (show s.getD i 0 < 65536 by omega)
      simp only [h4, if_false, pb_at hs (show i < 8 by omega), im_b2, sh_Subtag_lengthOf_21, nI_1, hz, hg.2]
      by_cases h5 : s.length ≤ i
      · simp only [h5, if_true]
        rw [ih (i + 1) cnt (by omega) (by omega)]
        congr 3
        omega
      · simp only [h5, if_false]
        rw [ih (i + 1) (cnt + 1) (by omega) (by omega)]
        congr 3
        omega
theorem pb_lengthOf {F : Nat} (hF : 9 ≤ F) {s : List Nat} (hs : pb_ok s) (w : im_W) : sh_Subtag_lengthOf F (pb_l s) w = some (nI s.length, w) := by
  unfold sh_Subtag_lengthOf
  have h := pb_lengthOf_4 (F := F) hs w F 0 0 (by omega) (by omega)
  simpa [nI_0] using h
theorem pb_drop {s : List Nat} {i : Nat} (h : i < s.length) : s.drop i = s.getD i 0 :: s.drop (i + 1) := by
  rw [List.drop_eq_getElem_cons h]
  simp [h]
theorem pb_letters_4 {F : Nat} {s : List Nat} (hs : pb_ok s) (w : im_W) : ∀ (f i cnt : Nat), 9 ≤ f + i → i ≤ 8 → sh_Subtag_letters_4 F f (pb_l s) (nI cnt) (nI i) w = some (nI (cnt + (s.drop i).countP pb_isL), w) := by
  intro f
  induction f with
  | zero => intro i cnt h1 h2; omega
  | succ f ih =>
    intro i cnt h1 h2
    have hl := hs.1
    unfold sh_Subtag_letters_4
    by_cases h : 8 ≤ i
    · have h4 : (8 : Int32) ≤ nI i := (pb_len (by decide) (by omega)).mpr h
      have h5 : s.drop i = [] := List.drop_eq_nil_of_le (by omega)
      simp [h4, h5]
    · have h4 : ¬ (8 : Int32) ≤ nI i := fun q => h ((pb_len (by decide) (by omega)).mp q)
      have hg := pb_get hs i
      simp only [h4, if_false, pb_at hs (show i < 8 by omega), im_b2, pb_isLetter (show s.getD i 0 < 65536 by omega), sh_Subtag_letters_24, nI_1, pb_b0]
      by_cases h5 : s.length ≤ i
      · have e1 : s.getD i 0 = 0 := hg.2.mpr h5
        have e2 : pb_isL 0 = false := by decide
        simp only [e1, e2, if_true]
        rw [ih (i + 1) cnt (by omega) (by omega), List.drop_eq_nil_of_le h5, List.drop_eq_nil_of_le (by omega)]
      · rw [pb_drop (show i < s.length by omega), List.countP_cons]
        by_cases h6 : pb_isL (s.getD i 0) = true
        · simp only [h6, if_true, Bool.true_eq_false, if_false]
          rw [ih (i + 1) (cnt + 1) (by omega) (by omega)]
          congr 3
          omega
        · have h6 : pb_isL (s.getD i 0) = false := by simpa using h6
          simp only [h6, if_true, Bool.false_eq_true, if_false]
          rw [ih (i + 1) cnt (by omega) (by omega)]
          rfl
theorem pb_letters {F : Nat} (hF : 9 ≤ F) {s : List Nat} (hs : pb_ok s) (w : im_W) : sh_Subtag_letters F (pb_l s) w = some (nI (s.countP pb_isL), w) := by
  unfold sh_Subtag_letters
  have h := pb_letters_4 (F := F) hs w F 0 0 (by omega) (by omega)
  simpa [nI_0] using h
def pb_lang (s : List Nat) : Bool := (s.length == 2 || s.length == 3) && s.countP pb_isL == s.length
def pb_script (s : List Nat) : Bool := s.length == 4 && s.countP pb_isL == 4
def pb_region (s : List Nat) : Bool := (s.length == 2 && s.countP pb_isL == 2) || (s.length == 3 && s.countP pb_isL == 0)
def pb_variant (s : List Nat) : Bool := 5 ≤ s.length || (s.length == 4 && pb_isD (s.getD 0 0))
def pb_key (s : List Nat) : Bool := s.length == 2 && pb_isL (s.getD 1 0)
def pb_type (s : List Nat) : Bool := 3 ≤ s.length
theorem pb_cn (s : List Nat) (hs : pb_ok s) : s.countP pb_isL < 65536 ∧ s.length < 65536 := by
  have h1 := hs.1
  have h2 : s.countP pb_isL ≤ s.length := List.countP_le_length
  omega
theorem pb_isLanguage {F : Nat} (hF : 9 ≤ F) {s : List Nat} (hs : pb_ok s) (w : im_W) : sh_Subtag_isLanguage F (pb_l s) w = some (pb_b (pb_lang s), w) := by
  obtain ⟨h1, h2⟩ := pb_cn s hs
  simp only [sh_Subtag_isLanguage, sh_Subtag_isLanguage_15, sh_Subtag_isLanguage_27, sh_Subtag_isLanguage_28, pb_lengthOf hF hs, pb_letters hF hs, im_b2, pb_rz0, pb_rz1, show (2 : Int32) = nI 2 from rfl, show (3 : Int32) = nI 3 from rfl, pb_eqn h2 (show 2 < 65536 by decide), pb_eqn h2 (show 3 < 65536 by decide), pb_eqn h1 h2]
  by_cases a : s.length = 2 <;> by_cases b : s.length = 3 <;> by_cases c : s.countP pb_isL = s.length <;> simp_all [pb_lang, pb_b]
theorem pb_isScript {F : Nat} (hF : 9 ≤ F) {s : List Nat} (hs : pb_ok s) (w : im_W) : sh_Subtag_isScript F (pb_l s) w = some (pb_b (pb_script s), w) := by
  obtain ⟨h1, h2⟩ := pb_cn s hs
  simp only [sh_Subtag_isScript, sh_Subtag_isScript_20, sh_Subtag_isScript_21, pb_lengthOf hF hs, pb_letters hF hs, im_b2, pb_rz0, pb_rz1, show (4 : Int32) = nI 4 from rfl, pb_eqn h2 (show 4 < 65536 by decide), pb_eqn h1 (show 4 < 65536 by decide)]
  by_cases a : s.length = 4 <;> by_cases c : s.countP pb_isL = 4 <;> simp_all [pb_script, pb_b]
theorem pb_isRegion {F : Nat} (hF : 9 ≤ F) {s : List Nat} (hs : pb_ok s) (w : im_W) : sh_Subtag_isRegion F (pb_l s) w = some (pb_b (pb_region s), w) := by
  obtain ⟨h1, h2⟩ := pb_cn s hs
  simp only [sh_Subtag_isRegion, sh_Subtag_isRegion_18, sh_Subtag_isRegion_30, sh_Subtag_isRegion_34, sh_Subtag_isRegion_35, pb_lengthOf hF hs, pb_letters hF hs, im_b2, pb_rz0, pb_rz1, show (2 : Int32) = nI 2 from rfl, show (3 : Int32) = nI 3 from rfl, pb_eqn h2 (show 2 < 65536 by decide), pb_eqn h2 (show 3 < 65536 by decide), pb_eqn h1 (show 2 < 65536 by decide), pb_n0 h1]
  by_cases a : s.length = 2 <;> by_cases b : s.length = 3 <;> by_cases c : s.countP pb_isL = 2 <;> by_cases d : s.countP pb_isL = 0 <;> simp_all [pb_region, pb_b] <;> (split <;> rfl)
theorem pb_isVariant {F : Nat} (hF : 9 ≤ F) {s : List Nat} (hs : pb_ok s) (w : im_W) : sh_Subtag_isVariant F (pb_l s) w = some (pb_b (pb_variant s), w) := by
  obtain ⟨h1, h2⟩ := pb_cn s hs
  have hg := pb_get hs 0
  have e0 : sh_Subtag_at F (pb_l s) 0 w = some (nI (s.getD 0 0), w) := pb_at (F := F) hs (show 0 < 8 by decide) w
  simp only [sh_Subtag_isVariant, sh_Subtag_isVariant_26, sh_Subtag_isVariant_30, sh_Subtag_isVariant_31, pb_lengthOf hF hs, e0, pb_isDigit (show s.getD 0 0 < 65536 by omega), im_b2, pb_rz0, pb_rz1, show (4 : Int32) = nI 4 from rfl, show (5 : Int32) = nI 5 from rfl, pb_eqn h2 (show 4 < 65536 by decide), pb_len (show 5 < 65536 by decide) h2, pb_b0]
  by_cases a : 5 ≤ s.length <;> by_cases b : s.length = 4 <;> by_cases c : pb_isD (s.getD 0 0) = true <;> simp_all [pb_variant, pb_b] <;> (split <;> rfl)
theorem pb_isKey {F : Nat} (hF : 9 ≤ F) {s : List Nat} (hs : pb_ok s) (w : im_W) : sh_Subtag_isKey F (pb_l s) w = some (pb_b (pb_key s), w) := by
  obtain ⟨h1, h2⟩ := pb_cn s hs
  have hg := pb_get hs 1
  have e0 : sh_Subtag_at F (pb_l s) 1 w = some (nI (s.getD 1 0), w) := pb_at (F := F) hs (show 1 < 8 by decide) w
  simp only [sh_Subtag_isKey, sh_Subtag_isKey_23, sh_Subtag_isKey_24, pb_lengthOf hF hs, e0, pb_isLetter (show s.getD 1 0 < 65536 by omega), im_b2, pb_rz0, pb_rz1, show (2 : Int32) = nI 2 from rfl, pb_eqn h2 (show 2 < 65536 by decide), pb_b0]
  by_cases b : s.length = 2 <;> by_cases c : pb_isL (s.getD 1 0) = true <;> simp_all [pb_key, pb_b]
theorem pb_isType {F : Nat} (hF : 9 ≤ F) {s : List Nat} (hs : pb_ok s) (w : im_W) : sh_Subtag_isType F (pb_l s) w = some (pb_b (pb_type s), w) := by
  obtain ⟨h1, h2⟩ := pb_cn s hs
  simp only [sh_Subtag_isType, sh_Subtag_isType_13, pb_lengthOf hF hs, im_b2, pb_rz0, pb_rz1, show (3 : Int32) = nI 3 from rfl, pb_ltn h2 (show 3 < 65536 by decide)]
  by_cases b : s.length < 3
  · have : ¬ 3 ≤ s.length := by omega
    simp [pb_type, pb_b, b, this]
  · have : 3 ≤ s.length := by omega
    simp [pb_type, pb_b, b, this]
/-! capitals -/
theorem pn_andk {k a b r t : Nat} (hr : r < 2 ^ k) (ht : t < 2 ^ k) : (2 ^ k * a + r) &&& (2 ^ k * b + t) = 2 ^ k * (a &&& b) + (r &&& t) := by
  refine Nat.eq_of_testBit_eq fun j => ?_
  rw [Nat.testBit_and, Nat.testBit_two_pow_mul_add _ hr, Nat.testBit_two_pow_mul_add _ ht, Nat.testBit_two_pow_mul_add _ (Nat.and_lt_two_pow _ ht)]
  by_cases hj : j < k
  · simp [hj]
  · simp [hj]
def pb_up (c : Nat) : Nat := c &&& 223
def pb_m : Nat → Nat
  | 0 => 0
  | k + 1 => 223 * 256 ^ k + pb_m k
theorem pb_m_lt (k : Nat) : pb_m k < 256 ^ k := by
  induction k with
  | zero => simp [pb_m]
  | succ k ih =>
    have h4 : 256 ^ (k + 1) = 256 * 256 ^ k := by rw [Nat.pow_succ, Nat.mul_comm]
    simp only [pb_m]
    omega
theorem pb_e_up {k : Nat} : ∀ {s : List Nat}, (∀ c ∈ s, c < 256) → pb_e k s &&& pb_m k = pb_e k (s.map pb_up) := by
  induction k with
  | zero => intro s _; simp [pb_e]
  | succ k ih =>
    intro s h
    cases s with
    | nil => simp [pb_e]
    | cons c l =>
      have hl : ∀ c ∈ l, c < 256 := fun c hc => h c (List.mem_cons_of_mem _ hc)
      have e : (256 : Nat) ^ k = 2 ^ (8 * k) := by rw [Nat.pow_mul]
      have h1 := pb_lt (k := k) hl
      have h2 := pb_m_lt k
      simp only [pb_e, pb_m, List.map_cons]
      rw [← ih hl]
      rw [e] at h1 h2 ⊢
      rw [Nat.mul_comm c, Nat.mul_comm 223, pn_andk h1 h2, Nat.mul_comm (pb_up c)]
      rfl
theorem pb_capA {s : List Nat} (hs : pb_ok s) : pb_l s &&& (-2314885530818453537 : Int64) = pb_l (s.map pb_up) := by
  rw [show (-2314885530818453537 : Int64) = Int64.ofNat (pb_m 8) by decide, pb_l, pn_and, pb_e_up (fun c hc => by have := (hs.2 c hc).2; omega)]
  rfl
theorem pb_capF {c : Nat} {l : List Nat} (hs : pb_ok (c :: l)) : pb_l (c :: l) &&& (-2305843009213693953 : Int64) = pb_l (pb_up c :: l) := by
  have h1 := pb_lt (k := 7) (s := l) (fun c hc => by have := (hs.2 c (List.mem_cons_of_mem _ hc)).2; omega)
  have e : (256 : Nat) ^ 7 = 2 ^ 56 := by decide
  rw [show (-2305843009213693953 : Int64) = Int64.ofNat (2 ^ 56 * 223 + (2 ^ 56 - 1)) by decide, pb_l, pn_and]
  simp only [pb_e, pb_l]
  rw [e] at h1 ⊢
  rw [Nat.mul_comm c, pn_andk h1 (by decide), Nat.and_two_pow_sub_one_eq_mod, Nat.mod_eq_of_lt h1, Nat.mul_comm (pb_up c)]
  rfl
