/-! the model: a number and its characters -/
theorem pn_div {a b : Nat} (ha : a < 2 ^ 31) (hb : b < 2 ^ 31) : nI a / nI b = nI (a / b) := by
  have h1 : a / b < 2 ^ 31 := Nat.lt_of_le_of_lt (Nat.div_le_self a b) ha
  apply Int32.toInt_inj.mp
  rw [Int32.toInt_div, nI_toInt ha, nI_toInt hb, nI_toInt h1]
  have h2 : ((a : Int).tdiv (b : Int)) = ((a / b : Nat) : Int) := by
    rw [Int.tdiv_eq_ediv_of_nonneg (by omega)]
    exact (Int.natCast_ediv a b).symm
  rw [h2]
  clear h2
  generalize a / b = q at h1 ⊢
  apply Int.bmod_eq_of_le <;> omega
theorem pv_foldl_add : ∀ (s : List Nat) (n : Nat), s.foldl (fun n c => 37 * n + pv_d c) n = n * 37 ^ s.length + pv_n s
  | [], n => by simp [pv_n]
  | c :: s, n => by
    have h1 := pv_foldl_add s (37 * n + pv_d c)
    have h2 := pv_foldl_add s (37 * 0 + pv_d c)
    have h3 : pv_n (c :: s) = s.foldl (fun n c => 37 * n + pv_d c) (37 * 0 + pv_d c) := rfl
    rw [List.foldl_cons, h1, h3, h2, List.length_cons, Nat.pow_succ, Nat.add_mul, Nat.add_mul]
    have h4 : 37 * n * 37 ^ s.length = n * (37 ^ s.length * 37) := by
      rw [Nat.mul_comm 37 n, Nat.mul_assoc, Nat.mul_comm 37]
    rw [h4]
    omega
theorem pv_n_cons (c : Nat) (s : List Nat) : pv_n (c :: s) = pv_d c * 37 ^ s.length + pv_n s := by
  have h := pv_foldl_add s (37 * 0 + pv_d c)
  have h3 : pv_n (c :: s) = s.foldl (fun n c => 37 * n + pv_d c) (37 * 0 + pv_d c) := rfl
  rw [h3, h, Nat.mul_zero, Nat.zero_add]
theorem pv_n_lt {s : List Nat} (hA : s.all pb_isA = true) : pv_n s < 37 ^ s.length := by
  have := (pv_fold s 0 0 hA (by decide)).1
  rwa [Nat.zero_add] at this
/-- the k-th character's number -/
theorem pv_at : ∀ {s : List Nat}, s.all pb_isA = true → ∀ {k : Nat}, k < s.length → pv_n s / 37 ^ (s.length - 1 - k) % 37 = pv_d (s.getD k 0)
  | [], _, k, hk => by simp at hk
  | c :: s, hA, 0, _ => by
    rw [List.all_cons, Bool.and_eq_true] at hA
    have hd := pv_d_b hA.1
    have hl := pv_n_lt hA.2
    rw [pv_n_cons, List.length_cons, show s.length + 1 - 1 - 0 = s.length by omega, Nat.add_comm, Nat.mul_comm, Nat.add_mul_div_left _ _ (Nat.pow_pos (by decide)), Nat.div_eq_of_lt hl, Nat.zero_add]
    exact Nat.mod_eq_of_lt (by omega)
  | c :: s, hA, k + 1, hk => by
    rw [List.all_cons, Bool.and_eq_true] at hA
    have hk : k < s.length := by simpa using hk
    have ih := pv_at hA.2 hk
    rw [pv_n_cons, List.length_cons, show s.length + 1 - 1 - (k + 1) = s.length - 1 - k by omega]
    have e : s.length = (s.length - 1 - k) + (k + 1) := by omega
    have e2 : pv_d c * 37 ^ s.length = 37 ^ (s.length - 1 - k) * (37 * (pv_d c * 37 ^ k)) := by
      have : 37 ^ s.length = 37 ^ (s.length - 1 - k) * (37 ^ k * 37) := by
        rw [← Nat.pow_succ, ← Nat.pow_add]
        congr 1
      rw [this, Nat.mul_left_comm, Nat.mul_comm (37 ^ k) 37, Nat.mul_left_comm (pv_d c)]
    rw [e2, Nat.add_comm, Nat.add_mul_div_left _ _ (Nat.pow_pos (by decide)), Nat.add_mul_mod_self_left]
    exact ih
