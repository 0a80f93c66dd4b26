/-! the model: the one equal sign -/
def pm_eqs : List Nat → Int32 → Nat → Nat → Int32
  | [], x, n, _ => if n = 1 then x else -1
  | c :: l, x, n, k => if c = 61 then pm_eqs l (nI k) (n + 1) (k + 1) else pm_eqs l x n (k + 1)
theorem pm_eqs2 : ∀ (l : List Nat) (x : Int32) (n k : Nat), 2 ≤ n → pm_eqs l x n k = -1
  | [], x, n, k, h => by unfold pm_eqs; rw [if_neg (by omega)]
  | c :: l, x, n, k, h => by
    unfold pm_eqs
    split
    · exact pm_eqs2 l _ _ _ (by omega)
    · exact pm_eqs2 l _ _ _ h
theorem pm_eqs1 : ∀ (l : List Nat) (x : Int32) (k : Nat), pm_eqs l x 1 k = if l.any (· == 61) = true then -1 else x
  | [], x, k => rfl
  | c :: l, x, k => by
    unfold pm_eqs
    rw [List.any_cons]
    by_cases h : c = 61
    · rw [if_pos h, pm_eqs2 _ _ _ _ (by decide), if_pos (by simp [h])]
    · have h2 : (c == 61) = false := by simpa using h
      rw [if_neg h, pm_eqs1 l x (k + 1), h2, Bool.false_or]
theorem pm_eqs0 : ∀ (l : List Nat) (x : Int32) (k : Nat), pm_eqs l x 0 k = match l.findIdx? (· == 61) with
    | none => -1
    | some m => if (l.drop (m + 1)).any (· == 61) = true then -1 else nI (k + m)
  | [], x, k => rfl
  | c :: l, x, k => by
    unfold pm_eqs
    rw [List.findIdx?_cons]
    by_cases h : c = 61
    · have h2 : (c == 61) = true := by simpa using h
      rw [if_pos h, pm_eqs1, h2]
      rfl
    · have h2 : (c == 61) = false := by simpa using h
      rw [if_neg h, pm_eqs0 l x (k + 1), h2]
      cases l.findIdx? (· == 61) with
      | none => rfl
      | some m =>
        simp only [Bool.false_eq_true, if_false, Option.map_some, List.drop_succ_cons]
        rw [show k + 1 + m = k + (m + 1) by omega]
section MEQ
variable {F : Nat} {σ : pu_S} {ty : List Nat}
theorem pm_equalSign_6 (hp : pm_ty σ ty) : ∀ (f k n : Nat) (x : Int32), ty.length + 1 ≤ f + k → k ≤ ty.length → n ≤ k → sh_Model_equalSign_6 F f 248 x (nI n) (nI k) (pu_mk σ) = some (pm_eqs (ty.drop k) x n k, pu_mk σ) := by
  have hl := hp.2.2.1
  intro f
  induction f with
  | zero => intro k n x h1 h2; omega
  | succ f ih =>
    intro k n x h1 h2 h3
    have h6 : nI ty.length ≤ nI k ↔ ty.length ≤ k := nI_leI (by omega) (by omega)
    have c1 : nI n = (1 : Int32) ↔ n = 1 := nI_eq (b := 1) (by omega) (by decide)
    rw [sh_Model_equalSign_6, pm_0, Option.bind_some, hp.1]
    unfold sh_Model_equalSign_30 sh_Model_equalSign_46
    by_cases h4 : ty.length ≤ k
    · rw [if_pos (h6.mpr h4), List.drop_eq_nil_of_le h4]
      unfold pm_eqs
      by_cases h5 : n = 1
      · rw [if_pos (c1.mpr h5), if_pos h5]
      · rw [if_neg (fun q => h5 (c1.mp q)), if_neg h5]
    · have hk : k < ty.length := by omega
      have hc := pm_tylt hp.2.2.2 k
      have hq : nI (ty.getD k 0) = (61 : Int32) ↔ ty.getD k 0 = 61 := nI_eq (b := 61) (by omega) (by decide)
      rw [if_neg (fun q => h4 (h6.mp q)), pm_1, Option.bind_some, pm_at hp hk, Option.bind_some, pb_dropG 0 hk, pm_eqs, nI_1, nI_1]
      by_cases h9 : ty.getD k 0 = 61
      · rw [if_pos (hq.mpr h9), if_pos h9]
        exact ih (k + 1) (n + 1) (nI k) (by omega) (by omega) (by omega)
      · rw [if_neg (fun q => h9 (hq.mp q)), if_neg h9]
        exact ih (k + 1) n x (by omega) (by omega) (by omega)
theorem pm_equalSign (hp : pm_ty σ ty) (hF : 62 ≤ F) : sh_Model_equalSign F 248 (pu_mk σ) = some (match ty.findIdx? (· == 61) with
    | none => -1
    | some m => if (ty.drop (m + 1)).any (· == 61) = true then -1 else nI m, pu_mk σ) := by
  have hl := hp.2.2.1
  have e := pm_equalSign_6 (F := F) hp F 0 0 (-1) (by omega) (by omega) (by omega)
  rw [nI_0, List.drop_zero, pm_eqs0] at e
  unfold sh_Model_equalSign
  rw [e]
  cases ty.findIdx? (· == 61) with
  | none => rfl
  | some m =>
    simp only [Nat.zero_add]
end MEQ
