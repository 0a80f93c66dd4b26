/-! pairs, likely, tags -/
def pw_prs (p : Nat) (f1 f2 : Nat → Option Nat) (R : List im_E) : List im_E := .inr (4, [.ref (p + 1), .ref (p + 2), .int 0]) :: pw_rf f1 5 10 :: pw_rf f2 5 10 :: R
def pw_r (p s d n : Nat) : Nat → Option Nat := fun j => if j < n then some (p + s + d * j) else none
theorem pw_va {p s d n v : Nat} (hv : v = p + s + d * n) : va_up (pw_r p s d n) n (some v) = pw_r p s d (n + 1) := by
  funext j
  unfold va_up pw_r
  by_cases hj : j = n
  · subst hj
    rw [if_pos rfl, hv, if_pos (by omega)]
  · rw [if_neg hj]
    by_cases h2 : j < n
    · rw [if_pos h2, if_pos (by omega)]
    · rw [if_neg h2, if_neg (by omega)]
theorem pw_va0 {p s d : Nat} : (fun _ => none) = pw_r p s d 0 := by
  funext j
  unfold pw_r
  rw [if_neg (by omega)]
def pw_fk (p : Nat) : Nat → List im_E
  | 0 => []
  | k + 1 => pw_fk p k ++ pw_form 3 (p + 3 + 3 * k)
theorem pw_fk_len (p : Nat) : ∀ k, (pw_fk p k).length = 3 * k
  | 0 => rfl
  | k + 1 => by rw [pw_fk, List.length_append, pw_fk_len p k, show (pw_form 3 (p + 3 + 3 * k)).length = 3 from rfl]; omega
def pw_S (A : List im_E) (a b m : Nat) : List im_E := A ++ pw_prs A.length (pw_r A.length 3 6 a) (pw_r A.length 6 6 b) (pw_fk A.length m)
section PWP
variable {F : Nat} (A : List im_E)
theorem pw_st0 {k : Nat} {i : Int32} (hk : i.toNatClampNeg = k) (hi : ¬ (i < 0 ∨ 10 ≤ i.toNatClampNeg)) {K : im_W → Option im_W} : ((im_gR (pw (pw_S A k k (2 * k))) 4 A.length 0).bind fun f11 => im_b2 (im_al (pw (pw_S A k k (2 * k))) (.inr (2, df0_Form))) fun n13 w14 => (sh_Form_init_3 F n13 w14).bind fun w16 => (im_sz w16 (w14.1 + 2)).bind fun _ => (im_sR w16 5 f11 i 2 n13).bind K) = K (pw (pw_S A (k + 1) k (2 * k + 1))) := by
  have hl : (pw_S A k k (2 * k)).length = A.length + 3 + 3 * (2 * k) := by simp [pw_S, pw_prs, pw_fk_len]; omega
  have e1 : pw_S A k k (2 * k) = (A ++ [.inr (4, [.ref (A.length + 1), .ref (A.length + 2), .int 0])]) ++ pw_rf (pw_r A.length 3 6 k) 5 10 :: (pw_rf (pw_r A.length 6 6 k) 5 10 :: pw_fk A.length (2 * k)) := by simp [pw_S, pw_prs]
  have hg : im_gR (pw (pw_S A k k (2 * k))) 4 A.length 0 = some (A.length + 1) := by unfold pw_S pw_prs; exact pw_gR rfl
  rw [hg, Option.bind_some, pw_al, im_b2_s, pw_f3, Option.bind_some, pw_sz (by simp [pw, pw_form]), Option.bind_some, hl]
  have sr := pw_sR (A := A ++ [.inr (4, [.ref (A.length + 1), .ref (A.length + 2), .int 0])]) (B := pw_rf (pw_r A.length 6 6 k) 5 10 :: pw_fk A.length (2 * k)) (C := [pw_core, pw_aj 3]) (t := 5) (n := 10) (ci := 2) (f := pw_r A.length 3 6 k) (fs := [.ref (A.length + 3 + 3 * (2 * k) + 1), .ref (A.length + 3 + 3 * (2 * k) + 2), .int 0]) hi (v := A.length + 3 + 3 * (2 * k)) (by rw [← e1, hl])
  rw [← e1, pw_L1, hk, pw_va (by omega)] at sr
  rw [show pw_form 3 (A.length + 3 + 3 * (2 * k)) = .inr (2, [.ref (A.length + 3 + 3 * (2 * k) + 1), .ref (A.length + 3 + 3 * (2 * k) + 2), .int 0]) :: [pw_core, pw_aj 3] from rfl, sr, Option.bind_some]
  congr 2
  unfold pw_S pw_prs
  rw [pw_fk]
  simp
  rfl
theorem pw_st1 {k : Nat} {i : Int32} (hk : i.toNatClampNeg = k) (hi : ¬ (i < 0 ∨ 10 ≤ i.toNatClampNeg)) {K : im_W → Option im_W} : ((im_gR (pw (pw_S A (k + 1) k (2 * k + 1))) 4 A.length 1).bind fun f11 => im_b2 (im_al (pw (pw_S A (k + 1) k (2 * k + 1))) (.inr (2, df0_Form))) fun n13 w14 => (sh_Form_init_3 F n13 w14).bind fun w16 => (im_sz w16 (w14.1 + 2)).bind fun _ => (im_sR w16 5 f11 i 2 n13).bind K) = K (pw (pw_S A (k + 1) (k + 1) (2 * (k + 1)))) := by
  have hl : (pw_S A (k + 1) k (2 * k + 1)).length = A.length + 3 + 3 * (2 * k + 1) := by simp [pw_S, pw_prs, pw_fk_len]; omega
  have e1 : pw_S A (k + 1) k (2 * k + 1) = (A ++ [.inr (4, [.ref (A.length + 1), .ref (A.length + 2), .int 0]), pw_rf (pw_r A.length 3 6 (k + 1)) 5 10]) ++ pw_rf (pw_r A.length 6 6 k) 5 10 :: pw_fk A.length (2 * k + 1) := by simp [pw_S, pw_prs]
  have hg : im_gR (pw (pw_S A (k + 1) k (2 * k + 1))) 4 A.length 1 = some (A.length + 2) := by unfold pw_S pw_prs; exact pw_gR rfl
  rw [hg, Option.bind_some, pw_al, im_b2_s, pw_f3, Option.bind_some, pw_sz (by simp [pw, pw_form]), Option.bind_some, hl]
  have sr := pw_sR (A := A ++ [.inr (4, [.ref (A.length + 1), .ref (A.length + 2), .int 0]), pw_rf (pw_r A.length 3 6 (k + 1)) 5 10]) (B := pw_fk A.length (2 * k + 1)) (C := [pw_core, pw_aj 3]) (t := 5) (n := 10) (ci := 2) (f := pw_r A.length 6 6 k) (fs := [.ref (A.length + 3 + 3 * (2 * k + 1) + 1), .ref (A.length + 3 + 3 * (2 * k + 1) + 2), .int 0]) hi (v := A.length + 3 + 3 * (2 * k + 1)) (by rw [← e1, hl])
  rw [← e1, pw_L2, hk, pw_va (by omega)] at sr
  rw [show pw_form 3 (A.length + 3 + 3 * (2 * k + 1)) = .inr (2, [.ref (A.length + 3 + 3 * (2 * k + 1) + 1), .ref (A.length + 3 + 3 * (2 * k + 1) + 2), .int 0]) :: [pw_core, pw_aj 3] from rfl, sr, Option.bind_some]
  congr 2
  have efk : pw_fk A.length (2 * (k + 1)) = pw_fk A.length (2 * k + 1) ++ pw_form 3 (A.length + 3 + 3 * (2 * k + 1)) := by
    rw [show 2 * (k + 1) = (2 * k + 1) + 1 by omega]
    rfl
  unfold pw_S pw_prs
  rw [efk]
  simp
  rfl
def pw_pairs (p : Nat) : List im_E := pw_prs p (pw_r p 3 6 10) (pw_r p 6 6 10) (pw_fk p 20)
theorem pw_prsI : sh_Pairs_init F A.length (pw (A ++ [.inr (4, df0_Pairs)])) = some (pw (A ++ pw_pairs A.length)) := by
  unfold sh_Pairs_init df0_Pairs
  rw [pw_al, im_b2_s, pw_S1, pw_L1, pw_pV _ (by simp), Option.bind_some, pw_al, im_b2_s, pw_S2, pw_L2, pw_pV _ (by simp), Option.bind_some]
  have e0 : A ++ [Sum.inr (4, ([Value.null, Value.null, Value.int 0].set 0 (.ref (A.length + 1))).set 1 (.ref (A.length + 2))), Sum.inl (5, 10, .inr (.inr (.inr (.inr (fun _ => none))))), Sum.inl (5, 10, .inr (.inr (.inr (.inr (fun _ => none)))))] = pw_S A 0 0 (2 * 0) := by
    unfold pw_S pw_prs pw_rf
    rw [← pw_va0, ← pw_va0]
    rfl
  rw [e0]
  rw [pw_st0 A (k := 0) (i := 0) (by decide) (by decide), pw_st1 A (k := 0) (i := 0) (by decide) (by decide), pw_st0 A (k := 1) (i := 1) (by decide) (by decide), pw_st1 A (k := 1) (i := 1) (by decide) (by decide), pw_st0 A (k := 2) (i := 2) (by decide) (by decide), pw_st1 A (k := 2) (i := 2) (by decide) (by decide), pw_st0 A (k := 3) (i := 3) (by decide) (by decide), pw_st1 A (k := 3) (i := 3) (by decide) (by decide), pw_st0 A (k := 4) (i := 4) (by decide) (by decide), pw_st1 A (k := 4) (i := 4) (by decide) (by decide), pw_st0 A (k := 5) (i := 5) (by decide) (by decide), pw_st1 A (k := 5) (i := 5) (by decide) (by decide), pw_st0 A (k := 6) (i := 6) (by decide) (by decide), pw_st1 A (k := 6) (i := 6) (by decide) (by decide), pw_st0 A (k := 7) (i := 7) (by decide) (by decide), pw_st1 A (k := 7) (i := 7) (by decide) (by decide), pw_st0 A (k := 8) (i := 8) (by decide) (by decide), pw_st1 A (k := 8) (i := 8) (by decide) (by decide), pw_st0 A (k := 9) (i := 9) (by decide) (by decide), pw_st1 A (k := 9) (i := 9) (by decide) (by decide)]
  have e1 : pw_S A (9 + 1) (9 + 1) (2 * (9 + 1)) = A ++ Sum.inr (4, [.ref (A.length + 1), .ref (A.length + 2), .int 0]) :: (pw_rf (pw_r A.length 3 6 10) 5 10 :: pw_rf (pw_r A.length 6 6 10) 5 10 :: pw_fk A.length 20) := rfl
  rw [e1, pw_pV _ (by simp), Option.bind_some]
  rfl
end PWP
