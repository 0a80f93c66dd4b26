/-! the model: which part comes before -/
def pm_lt : List Nat → List Nat → Bool
  | _, [] => false
  | [], _ :: _ => true
  | x :: s, y :: t => if x = y then pm_lt s t else decide (x < y)
section MBE
variable {F : Nat} {σ : pu_S} {ty : List Nat}
theorem pm_before_25 (hp : pm_ty σ ty) {a b c d n : Nat} (hab : a ≤ b) (hb : b ≤ ty.length) (hcd : c ≤ d) (hd : d ≤ ty.length) (hn : n = if d - c ≤ b - a then d - c else b - a) : ∀ (f k : Nat), n + 1 ≤ f + k → k ≤ n → sh_Model_before_25 F f 248 (nI a) (nI b) (nI c) (nI d) (nI n) (nI k) (pu_mk σ) = some (pb_b (pm_lt ((pm_seg ty (a + k) b).map pt_low) ((pm_seg ty (c + k) d).map pt_low)), pu_mk σ) := by
  have hl := hp.2.2.1
  have hn1 : n ≤ d - c ∧ n ≤ b - a := by
    rw [hn]
    split <;> omega
  have eS : nI b - nI a = nI (b - a) := pn_sub hab
  have eT : nI d - nI c = nI (d - c) := pn_sub hcd
  have c0 : nI (d - c) ≤ nI (b - a) ↔ d - c ≤ b - a := nI_leI (by omega) (by omega)
  intro f
  induction f with
  | zero => intro k h1 h2; omega
  | succ f ih =>
    intro k h1 h2
    have h6 : nI n ≤ nI k ↔ n ≤ k := nI_leI (by omega) (by omega)
    rw [sh_Model_before_25, eS, eT]
    unfold sh_Model_before_103 sh_Model_before_81
    by_cases h3 : n ≤ k
    · have hk : k = n := by omega
      subst hk
      rw [if_pos (h6.mpr h3)]
      by_cases h4 : d - c ≤ b - a
      · rw [if_pos h4] at hn
        have e : c + k = d := by omega
        rw [if_pos (c0.mpr h4), pb_rz0, e, pm_seg_nil, List.map_nil]
        unfold pm_lt
        rfl
      · rw [if_neg h4] at hn
        have e : a + k = b := by omega
        rw [if_neg (fun q => h4 (c0.mp q)), pb_rz1, e, pm_seg_nil, List.map_nil, pm_seg_cons (show c + k < d by omega) hd, List.map_cons]
        unfold pm_lt
        rfl
    · have h7 := pm_low_lt (pm_tylt hp.2.2.2 (a + k))
      have h8 := pm_low_lt (pm_tylt hp.2.2.2 (c + k))
      have hc1 := pm_tylt hp.2.2.2 (a + k)
      have hc2 := pm_tylt hp.2.2.2 (c + k)
      have hq : nI (pt_low (ty.getD (a + k) 0)) = nI (pt_low (ty.getD (c + k) 0)) ↔ pt_low (ty.getD (a + k) 0) = pt_low (ty.getD (c + k) 0) := nI_eq (by omega) (by omega)
      have hr : nI (pt_low (ty.getD (c + k) 0)) ≤ nI (pt_low (ty.getD (a + k) 0)) ↔ pt_low (ty.getD (c + k) 0) ≤ pt_low (ty.getD (a + k) 0) := nI_leI (by omega) (by omega)
      rw [if_neg (fun q => h3 (h6.mp q)), pm_1, Option.bind_some, nI_add, pm_at hp (by omega), Option.bind_some, pm_i, Option.bind_some, pm_small (by omega), im_b2_s, pm_1, Option.bind_some, nI_add, pm_at hp (by omega), Option.bind_some, pm_i, Option.bind_some, pm_small (by omega), im_b2_s, nI_1]
      rw [pm_seg_cons (show a + k < b by omega) hb, pm_seg_cons (show c + k < d by omega) hd, List.map_cons, List.map_cons]
      rw [pm_lt]
      by_cases h9 : pt_low (ty.getD (a + k) 0) = pt_low (ty.getD (c + k) 0)
      · have := ih (k + 1) (by omega) (by omega)
        rw [if_pos (hq.mpr h9), if_pos h9]
        exact this
      · rw [if_neg (fun q => h9 (hq.mp q)), if_neg h9]
        by_cases h10 : pt_low (ty.getD (c + k) 0) ≤ pt_low (ty.getD (a + k) 0)
        · rw [if_pos (hr.mpr h10), pb_rz0, decide_eq_false (by omega)]
          rfl
        · rw [if_neg (fun q => h10 (hr.mp q)), pb_rz1, decide_eq_true (by omega)]
          rfl
theorem pm_before (hp : pm_ty σ ty) (hF : 62 ≤ F) {a b c d : Nat} (hab : a ≤ b) (hb : b ≤ ty.length) (hcd : c ≤ d) (hd : d ≤ ty.length) : sh_Model_before F 248 (nI a) (nI b) (nI c) (nI d) (pu_mk σ) = some (pb_b (pm_lt ((pm_seg ty a b).map pt_low) ((pm_seg ty c d).map pt_low)), pu_mk σ) := by
  have hl := hp.2.2.1
  have eS : nI b - nI a = nI (b - a) := pn_sub hab
  have eT : nI d - nI c = nI (d - c) := pn_sub hcd
  have c0 : nI (d - c) ≤ nI (b - a) ↔ d - c ≤ b - a := nI_leI (by omega) (by omega)
  unfold sh_Model_before sh_Model_before_20
  rw [eS, eT]
  by_cases h4 : d - c ≤ b - a
  · rw [if_pos (c0.mpr h4)]
    exact pm_before_25 (F := F) hp hab hb hcd hd (n := d - c) (by rw [if_pos h4]) F 0 (by omega) (by omega)
  · rw [if_neg (fun q => h4 (c0.mp q))]
    exact pm_before_25 (F := F) hp hab hb hcd hd (n := b - a) (by rw [if_neg h4]) F 0 (by omega) (by omega)
end MBE
