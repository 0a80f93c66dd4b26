/-! the model: parts of what is typed -/
def pm_seg (ty : List Nat) (a b : Nat) : List Nat := (ty.drop a).take (b - a)
theorem pm_seg_nil (ty : List Nat) (a : Nat) : pm_seg ty a a = [] := by simp [pm_seg]
theorem pm_seg_cons {ty : List Nat} {a b : Nat} (h1 : a < b) (h2 : b ≤ ty.length) : pm_seg ty a b = ty.getD a 0 :: pm_seg ty (a + 1) b := by
  unfold pm_seg
  rw [pb_dropG 0 (show a < ty.length by omega), show b - a = (b - (a + 1)) + 1 by omega]
  rfl
theorem pm_seg_len {ty : List Nat} {a b : Nat} (h2 : b ≤ ty.length) : (pm_seg ty a b).length = b - a := by
  simp [pm_seg]
  omega
def pv_d (c : Nat) : Nat := if pb_isL c = true then pt_low c - 96 else c - 21
def pv_n (s : List Nat) : Nat := s.foldl (fun n c => 37 * n + pv_d c) 0
section MSE
variable {F : Nat} {σ : pu_S} {ty : List Nat}
theorem pm_allLetters_5 (hp : pm_ty σ ty) {b : Nat} (hb : b ≤ ty.length) : ∀ (f k : Nat) (acc : Bool), b + 1 ≤ f + k → k ≤ b → sh_Model_allLetters_5 F f 248 (nI b) (pb_b acc) (nI k) (pu_mk σ) = some (pb_b (acc && (pm_seg ty k b).all pb_isL), pu_mk σ) := by
  have hl := hp.2.2.1
  intro f
  induction f with
  | zero => intro k acc h1 h2; omega
  | succ f ih =>
    intro k acc h1 h2
    unfold sh_Model_allLetters_5 sh_Model_allLetters_33 sh_Model_allLetters_34
    have h6 : nI b ≤ nI k ↔ b ≤ k := nI_leI (by omega) (by omega)
    by_cases h3 : b ≤ k
    · have : k = b := by omega
      subst this
      rw [if_pos (h6.mpr h3), pb_rz, pm_seg_nil]
      simp
    · have hk : k < ty.length := by omega
      rw [if_neg (fun q => h3 (h6.mp q)), pm_seg_cons (show k < b by omega) hb, List.all_cons]
      cases acc with
      | false =>
        have := ih (k + 1) false (by omega) (by omega)
        rw [if_pos (show pb_b false = 0 from rfl), nI_1]
        exact this
      | true =>
        have hc := pm_tylt hp.2.2.2 k
        rw [if_neg (show ¬ pb_b true = 0 by decide), pm_1, Option.bind_some, pm_at hp hk, Option.bind_some, pm_i, Option.bind_some, pm_letter hc, im_b2_s, nI_1]
        cases hL : pb_isL (ty.getD k 0) with
        | false =>
          have := ih (k + 1) false (by omega) (by omega)
          rw [if_pos (show pb_b false = 0 from rfl)]
          exact this
        | true =>
          have := ih (k + 1) true (by omega) (by omega)
          rw [if_neg (show ¬ pb_b true = 0 by decide)]
          exact this
theorem pm_allLetters (hp : pm_ty σ ty) (hF : 62 ≤ F) {a b : Nat} (hab : a ≤ b) (hb : b ≤ ty.length) : sh_Model_allLetters F 248 (nI a) (nI b) (pu_mk σ) = some (pb_b ((pm_seg ty a b).all pb_isL), pu_mk σ) := by
  have hl := hp.2.2.1
  have := pm_allLetters_5 (F := F) hp hb F a true (by omega) hab
  unfold sh_Model_allLetters
  exact this
theorem pm_allDigits_5 (hp : pm_ty σ ty) {b : Nat} (hb : b ≤ ty.length) : ∀ (f k : Nat) (acc : Bool), b + 1 ≤ f + k → k ≤ b → sh_Model_allDigits_5 F f 248 (nI b) (pb_b acc) (nI k) (pu_mk σ) = some (pb_b (acc && (pm_seg ty k b).all pb_isD), pu_mk σ) := by
  have hl := hp.2.2.1
  intro f
  induction f with
  | zero => intro k acc h1 h2; omega
  | succ f ih =>
    intro k acc h1 h2
    unfold sh_Model_allDigits_5 sh_Model_allDigits_33 sh_Model_allDigits_34
    have h6 : nI b ≤ nI k ↔ b ≤ k := nI_leI (by omega) (by omega)
    by_cases h3 : b ≤ k
    · have : k = b := by omega
      subst this
      rw [if_pos (h6.mpr h3), pb_rz, pm_seg_nil]
      simp
    · have hk : k < ty.length := by omega
      rw [if_neg (fun q => h3 (h6.mp q)), pm_seg_cons (show k < b by omega) hb, List.all_cons]
      cases acc with
      | false =>
        have := ih (k + 1) false (by omega) (by omega)
        rw [if_pos (show pb_b false = 0 from rfl), nI_1]
        exact this
      | true =>
        have hc := pm_tylt hp.2.2.2 k
        rw [if_neg (show ¬ pb_b true = 0 by decide), pm_1, Option.bind_some, pm_at hp hk, Option.bind_some, pm_i, Option.bind_some, pm_digit (by omega), im_b2_s, nI_1]
        cases hL : pb_isD (ty.getD k 0) with
        | false =>
          have := ih (k + 1) false (by omega) (by omega)
          rw [if_pos (show pb_b false = 0 from rfl)]
          exact this
        | true =>
          have := ih (k + 1) true (by omega) (by omega)
          rw [if_neg (show ¬ pb_b true = 0 by decide)]
          exact this
theorem pm_allDigits (hp : pm_ty σ ty) (hF : 62 ≤ F) {a b : Nat} (hab : a ≤ b) (hb : b ≤ ty.length) : sh_Model_allDigits F 248 (nI a) (nI b) (pu_mk σ) = some (pb_b ((pm_seg ty a b).all pb_isD), pu_mk σ) := by
  have hl := hp.2.2.1
  have := pm_allDigits_5 (F := F) hp hb F a true (by omega) hab
  unfold sh_Model_allDigits
  exact this
theorem pm_allBoth_5 (hp : pm_ty σ ty) {b : Nat} (hb : b ≤ ty.length) : ∀ (f k : Nat) (acc : Bool), b + 1 ≤ f + k → k ≤ b → sh_Model_allBoth_5 F f 248 (nI b) (pb_b acc) (nI k) (pu_mk σ) = some (pb_b (acc && (pm_seg ty k b).all pb_isA), pu_mk σ) := by
  have hl := hp.2.2.1
  intro f
  induction f with
  | zero => intro k acc h1 h2; omega
  | succ f ih =>
    intro k acc h1 h2
    unfold sh_Model_allBoth_5 sh_Model_allBoth_43 sh_Model_allBoth_47 sh_Model_allBoth_48
    have h6 : nI b ≤ nI k ↔ b ≤ k := nI_leI (by omega) (by omega)
    by_cases h3 : b ≤ k
    · have : k = b := by omega
      subst this
      rw [if_pos (h6.mpr h3), pb_rz, pm_seg_nil]
      simp
    · have hk : k < ty.length := by omega
      rw [if_neg (fun q => h3 (h6.mp q)), pm_seg_cons (show k < b by omega) hb, List.all_cons]
      have i0 := ih (k + 1) false (by omega) (by omega)
      have i1 := ih (k + 1) true (by omega) (by omega)
      cases acc with
      | false =>
        rw [if_pos (show pb_b false = 0 from rfl), nI_1]
        exact i0
      | true =>
        have hc := pm_tylt hp.2.2.2 k
        rw [if_neg (show ¬ pb_b true = 0 by decide), pm_1, Option.bind_some, pm_at hp hk, Option.bind_some, pm_i, Option.bind_some, pm_letter hc, im_b2_s, nI_1]
        unfold pb_isA at i0 i1 ⊢
        cases hL : pb_isL (ty.getD k 0) with
        | false =>
          rw [if_pos (show pb_b false = 0 from rfl), pm_1, Option.bind_some, pm_at hp hk, Option.bind_some, pm_i, Option.bind_some, pm_digit (by omega), im_b2_s]
          cases hD : pb_isD (ty.getD k 0) with
          | false =>
            rw [if_pos (show pb_b false = 0 from rfl)]
            exact i0
          | true =>
            rw [if_neg (show ¬ pb_b true = 0 by decide)]
            exact i1
        | true =>
          rw [if_neg (show ¬ pb_b true = 0 by decide)]
          exact i1
theorem pm_allBoth (hp : pm_ty σ ty) (hF : 62 ≤ F) {a b : Nat} (hab : a ≤ b) (hb : b ≤ ty.length) : sh_Model_allBoth F 248 (nI a) (nI b) (pu_mk σ) = some (pb_b ((pm_seg ty a b).all pb_isA), pu_mk σ) := by
  have hl := hp.2.2.1
  have := pm_allBoth_5 (F := F) hp hb F a true (by omega) hab
  unfold sh_Model_allBoth
  exact this
theorem pm_number_5 (hp : pm_ty σ ty) {b : Nat} (hb : b ≤ ty.length) : ∀ (f k n : Nat), b + 1 ≤ f + k → k ≤ b → (pm_seg ty k b).all pb_isA = true → sh_Model_number_5 F f 248 (nI b) (nI n) (nI k) (pu_mk σ) = some (nI ((pm_seg ty k b).foldl (fun n c => 37 * n + pv_d c) n), pu_mk σ) := by
  have hl := hp.2.2.1
  intro f
  induction f with
  | zero => intro k acc h1 h2; omega
  | succ f ih =>
    intro k n h1 h2 hA
    unfold sh_Model_number_5 sh_Model_number_61
    have h6 : nI b ≤ nI k ↔ b ≤ k := nI_leI (by omega) (by omega)
    by_cases h3 : b ≤ k
    · have : k = b := by omega
      subst this
      rw [if_pos (h6.mpr h3), pm_seg_nil]
      rfl
    · have hk : k < ty.length := by omega
      rw [pm_seg_cons (show k < b by omega) hb, List.all_cons] at hA
      have hA1 : pb_isA (ty.getD k 0) = true := by
        cases h : pb_isA (ty.getD k 0) with
        | true => rfl
        | false => rw [h] at hA; simp at hA
      have hA2 : (pm_seg ty (k + 1) b).all pb_isA = true := by
        rw [hA1] at hA
        simpa using hA
      rw [if_neg (fun q => h3 (h6.mp q)), pm_seg_cons (show k < b by omega) hb, List.foldl_cons]
      have hc := pm_tylt hp.2.2.2 k
      have i1 := ih (k + 1) (37 * n + pv_d (ty.getD k 0)) (by omega) (by omega) hA2
      have e37 : (37 : Int32) * nI n = nI (37 * n) := pn_mul 37 n
      rw [pm_1, Option.bind_some, pm_at hp hk, Option.bind_some, pm_i, Option.bind_some, pm_letter hc, im_b2_s, nI_1, e37]
      cases hL : pb_isL (ty.getD k 0) with
      | false =>
        have hD : pb_isD (ty.getD k 0) = true := by
          unfold pb_isA at hA1
          rw [hL] at hA1
          simpa using hA1
        have h48 : 48 ≤ ty.getD k 0 ∧ ty.getD k 0 ≤ 57 := by simpa [pb_isD] using hD
        have e1 : nI (37 * n) + (nI (ty.getD k 0) - (48 : Int32) + (27 : Int32)) = nI (37 * n + pv_d (ty.getD k 0)) := by
          have a1 : nI (ty.getD k 0) - (48 : Int32) = nI (ty.getD k 0 - 48) := pn_sub (b := 48) h48.1
          have a2 : nI (ty.getD k 0 - 48) + (27 : Int32) = nI (ty.getD k 0 - 48 + 27) := nI_add _ 27
          rw [a1, a2, nI_add]
          congr 2
          unfold pv_d
          rw [hL, if_neg (by decide)]
          omega
        rw [if_pos (show pb_b false = 0 from rfl), pm_1, Option.bind_some, pm_at hp hk, Option.bind_some, e1, i1]
      | true =>
        have h97 : 97 ≤ pt_low (ty.getD k 0) ∧ pt_low (ty.getD k 0) ≤ 122 := by
          have := pm_isL _ hc
          rw [hL] at this
          simpa using this.symm
        have e1 : nI (37 * n) + (nI (pt_low (ty.getD k 0)) - (97 : Int32) + (1 : Int32)) = nI (37 * n + pv_d (ty.getD k 0)) := by
          have a1 : nI (pt_low (ty.getD k 0)) - (97 : Int32) = nI (pt_low (ty.getD k 0) - 97) := pn_sub (b := 97) h97.1
          rw [a1, nI_1, nI_add]
          congr 2
          unfold pv_d
          rw [hL, if_pos rfl]
          omega
        rw [if_neg (show ¬ pb_b true = 0 by decide), pm_1, Option.bind_some, pm_at hp hk, Option.bind_some, pm_i, Option.bind_some, pm_small (by omega), im_b2_s, e1, i1]
theorem pm_number (hp : pm_ty σ ty) (hF : 62 ≤ F) {a b : Nat} (hab : a ≤ b) (hb : b ≤ ty.length) (hA : (pm_seg ty a b).all pb_isA = true) : sh_Model_number F 248 (nI a) (nI b) (pu_mk σ) = some (nI (pv_n (pm_seg ty a b)), pu_mk σ) := by
  have hl := hp.2.2.1
  have := pm_number_5 (F := F) hp hb F a 0 (by omega) hab hA
  rw [nI_0] at this
  exact this
end MSE
