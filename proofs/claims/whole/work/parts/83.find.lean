/-! the model: finding a form -/
def pm_fs (σ : pu_S) (xs : List (List Nat)) : Prop := σ.1 248 31 = nI xs.length ∧ xs.length ≤ 16 ∧ (∀ t, t < xs.length → σ.2.2.1 267 t = nI (xs.getD t []).length ∧ ∀ i, i < (xs.getD t []).length → σ.2.2.1 266 (80 * t + i) = nI ((xs.getD t []).getD i 0)) ∧ ∀ x ∈ xs, x.length ≤ 80 ∧ ∀ c ∈ x, c < 128
theorem pm_fs.fr {S T : Nat → Prop} {σ τ : pu_S} {xs : List (List Nat)} (hp : pm_fs σ xs) (hf : pm_fr S T σ τ) (h1 : ¬ T 31) (h2 : ¬ S 266) (h3 : ¬ S 267) : pm_fs τ xs :=
  ⟨(hf.2 31 h1).trans hp.1, hp.2.1, fun t ht => ⟨(hf.1 267 h3 (by decide) t).2.2.1.trans (hp.2.2.1 t ht).1, fun i hi => (hf.1 266 h2 (by decide) _).2.2.1.trans ((hp.2.2.1 t ht).2 i hi)⟩, hp.2.2.2⟩
section MFI
variable {F : Nat} {σ : pu_S} {l : List Nat} {xs : List (List Nat)}
theorem pm_find_31 (hm : pm_fm σ l) (hx : pm_fs σ xs) (k2 : Nat → Int32 → im_W → Option (Int32 × im_W)) {t : Nat} (ht : t < xs.length) (hlen : (xs.getD t []).length = l.length) : ∀ (f i : Nat) (acc : Bool), l.length + 1 ≤ f + i → i ≤ l.length → sh_Model_find_31 F k2 f 248 (nI t) (pb_b acc) (nI i) (pu_mk σ) = sh_Model_find_75 F k2 248 (nI t) (pb_b (acc && decide ((xs.getD t []).drop i = l.drop i))) (pu_mk σ) := by
  have hl := hm.2.2.1
  have h16 := hx.2.1
  obtain ⟨g1, g2⟩ := hx.2.2.1 t ht
  obtain ⟨g3, g4⟩ := hx.2.2.2 _ (pb_getG [] ht)
  intro f
  induction f with
  | zero => intro i acc h1 h2; omega
  | succ f ih =>
    intro i acc h1 h2
    have h6 : nI l.length ≤ nI i ↔ l.length ≤ i := nI_leI (by omega) (by omega)
    rw [sh_Model_find_31, pm_13, Option.bind_some, hm.1]
    by_cases h3 : l.length ≤ i
    · rw [if_pos (h6.mpr h3), List.drop_eq_nil_of_le h3, List.drop_eq_nil_of_le (by omega)]
      simp
    · rw [if_neg (fun q => h3 (h6.mp q))]
      cases acc with
      | false => rw [if_pos (show pb_b false = 0 from rfl), Bool.false_and]
      | true =>
        have hi : i < l.length := by omega
        have hi2 : i < (xs.getD t []).length := by omega
        have a1 := pm_tylt hm.2.2.2 i
        have a2 := pm_tylt g4 i
        have e80 : (80 : Int32) * nI t + nI i = nI (80 * t + i) := by
          have : (80 : Int32) * nI t = nI (80 * t) := pn_mul 80 t
          rw [this, nI_add]
        have hq : nI ((xs.getD t []).getD i 0) = nI (l.getD i 0) ↔ (xs.getD t []).getD i 0 = l.getD i 0 := nI_eq (by omega) (by omega)
        rw [if_neg (show ¬ pb_b true = 0 by decide), pm_32, Option.bind_some, e80, pm_l266 σ (by omega), Option.bind_some, pm_14, Option.bind_some, pm_l254 σ (by omega), Option.bind_some, g2 i hi2, hm.2.1 i hi, pb_dropG 0 hi, pb_dropG 0 hi2, pb_decC']
        unfold sh_Model_find_68
        rw [nI_1]
        by_cases h9 : (xs.getD t []).getD i 0 = l.getD i 0
        · have := ih (i + 1) true (by omega) (by omega)
          rw [if_pos (hq.mpr h9), decide_eq_true h9]
          exact this
        · have := ih (i + 1) false (by omega) (by omega)
          rw [if_neg (fun q => h9 (hq.mp q)), decide_eq_false h9]
          exact this
theorem pm_find_2 (hm : pm_fm σ l) (hx : pm_fs σ xs) (hF : 90 ≤ F) : ∀ (f t : Nat), xs.length + 1 ≤ f + t → t ≤ xs.length → sh_Model_find_2 F f 248 (nI t) (pu_mk σ) = some (pr_n (((xs.drop t).findIdx? (fun x => decide (x = l))).map (fun j => t + j)), pu_mk σ) := by
  have hl := hm.2.2.1
  have h16 := hx.2.1
  intro f
  induction f with
  | zero => intro t h1 h2; omega
  | succ f ih =>
    intro t h1 h2
    have h6 : nI xs.length ≤ nI t ↔ xs.length ≤ t := nI_leI (by omega) (by omega)
    rw [sh_Model_find_2, pm_31, Option.bind_some, hx.1]
    by_cases h3 : xs.length ≤ t
    · rw [if_pos (h6.mpr h3), List.drop_eq_nil_of_le h3]
      rfl
    · have ht : t < xs.length := by omega
      obtain ⟨g1, g2⟩ := hx.2.2.1 t ht
      obtain ⟨g3, g4⟩ := hx.2.2.2 _ (pb_getG [] ht)
      have hq : nI (xs.getD t []).length = nI l.length ↔ (xs.getD t []).length = l.length := nI_eq (by omega) (by omega)
      rw [if_neg (fun q => h3 (h6.mp q)), pm_33, Option.bind_some, pm_l267 σ (by omega), Option.bind_some, pm_13, Option.bind_some, g1, hm.1, pb_dropG [] ht, List.findIdx?_cons]
      unfold sh_Model_find_28
      have nx : sh_Model_find_2 F f 248 (nI t + 1) (pu_mk σ) = some (pr_n (Option.map (fun j => t + j) (Option.map (fun i => i + 1) ((xs.drop (t + 1)).findIdx? (fun x => decide (x = l))))), pu_mk σ) := by
        rw [nI_1, ih (t + 1) (by omega) (by omega)]
        cases (xs.drop (t + 1)).findIdx? (fun x => decide (x = l)) with
        | none => rfl
        | some j =>
          simp only [Option.map_some]
          rw [show t + 1 + j = t + (j + 1) by omega]
      by_cases h9 : (xs.getD t []).length = l.length
      · have e := pm_find_31 (F := F) hm hx (sh_Model_find_2 F f) ht h9 F 0 true (by omega) (by omega)
        rw [nI_0, List.drop_zero, List.drop_zero, Bool.true_and] at e
        rw [if_pos (hq.mpr h9)]
        refine Eq.trans e ?_
        unfold sh_Model_find_75
        by_cases h10 : xs.getD t [] = l
        · rw [decide_eq_true h10, if_neg (show ¬ pb_b true = 0 by decide)]
          rfl
        · rw [decide_eq_false h10, if_pos (show pb_b false = 0 from rfl), nx]
          rfl
      · have h10 : ¬ xs.getD t [] = l := fun q => h9 (by rw [q])
        obtain ⟨G, rfl⟩ : ∃ G, F = G + 1 := ⟨F - 1, by omega⟩
        rw [if_neg (fun q => h9 (hq.mp q)), sh_Model_find_31, pm_13, Option.bind_some, decide_eq_false h10]
        unfold sh_Model_find_75
        by_cases z : σ.1 248 13 ≤ 0
        · rw [if_pos z, if_pos rfl, nx]
          rfl
        · rw [if_neg z, if_pos rfl, if_pos rfl, nx]
          rfl
theorem pm_find (hm : pm_fm σ l) (hx : pm_fs σ xs) (hF : 90 ≤ F) : sh_Model_find F 248 (pu_mk σ) = some (pr_n (xs.findIdx? (fun x => decide (x = l))), pu_mk σ) := by
  have h16 := hx.2.1
  have e := pm_find_2 (F := F) hm hx hF F 0 (by omega) (by omega)
  rw [nI_0, List.drop_zero] at e
  unfold sh_Model_find
  rw [e]
  cases xs.findIdx? (fun x => decide (x = l)) with
  | none => rfl
  | some j => simp only [Option.map_some, Nat.zero_add]
end MFI
