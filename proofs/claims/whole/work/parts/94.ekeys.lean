/-! the model: choosing a keyword -/
def pm_kk (ty : List Nat) (v : Nat × Nat) : List Nat := (pm_seg ty v.1 (v.1 + 2)).map pt_low
theorem pm_kkget (ty : List Nat) (ks : List (Nat × Nat)) {j : Nat} (hj : j < ks.length) : (ks.map (pm_kk ty)).getD j [] = (pm_seg ty (ks.getD j pm_0p).1 ((ks.getD j pm_0p).1 + 2)).map pt_low := by
  rw [List.getD_eq_getElem?_getD, List.getD_eq_getElem?_getD, List.getElem?_map, List.getElem?_eq_getElem hj]
  rfl
theorem pm_n2 (a : Nat) : nI a + (2 : Int32) = nI (a + 2) := nI_add a 2
section MMK
variable {F : Nat} {σ : pu_S} {ty : List Nat} {ks : List (Nat × Nat)}
theorem pm_mk72 (hp : pm_ty σ ty) (hF : 62 ≤ F) (hv : pm_pl σ ty 8 252 253 ks) (h2 : ∀ k ∈ ks, k.1 + 2 ≤ k.2) {k4 : Nat → Int32 → Int32 → im_W → Option im_W} {k17 : Nat → Int32 → Int32 → Int32 → Int32 → im_W → Option im_W} {x1 x2 : Int32} {best : Option Nat} (hb : ∀ j, best = some j → j < ks.length) {i : Nat} (hi : i < ks.length) (may : Bool) : sh_Model_makeKeywords_72 F k4 k17 248 x1 x2 (pm_o best) (nI i) (pb_b may) (pu_mk σ) = if may = true ∧ (∀ j, best = some j → pm_lt ((ks.map (pm_kk ty)).getD i []) ((ks.map (pm_kk ty)).getD j []) = true) then k17 248 x1 x2 (pm_o (some i)) (nI (i + 1)) (pu_mk σ) else k17 248 x1 x2 (pm_o best) (nI (i + 1)) (pu_mk σ) := by
  obtain ⟨v1, v2, v3, v4⟩ := hv
  unfold sh_Model_makeKeywords_72 sh_Model_makeKeywords_120 sh_Model_makeKeywords_123
  rw [nI_1]
  cases may with
  | false =>
    rw [if_pos (show pb_b false = 0 from rfl), if_neg (fun z => by cases z.1)]
  | true =>
    rw [if_neg (show ¬ pb_b true = 0 by decide)]
    cases best with
    | none =>
      rw [if_pos (show pm_o none < 0 by decide), if_pos ⟨rfl, fun j hj => by cases hj⟩]
      rfl
    | some j =>
      have hj := hb j rfl
      obtain ⟨a1, a2⟩ := v2 i hi
      obtain ⟨b1, b2⟩ := v2 j hj
      have m1 := v4 _ (pb_getG pm_0p hi)
      have m2 := v4 _ (pb_getG pm_0p hj)
      have n1 := h2 _ (pb_getG pm_0p hi)
      have n2 := h2 _ (pb_getG pm_0p hj)
      have key := pm_before (F := F) hp hF (show (ks.getD i pm_0p).1 ≤ (ks.getD i pm_0p).1 + 2 by omega) (by omega) (show (ks.getD j pm_0p).1 ≤ (ks.getD j pm_0p).1 + 2 by omega) (by omega)
      rw [if_neg (pm_o_neg (by omega)), pm_9, Option.bind_some, pm_l252 σ (show i < 32 by omega), Option.bind_some, Option.bind_some, pm_l252 σ (show i < 32 by omega), Option.bind_some, Option.bind_some, show pm_o (some j) = nI j from rfl, pm_l252 σ (show j < 32 by omega), Option.bind_some, Option.bind_some, pm_l252 σ (show j < 32 by omega), Option.bind_some, pm_i, Option.bind_some, a1, b1, pm_n2, pm_n2, key, im_b2_s, pm_kkget ty ks hi]
      cases hlt : pm_lt ((pm_seg ty (ks.getD i pm_0p).1 ((ks.getD i pm_0p).1 + 2)).map pt_low) ((pm_seg ty (ks.getD j pm_0p).1 ((ks.getD j pm_0p).1 + 2)).map pt_low) with
      | false =>
        rw [if_pos (show pb_b false = 0 from rfl), if_neg]
        rintro ⟨-, z⟩
        have := z j rfl
        rw [pm_kkget ty ks hj, hlt] at this
        cases this
      | true =>
        rw [if_neg (show ¬ pb_b true = 0 by decide), if_pos]
        · rfl
        · refine ⟨rfl, fun k hk => ?_⟩
          cases hk
          rw [pm_kkget ty ks hj, hlt]
theorem pm_mk17 (hp : pm_ty σ ty) (hF : 62 ≤ F) (hv : pm_pl σ ty 8 252 253 ks) (h2 : ∀ k ∈ ks, k.1 + 2 ≤ k.2) {k4 : Nat → Int32 → Int32 → im_W → Option im_W} {x2 : Int32} {last : Option Nat} (hla : ∀ j, last = some j → j < ks.length) : ∀ (n f i : Nat) (best : Option Nat), i + n = ks.length → n + 1 ≤ f → (∀ j, best = some j → j < ks.length) → sh_Model_makeKeywords_17 F k4 f 248 (pm_o last) x2 (pm_o best) (nI i) (pu_mk σ) = sh_Model_makeKeywords_17 F k4 1 248 (pm_o last) x2 (pm_o (pm_lw (ks.map (pm_kk ty)) last ((ks.map (pm_kk ty)).drop i) i best)) (nI ks.length) (pu_mk σ) := by
  have v3 := hv.2.2.1
  intro n
  induction n with
  | zero =>
    intro f i best hi hf hb
    obtain ⟨g, rfl⟩ : ∃ g, f = g + 1 := ⟨f - 1, by omega⟩
    have hi' : i = ks.length := by omega
    subst hi'
    rw [List.drop_eq_nil_of_le (by simp), pm_lw, sh_Model_makeKeywords_17, sh_Model_makeKeywords_17, pm_8, Option.bind_some, Option.bind_some, hv.1, if_pos (nI_le (Nat.le_refl _) (by omega)), if_pos (nI_le (Nat.le_refl _) (by omega))]
  | succ n ih =>
    intro f i best hi hf hb
    obtain ⟨g, rfl⟩ : ∃ g, f = g + 1 := ⟨f - 1, by omega⟩
    have hil : i < ks.length := by omega
    have step : ∀ may : Bool, (may = true ↔ ∀ j, last = some j → pm_lt ((ks.map (pm_kk ty)).getD j []) ((ks.map (pm_kk ty)).getD i []) = true) → sh_Model_makeKeywords_72 F k4 (sh_Model_makeKeywords_17 F k4 g) 248 (pm_o last) x2 (pm_o best) (nI i) (pb_b may) (pu_mk σ) = sh_Model_makeKeywords_17 F k4 1 248 (pm_o last) x2 (pm_o (pm_lw (ks.map (pm_kk ty)) last ((ks.map (pm_kk ty)).drop i) i best)) (nI ks.length) (pu_mk σ) := by
      intro may hm
      rw [pm_mk72 hp hF hv h2 hb hil may, pb_dropG [] (show i < (ks.map (pm_kk ty)).length by simp; omega), pm_lw]
      by_cases hc : may = true ∧ ∀ j, best = some j → pm_lt ((ks.map (pm_kk ty)).getD i []) ((ks.map (pm_kk ty)).getD j []) = true
      · rw [if_pos hc, if_pos ⟨hm.mp hc.1, hc.2⟩]
        exact ih g (i + 1) (some i) (by omega) (by omega) (fun j hj => by cases hj; exact hil)
      · rw [if_neg hc, if_neg (fun z => hc ⟨hm.mpr z.1, z.2⟩)]
        exact ih g (i + 1) best (by omega) (by omega) hb
    rw [show sh_Model_makeKeywords_17 F k4 (g + 1) 248 (pm_o last) x2 (pm_o best) (nI i) (pu_mk σ) = sh_Model_makeKeywords_72 F k4 (sh_Model_makeKeywords_17 F k4 g) 248 (pm_o last) x2 (pm_o best) (nI i) (pb_b (match last with
      | none => true
      | some j => pm_lt ((ks.map (pm_kk ty)).getD j []) ((ks.map (pm_kk ty)).getD i []))) (pu_mk σ) from ?_]
    · refine step _ ?_
      cases last with
      | none => exact ⟨fun _ j hj => (by cases hj), fun _ => rfl⟩
      | some j => exact ⟨fun z k hk => by cases hk; exact z, fun z => z j rfl⟩
    · rw [sh_Model_makeKeywords_17, pm_8, Option.bind_some, hv.1, if_neg (show ¬ nI ks.length ≤ nI i from fun z => by rw [nI_leI (by omega) (by omega)] at z; omega)]
      unfold sh_Model_makeKeywords_67
      cases last with
      | none => rw [if_pos (show pm_o none < 0 by decide)]; rfl
      | some j =>
        have hj := hla j rfl
        obtain ⟨a1, a2⟩ := hv.2.1 i hil
        obtain ⟨b1, b2⟩ := hv.2.1 j hj
        have m1 := hv.2.2.2 _ (pb_getG pm_0p hil)
        have m2 := hv.2.2.2 _ (pb_getG pm_0p hj)
        have n1 := h2 _ (pb_getG pm_0p hil)
        have n2 := h2 _ (pb_getG pm_0p hj)
        have key := pm_before (F := F) hp hF (show (ks.getD j pm_0p).1 ≤ (ks.getD j pm_0p).1 + 2 by omega) (by omega) (show (ks.getD i pm_0p).1 ≤ (ks.getD i pm_0p).1 + 2 by omega) (by omega)
        rw [if_neg (pm_o_neg (by omega)), show pm_o (some j) = nI j from rfl, pm_9, Option.bind_some, pm_l252 σ (show j < 32 by omega), Option.bind_some, Option.bind_some, pm_l252 σ (show j < 32 by omega), Option.bind_some, Option.bind_some, pm_l252 σ (show i < 32 by omega), Option.bind_some, Option.bind_some, pm_l252 σ (show i < 32 by omega), Option.bind_some, pm_i, Option.bind_some, a1, b1, pm_n2, pm_n2, key, im_b2_s]
        show _ = sh_Model_makeKeywords_72 F k4 (sh_Model_makeKeywords_17 F k4 g) 248 (nI j) x2 (pm_o best) (nI i) (pb_b (pm_lt ((ks.map (pm_kk ty)).getD j []) ((ks.map (pm_kk ty)).getD i []))) (pu_mk σ)
        rw [pm_kkget ty ks hil, pm_kkget ty ks hj]
        cases hlt : pm_lt ((pm_seg ty (ks.getD j pm_0p).1 ((ks.getD j pm_0p).1 + 2)).map pt_low) ((pm_seg ty (ks.getD i pm_0p).1 ((ks.getD i pm_0p).1 + 2)).map pt_low) with
        | false => rw [if_pos (show pb_b false = 0 from rfl)]; rfl
        | true => rw [if_neg (show ¬ pb_b true = 0 by decide)]; rfl
end MMK
