/-! the model: choosing a variant -/
def pm_vk (ty : List Nat) (v : Nat × Nat) : List Nat := (pm_seg ty v.1 v.2).map pt_low
theorem pm_vkget (ty : List Nat) (vs : List (Nat × Nat)) {j : Nat} (hj : j < vs.length) : (vs.map (pm_vk ty)).getD j [] = (pm_seg ty (vs.getD j pm_0p).1 (vs.getD j pm_0p).2).map pt_low := by
  rw [List.getD_eq_getElem?_getD, List.getD_eq_getElem?_getD, List.getElem?_map, List.getElem?_eq_getElem hj]
  rfl
theorem pm_o_neg {j : Nat} (hj : j < 2 ^ 31) : ¬ pm_o (some j) < 0 := nI_pos hj
section MMF
variable {F : Nat} {σ : pu_S} {ty : List Nat} {vs : List (Nat × Nat)}
theorem pm_mf84 (hp : pm_ty σ ty) (hF : 62 ≤ F) (hv : pm_pl σ ty 5 250 251 vs) {k20 : Nat → Int32 → Int32 → im_W → Option im_W} {k33 : Nat → Int32 → Int32 → Int32 → Int32 → im_W → Option im_W} {x1 x2 : Int32} {best : Option Nat} (hb : ∀ j, best = some j → j < vs.length) {i : Nat} (hi : i < vs.length) (may : Bool) : sh_Model_makeForm_84 F k20 k33 248 x1 x2 (pm_o best) (nI i) (pb_b may) (pu_mk σ) = if may = true ∧ (∀ j, best = some j → pm_lt ((vs.map (pm_vk ty)).getD i []) ((vs.map (pm_vk ty)).getD j []) = true) then k33 248 x1 x2 (pm_o (some i)) (nI (i + 1)) (pu_mk σ) else k33 248 x1 x2 (pm_o best) (nI (i + 1)) (pu_mk σ) := by
  obtain ⟨v1, v2, v3, v4⟩ := hv
  unfold sh_Model_makeForm_84 sh_Model_makeForm_128 sh_Model_makeForm_131
  rw [nI_1]
  cases may with
  | false =>
    rw [if_pos (show pb_b false = 0 from rfl), if_neg (fun z => by cases z.1)]
  | true =>
    rw [if_neg (show ¬ pb_b true = 0 by decide)]
    cases best with
    | none =>
      rw [if_pos (show pm_o none < 0 by decide), if_pos ⟨rfl, fun j hj => by cases hj⟩]
      rfl
    | some j =>
      have hj := hb j rfl
      obtain ⟨a1, a2⟩ := v2 i hi
      obtain ⟨b1, b2⟩ := v2 j hj
      have m1 := v4 _ (pb_getG pm_0p hi)
      have m2 := v4 _ (pb_getG pm_0p hj)
      have key := pm_before (F := F) hp hF m1.1 m1.2 m2.1 m2.2
      rw [if_neg (pm_o_neg (by omega)), pm_6, Option.bind_some, pm_l250 σ (show i < 32 by omega), Option.bind_some, pm_7, Option.bind_some, pm_l251 σ (show i < 32 by omega), Option.bind_some]
      rw [Option.bind_some, show pm_o (some j) = nI j from rfl, pm_l250 σ (show j < 32 by omega), Option.bind_some, Option.bind_some, pm_l251 σ (show j < 32 by omega), Option.bind_some, pm_i, Option.bind_some, a1, a2, b1, b2, key, im_b2_s, pm_vkget ty vs hi]
      cases hlt : pm_lt ((pm_seg ty (vs.getD i pm_0p).1 (vs.getD i pm_0p).2).map pt_low) ((pm_seg ty (vs.getD j pm_0p).1 (vs.getD j pm_0p).2).map pt_low) with
      | false =>
        rw [if_pos (show pb_b false = 0 from rfl), if_neg]
        rintro ⟨-, z⟩
        have := z j rfl
        rw [pm_vkget ty vs hj, hlt] at this
        cases this
      | true =>
        rw [if_neg (show ¬ pb_b true = 0 by decide), if_pos]
        · rfl
        · refine ⟨rfl, fun k hk => ?_⟩
          cases hk
          rw [pm_vkget ty vs hj, hlt]
theorem pm_mf33 (hp : pm_ty σ ty) (hF : 62 ≤ F) (hv : pm_pl σ ty 5 250 251 vs) {k20 : Nat → Int32 → Int32 → im_W → Option im_W} {x2 : Int32} {last : Option Nat} (hla : ∀ j, last = some j → j < vs.length) : ∀ (n f i : Nat) (best : Option Nat), i + n = vs.length → n + 1 ≤ f → (∀ j, best = some j → j < vs.length) → sh_Model_makeForm_33 F k20 f 248 (pm_o last) x2 (pm_o best) (nI i) (pu_mk σ) = sh_Model_makeForm_33 F k20 1 248 (pm_o last) x2 (pm_o (pm_lw (vs.map (pm_vk ty)) last ((vs.map (pm_vk ty)).drop i) i best)) (nI vs.length) (pu_mk σ) := by
  have v3 := hv.2.2.1
  intro n
  induction n with
  | zero =>
    intro f i best hi hf hb
    obtain ⟨g, rfl⟩ : ∃ g, f = g + 1 := ⟨f - 1, by omega⟩
    have hi' : i = vs.length := by omega
    subst hi'
    rw [List.drop_eq_nil_of_le (by simp), pm_lw, sh_Model_makeForm_33, sh_Model_makeForm_33, pm_5, Option.bind_some, Option.bind_some, hv.1, if_pos (nI_le (Nat.le_refl _) (by omega)), if_pos (nI_le (Nat.le_refl _) (by omega))]
  | succ n ih =>
    intro f i best hi hf hb
    obtain ⟨g, rfl⟩ : ∃ g, f = g + 1 := ⟨f - 1, by omega⟩
    have hil : i < vs.length := by omega
    have step : ∀ may : Bool, (may = true ↔ ∀ j, last = some j → pm_lt ((vs.map (pm_vk ty)).getD j []) ((vs.map (pm_vk ty)).getD i []) = true) → sh_Model_makeForm_84 F k20 (sh_Model_makeForm_33 F k20 g) 248 (pm_o last) x2 (pm_o best) (nI i) (pb_b may) (pu_mk σ) = sh_Model_makeForm_33 F k20 1 248 (pm_o last) x2 (pm_o (pm_lw (vs.map (pm_vk ty)) last ((vs.map (pm_vk ty)).drop i) i best)) (nI vs.length) (pu_mk σ) := by
      intro may hm
      rw [pm_mf84 hp hF hv hb hil may, pb_dropG [] (show i < (vs.map (pm_vk ty)).length by simp; omega), pm_lw]
      by_cases hc : may = true ∧ ∀ j, best = some j → pm_lt ((vs.map (pm_vk ty)).getD i []) ((vs.map (pm_vk ty)).getD j []) = true
      · rw [if_pos hc, if_pos ⟨hm.mp hc.1, hc.2⟩]
        exact ih g (i + 1) (some i) (by omega) (by omega) (fun j hj => by cases hj; exact hil)
      · rw [if_neg hc, if_neg (fun z => hc ⟨hm.mpr z.1, z.2⟩)]
        exact ih g (i + 1) best (by omega) (by omega) hb
    rw [show sh_Model_makeForm_33 F k20 (g + 1) 248 (pm_o last) x2 (pm_o best) (nI i) (pu_mk σ) = sh_Model_makeForm_84 F k20 (sh_Model_makeForm_33 F k20 g) 248 (pm_o last) x2 (pm_o best) (nI i) (pb_b (match last with
      | none => true
      | some j => pm_lt ((vs.map (pm_vk ty)).getD j []) ((vs.map (pm_vk ty)).getD i []))) (pu_mk σ) from ?_]
    · refine step _ ?_
      cases last with
      | none => exact ⟨fun _ j hj => (by cases hj), fun _ => rfl⟩
      | some j => exact ⟨fun z k hk => by cases hk; exact z, fun z => z j rfl⟩
    · rw [sh_Model_makeForm_33, pm_5, Option.bind_some, hv.1, if_neg (fun z => by rw [nI_leI (by omega) (by omega)] at z; omega)]
      unfold sh_Model_makeForm_79
      cases last with
      | none => rw [if_pos (show pm_o none < 0 by decide)]; rfl
      | some j =>
        have hj := hla j rfl
        obtain ⟨a1, a2⟩ := hv.2.1 i hil
        obtain ⟨b1, b2⟩ := hv.2.1 j hj
        have m1 := hv.2.2.2 _ (pb_getG pm_0p hil)
        have m2 := hv.2.2.2 _ (pb_getG pm_0p hj)
        have key := pm_before (F := F) hp hF m2.1 m2.2 m1.1 m1.2
        rw [if_neg (pm_o_neg (by omega)), show pm_o (some j) = nI j from rfl, pm_6, Option.bind_some, pm_l250 σ (show j < 32 by omega), Option.bind_some, pm_7, Option.bind_some, pm_l251 σ (show j < 32 by omega), Option.bind_some, Option.bind_some, pm_l250 σ (show i < 32 by omega), Option.bind_some, Option.bind_some, pm_l251 σ (show i < 32 by omega), Option.bind_some, pm_i, Option.bind_some, a1, a2, b1, b2, key, im_b2_s]
        show _ = sh_Model_makeForm_84 F k20 (sh_Model_makeForm_33 F k20 g) 248 (nI j) x2 (pm_o best) (nI i) (pb_b (pm_lt ((vs.map (pm_vk ty)).getD j []) ((vs.map (pm_vk ty)).getD i []))) (pu_mk σ)
        rw [pm_vkget ty vs hil, pm_vkget ty vs hj]
        cases hlt : pm_lt ((pm_seg ty (vs.getD j pm_0p).1 (vs.getD j pm_0p).2).map pt_low) ((pm_seg ty (vs.getD i pm_0p).1 (vs.getD i pm_0p).2).map pt_low) with
        | false => rw [if_pos (show pb_b false = 0 from rfl)]; rfl
        | true => rw [if_neg (show ¬ pb_b true = 0 by decide)]; rfl
end MMF
