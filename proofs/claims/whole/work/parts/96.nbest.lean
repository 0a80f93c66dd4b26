/-! the model: best, put, goOn, get -/
section MBG
variable {F : Nat} {σ τ : pu_S} {ty sh : List Nat} {al : List pa_E} {lk pa : List pp_E} {tg : List pg_E} {su : List Nat} {pl : Int32}
theorem pm_best8 (hF : 100 ≤ F) (hg : pp_gd lk) (htg : ∀ e ∈ tg, pg_gd e) {t : Nat} (ht : t < tg.length) (hsu : ∀ s ∈ su, s < tg.length) : ∀ (l : List Nat) (f i least : Nat) (near : Int32) (σ : pu_S), su.drop i = l → i + l.length = su.length → l.length + 1 ≤ f → least ≤ 1000 → rm_is σ ty sh al lk pa tg su pl → ∃ τ, sh_Model_best_8 F f 248 (nI t) near (nI least) (nI i) (pu_mk σ) = some (pk_best lk tg t l near least, pu_mk τ) ∧ rm_is τ ty sh al lk pa tg su pl ∧ pu_fr (fun x => 248 ≤ x) σ τ := by
  intro l
  induction l with
  | nil =>
    intro f i least near σ hd hi hf hle R
    obtain ⟨g, rfl⟩ : ∃ g, f = g + 1 := ⟨f - 1, by omega⟩
    have S := R.2.2.2.2.2.2.1
    have s16 := S.2.2.1
    have hi' : i = su.length := by simpa using hi
    unfold sh_Model_best_8 sh_Model_best_76
    rw [pm_39, Option.bind_some, S.1, hi', if_pos (nI_le (Nat.le_refl _) (by omega))]
    exact ⟨σ, rfl, R, pu_fr.rf⟩
  | cons s l ih =>
    intro f i least near σ hd hi hf hle R
    obtain ⟨g, rfl⟩ : ∃ g, f = g + 1 := ⟨f - 1, by omega⟩
    rw [List.length_cons] at hi hf
    have S := R.2.2.2.2.2.2.1
    have s16 := S.2.2.1
    have hil : i < su.length := by omega
    rw [pb_dropG 0 hil] at hd
    obtain ⟨hs, hd'⟩ := List.cons.inj hd
    have hx := R.2.2.2.2.2.1.1
    have h16 : tg.length ≤ 16 := by
      have := hx.2.1
      rw [List.length_map] at this
      exact this
    have hsl : s < tg.length := hsu s (by rw [← hs]; exact pb_getG 0 hil)
    have at1 : im_lI (pu_mk σ) 0 273 (nI i) = some (nI s) := by rw [pm_l273 σ (by omega), S.2.1 i hil, hs]
    have tt : pk_t tg (nI t) = true := by
      unfold pk_t
      rw [nI_clamp (by omega)]
      exact decide_eq_true ⟨nI_pos (by omega), ht⟩
    have ts : pk_t tg (nI s) = true := by
      unfold pk_t
      rw [nI_clamp (by omega)]
      exact decide_eq_true ⟨nI_pos (by omega), hsl⟩
    obtain ⟨τ, e1, R1, y1⟩ := pm_distance hF R hg htg (nI t) (nI s)
    rw [if_pos ⟨tt, ts⟩, nI_clamp (show t < 2 ^ 31 by omega), nI_clamp (show s < 2 ^ 31 by omega)] at e1
    have ed : pk_dist lk tg t s = pk_dist lk tg s t := by
      unfold pk_dist
      rw [pc_far_c]
    rw [ed] at e1
    have hd125 : pk_dist lk tg s t ≤ 125 := pc_far_le _ _
    have S1 := R1.2.2.2.2.2.2.1
    have at2 : im_lI (pu_mk τ) 0 273 (nI i) = some (nI s) := by rw [pm_l273 τ (by omega), S1.2.1 i hil, hs]
    have c : nI least ≤ nI (pk_dist lk tg s t) ↔ least ≤ pk_dist lk tg s t := nI_leI (by omega) (by omega)
    rw [sh_Model_best_8, pm_39, Option.bind_some, S.1, if_neg (show ¬ nI su.length ≤ nI i from fun z => by rw [nI_leI (by omega) (by omega)] at z; omega), pm_i, Option.bind_some, pm_none' hx, tt, im_b2_s, if_pos (show pb_b (!true) = 0 from rfl), pm_40, Option.bind_some, at1, Option.bind_some, pm_i, Option.bind_some, e1, im_b2_s, pk_best]
    unfold sh_Model_best_56 sh_Model_best_69
    rw [nI_1]
    by_cases h : pk_dist lk tg s t < least
    · obtain ⟨ρ, e2, R2, y2⟩ := ih g (i + 1) (pk_dist lk tg s t) (nI s) τ hd' (by omega) (by omega) (by omega) R1
      rw [if_neg (fun z => by have := c.mp z; omega), pm_40, Option.bind_some, at2, Option.bind_some, if_neg (fun z => by have := c.mp z; omega), if_pos h]
      exact ⟨ρ, e2, R2, y1.tr y2⟩
    · obtain ⟨ρ, e2, R2, y2⟩ := ih g (i + 1) least near τ hd' (by omega) (by omega) hle R1
      rw [if_pos (c.mpr (by omega)), if_pos (c.mpr (by omega)), if_neg h]
      exact ⟨ρ, e2, R2, y1.tr y2⟩
theorem pm_best (hF : 100 ≤ F) (R : rm_is σ ty sh al lk pa tg su pl) (hg : pp_gd lk) (htg : ∀ e ∈ tg, pg_gd e) (hsu : ∀ s ∈ su, s < tg.length) (x : Int32) : ∃ τ, sh_Model_best F 248 x (pu_mk σ) = some (if pk_t tg x = true then pk_best lk tg x.toNatClampNeg su (-1) 50 else -1, pu_mk τ) ∧ rm_is τ ty sh al lk pa tg su pl ∧ pu_fr (fun x => 248 ≤ x) σ τ := by
  have hx := R.2.2.2.2.2.1.1
  have S := R.2.2.2.2.2.2.1
  have s16 := S.2.2.1
  have h16 : tg.length ≤ 16 := by
    have := hx.2.1
    rw [List.length_map] at this
    exact this
  unfold sh_Model_best
  cases ht : pk_t tg x with
  | false =>
    rw [if_neg (by decide)]
    refine ⟨σ, ?_, R, pu_fr.rf⟩
    obtain ⟨g, rfl⟩ : ∃ g, F = g + 1 := ⟨F - 1, by omega⟩
    rw [sh_Model_best_8, pm_39, Option.bind_some, S.1]
    unfold sh_Model_best_76
    split
    · rfl
    · rw [pm_i, Option.bind_some, pm_none' hx x, ht, im_b2_s, if_neg (show ¬ pb_b (!false) = 0 by decide)]
  | true =>
    obtain ⟨t, htl, rfl⟩ := pk_t_s ht
    rw [if_pos rfl, nI_clamp (show t < 2 ^ 31 by omega)]
    have := pm_best8 (F := F) (ty := ty) (sh := sh) (al := al) (pa := pa) (pl := pl) hF hg htg htl hsu su F 0 50 (-1) σ rfl (by omega) (by omega) (by decide) R
    rw [nI_0] at this
    exact this
theorem pm_put (R : rm_is σ ty sh al lk pa tg su pl) (x y v : Int32) : ∃ τ, sh_Model_put F 248 x y v (pu_mk σ) = some (pb_b (pk_t tg x && pk_k y), pu_mk τ) ∧ rm_is τ ty sh al lk pa (if pk_t tg x = true ∧ pk_k y = true then tg.set x.toNatClampNeg (pk_up (tg.getD x.toNatClampNeg pg_0) y.toNatClampNeg v) else tg) su pl ∧ pu_fr (fun x => 248 ≤ x) σ τ := by
  have hx := R.2.2.2.2.2.1.1
  have h16 : tg.length ≤ 16 := by
    have := hx.2.1
    rw [List.length_map] at this
    exact this
  unfold sh_Model_put sh_Model_put_18
  rw [pm_i, Option.bind_some, pm_none' hx x, im_b2_s]
  cases ht : pk_t tg x with
  | false =>
    rw [if_neg (show ¬ pb_b (!false) = 0 by decide), pb_rz0, if_neg (fun z => by cases z.1)]
    exact ⟨σ, rfl, R, pu_fr.rf⟩
  | true =>
    rw [if_pos (show pb_b (!true) = 0 from rfl)]
    cases hk : pk_k y with
    | false =>
      rw [if_neg (show ¬ (true = true ∧ false = true) from fun z => by cases z.2)]
      have : (if y < 0 then im_rz (0 : Int32) (pu_mk σ) else if y ≤ (7 : Int32) then (im_gR (pu_mk σ) 9 248 37).bind fun f8 => (im_sI (pu_mk σ) 0 f8 (((8 : Int32) * x) + y) v).bind fun w10 => (im_gR w10 9 248 38).bind fun f12 => (im_sI w10 3 f12 (((8 : Int32) * x) + y) (vp_nar .boolean (1 : Int32))).bind fun w14 => im_rz (1 : Int32) w14 else im_rz (0 : Int32) (pu_mk σ)) = some (pb_b false, pu_mk σ) := by
        by_cases h0 : y < 0
        · rw [if_pos h0, pb_rz0]; rfl
        · by_cases h7 : y ≤ 7
          · obtain ⟨j, hj, rfl⟩ := nI_of2 (M := 7) (n := 7) (by decide) h0 h7
            unfold pk_k at hk
            rw [nI_clamp (by omega)] at hk
            have := of_decide_eq_false hk
            exact absurd ⟨h0, by omega⟩ this
          · rw [if_neg h0, if_neg h7, pb_rz0]; rfl
      rw [this]
      exact ⟨σ, rfl, R, pu_fr.rf⟩
    | true =>
      obtain ⟨t, htl, rfl⟩ := pk_t_s ht
      obtain ⟨k, hkl, rfl⟩ := pk_k_s hk
      rw [if_pos (show true = true ∧ true = true from ⟨rfl, rfl⟩), nI_clamp (show t < 2 ^ 31 by omega), nI_clamp (show k < 2 ^ 31 by omega)]
      have ix : (8 : Int32) * nI t + nI k = nI (8 * t + k) := by
        rw [show (8 : Int32) * nI t = nI (8 * t) from pn_mul 8 t, nI_add]
      have n1 : vp_nar .boolean (1 : Int32) = 1 := pb_nar true
      rw [if_neg (nI_pos (show k < 2 ^ 31 by omega)), if_pos (show nI k ≤ (7 : Int32) from nI_le (b := 7) (by omega) (by decide)), ix, pm_37, Option.bind_some, pm_t271 σ v (show 8 * t + k < 128 by omega), Option.bind_some, pm_38, Option.bind_some, n1, pm_t272 _ _ (show 8 * t + k < 128 by omega), Option.bind_some, pb_rz1]
      have f : pm_fr (fun x => 271 ≤ x ∧ x ≤ 272) (fun _ => False) σ (pu_sA (pu_sA σ 271 (8 * t + k) v) 272 (8 * t + k) 1) := ((pm_fr.rf (S := fun x => 271 ≤ x ∧ x ≤ 272) (T := fun _ => False)).aA (x := 271) (by decide) _ _).aA (x := 272) (by decide) _ _
      refine ⟨_, rfl, ?_, pm_frX_hi f (fun x h => by omega)⟩
      obtain ⟨a, b, c, d, e, ⟨f1, f2, f3⟩, g, i⟩ := R
      have hmap : (tg.set t (pk_up (tg.getD t pg_0) k v)).map pm_txt = tg.map pm_txt := by
        rw [List.map_set]
        have : pm_txt (pk_up (tg.getD t pg_0) k v) = (tg.map pm_txt).getD t [] := by
          rw [pm_txt_get htl]
          rfl
        rw [this]
        apply List.ext_getElem?
        intro j
        rw [List.getElem?_set]
        split
        · rename_i hj
          subst hj
          rw [List.getD_eq_getElem?_getD]
          have hl : t < (tg.map pm_txt).length := by rw [List.length_map]; exact htl
          rw [if_pos hl, List.getElem?_eq_getElem hl]
          rfl
        · rfl
      refine ⟨a.fr f (by decide) (fun z => z), b.fr f (by decide) (fun z => z), c.fr f (fun z => z) (fun x _ _ z => by omega), d.fr f (fun x _ _ z => by omega), e.fr f (fun x _ _ z => by omega), ⟨?_, ?_, ?_⟩, g.fr f (by decide) (fun z => z), (f.2 43 (fun z => z)).trans i⟩
      · rw [hmap]
        exact f1.fr f (fun z => z) (by decide) (by decide)
      · intro j hj
        rw [List.length_set] at hj
        have := (f2.fr f (fun x _ _ z => by omega)) j hj
        rw [pb_setG htl]
        by_cases hjt : j = t
        · subst hjt
          rw [if_pos rfl]
          exact this
        · rw [if_neg hjt]
          exact this
      · intro j m hj hm
        have o := f3 j m hj hm
        rw [pb_setG htl]
        by_cases hjt : j = t
        · subst hjt
          rw [if_pos rfl]
          by_cases hmk : m = k
          · subst hmk
            constructor
            · simp [pu_sA, pk_up, pb_b]
            · intro v' hv'
              simp [pk_up] at hv'
              simp [pu_sA, hv']
          · have hne : ¬ 8 * j + m = 8 * j + k := by omega
            constructor
            · simp [pu_sA, pk_up, hmk]
              exact o.1
            · intro v' hv'
              simp [pk_up, hmk] at hv'
              simp [pu_sA, hmk]
              exact o.2 v' hv'
        · rw [if_neg hjt]
          have hne : ¬ 8 * j + m = 8 * t + k := by omega
          constructor
          · simp [pu_sA, hne]
            simpa using o.1
          · intro v' hv'
            simp [pu_sA, hne]
            exact o.2 v' hv'
end MBG
