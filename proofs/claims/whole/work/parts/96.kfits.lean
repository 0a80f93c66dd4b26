/-! the model: fits -/
def pf_pos (X : List Nat) (a : Nat) (qs : List (List Nat)) : Prop := (qs = [] ∧ a = X.length + 1) ∨ (¬ qs = [] ∧ a < X.length ∧ X.drop a = pf_text [] qs)
theorem pf_pos_next {X : List Nat} {a : Nat} {q : List Nat} {qs : List (List Nat)} (hc : pf_cl (q :: qs)) (h : pf_pos X a (q :: qs)) : a + q.length ≤ X.length ∧ (X.drop a).takeWhile (fun c => decide (¬ c = 45)) = q ∧ (∀ i, i < q.length → X.getD (a + i) 0 = q.getD i 0) ∧ pf_pos X (a + q.length + 1) qs := by
  rcases h with ⟨h, -⟩ | ⟨-, ha, h⟩
  · cases h
  · have hq := hc q List.mem_cons_self
    rw [pf_text_c q qs hq.1] at h
    have hlen : X.length - a = q.length + (pq_fl qs).length := by
      have := congrArg List.length h
      rw [List.length_drop, List.length_append] at this
      exact this
    refine ⟨by omega, by rw [h, pf_tw (pf_ok1_45 hq)], fun i hi => ?_, ?_⟩
    · have e1 : (X.drop a).getD i 0 = X.getD (a + i) 0 := by
        rw [List.getD_eq_getElem?_getD, List.getD_eq_getElem?_getD, List.getElem?_drop]
      rw [← e1, h, List.getD_eq_getElem?_getD, List.getElem?_append_left hi, ← List.getD_eq_getElem?_getD]
    · cases qs with
      | nil =>
        left
        have : (pq_fl []).length = 0 := rfl
        exact ⟨rfl, by omega⟩
      | cons r rs =>
        right
        have hr := hc r (List.mem_cons_of_mem _ List.mem_cons_self)
        have hrl : 1 ≤ r.length := by
          cases r with
          | nil => exact absurd rfl hr.1
          | cons c l => simp
        rw [pq_fl_cons] at h hlen
        rw [List.length_cons, List.length_append] at hlen
        refine ⟨by simp, by omega, ?_⟩
        rw [pf_text_c r rs hr.1]
        have e := congrArg (List.drop (q.length + 1)) h
        rw [List.drop_drop, List.drop_append] at e
        rw [show a + q.length + 1 = a + (q.length + 1) by omega, e]
        simp
theorem pf_pos0 {ps : List (List Nat)} (hc : pf_cl ps) (hne : ¬ ps = []) : pf_pos (pf_text [] ps) 0 ps := by
  right
  refine ⟨hne, ?_, by simp⟩
  have := pq_text_ne (fun p hp => (hc p hp).1) hne
  cases h : pf_text [] ps with
  | nil => exact absurd h this
  | cons c l => simp
section MFT
variable {F : Nat} {σ τ : pu_S} {ty sh : List Nat} {al : List pa_E} {lk pa : List pp_E} {tg : List pg_E} {su : List Nat} {pl : Int32}
theorem pm_fs_len (hx : pm_fs σ (tg.map pm_txt)) {t : Nat} (ht : t < tg.length) : im_lI (pu_mk σ) 0 267 (nI t) = some (nI (pm_txt (tg.getD t pg_0)).length) := by
  have h16 := hx.2.1
  rw [List.length_map] at h16
  have htl : t < (tg.map pm_txt).length := by rw [List.length_map]; exact ht
  have := (hx.2.2.1 t htl).1
  rw [pm_txt_get ht] at this
  rw [pm_l267 σ (by omega), this]
theorem pm_fs_ch (hx : pm_fs σ (tg.map pm_txt)) {t : Nat} (ht : t < tg.length) {i : Nat} (hi : i < (pm_txt (tg.getD t pg_0)).length) : im_lI (pu_mk σ) 2 266 (nI (80 * t + i)) = some (nI ((pm_txt (tg.getD t pg_0)).getD i 0)) := by
  have htl : t < (tg.map pm_txt).length := by rw [List.length_map]; exact ht
  have := pm_fs_get hx htl (i := i) (by rw [pm_txt_get ht]; exact hi)
  rw [pm_txt_get ht] at this
  exact this
theorem pm_fs_row (hx : pm_fs σ (tg.map pm_txt)) {t : Nat} (ht : t < tg.length) : (pm_txt (tg.getD t pg_0)).length ≤ 80 ∧ ∀ c ∈ pm_txt (tg.getD t pg_0), c < 128 := by
  have htl : t < (tg.map pm_txt).length := by rw [List.length_map]; exact ht
  have := hx.2.2.2 _ (pb_getG [] htl)
  rw [pm_txt_get ht] at this
  exact this
theorem pm_80 (t i : Nat) : (80 : Int32) * nI t + nI i = nI (80 * t + i) := by
  rw [show (80 : Int32) * nI t = nI (80 * t) from pn_mul 80 t, nI_add]
theorem pm_send (hx : pm_fs σ (tg.map pm_txt)) {t : Nat} (ht : t < tg.length) : ∀ (n f i : Nat), i + n = (pm_txt (tg.getD t pg_0)).length → n + 1 ≤ f → sh_Model_subtagEnd_2 F f 248 (nI t) (nI i) (pu_mk σ) = some (nI (i + (((pm_txt (tg.getD t pg_0)).drop i).takeWhile (fun c => decide (¬ c = 45))).length), pu_mk σ) := by
  obtain ⟨h80, h128⟩ := pm_fs_row hx ht
  have hlen := pm_fs_len hx ht
  have hch := fun i hi => pm_fs_ch hx ht (i := i) hi
  generalize hX : pm_txt (tg.getD t pg_0) = X at *
  intro n
  induction n with
  | zero =>
    intro f i hi hf
    obtain ⟨g, rfl⟩ : ∃ g, f = g + 1 := ⟨f - 1, by omega⟩
    have hi' : i = X.length := by omega
    subst hi'
    unfold sh_Model_subtagEnd_2 sh_Model_subtagEnd_34
    rw [pm_33, Option.bind_some, hlen, Option.bind_some, if_pos (nI_le (Nat.le_refl _) (by omega)), List.drop_length]
    rfl
  | succ n ih =>
    intro f i hi hf
    obtain ⟨g, rfl⟩ : ∃ g, f = g + 1 := ⟨f - 1, by omega⟩
    have hil : i < X.length := by omega
    have c45 : nI (X.getD i 0) = (45 : Int32) ↔ X.getD i 0 = 45 := nI_eq (b := 45) (by have := pm_tylt h128 i; omega) (by decide)
    rw [sh_Model_subtagEnd_2, pm_33, Option.bind_some, hlen, Option.bind_some, if_neg (show ¬ nI X.length ≤ nI i from fun z => by rw [nI_leI (by omega) (by omega)] at z; omega), pm_32, Option.bind_some, pm_80, hch i hil, Option.bind_some, pb_drop hil, List.takeWhile_cons]
    unfold sh_Model_subtagEnd_34
    by_cases h : X.getD i 0 = 45
    · rw [if_pos (c45.mpr h), if_neg (by simpa using h)]
      rfl
    · rw [if_neg (fun z => h (c45.mp z)), if_pos (by simpa using h), nI_1, ih g (i + 1) (by omega) (by omega), List.length_cons]
      congr 3
      omega
theorem pm_sendA (hF : 100 ≤ F) (hx : pm_fs σ (tg.map pm_txt)) {t : Nat} (ht : t < tg.length) {a : Nat} {q : List Nat} {qs : List (List Nat)} (hc : pf_cl (q :: qs)) (h : pf_pos (pm_txt (tg.getD t pg_0)) a (q :: qs)) : sh_Model_subtagEnd F 248 (nI t) (nI a) (pu_mk σ) = some (nI (a + q.length), pu_mk σ) := by
  obtain ⟨h80, h128⟩ := pm_fs_row hx ht
  obtain ⟨n1, n2, n3, n4⟩ := pf_pos_next hc h
  have := pm_send (F := F) hx ht ((pm_txt (tg.getD t pg_0)).length - a) F a (by omega) (by omega)
  unfold sh_Model_subtagEnd
  rw [this, n2]
theorem pm_ft114 (hx : pm_fs σ (tg.map pm_txt)) {x y : Nat} (hxl : x < tg.length) (hyl : y < tg.length) {k52 : Nat → Int32 → Int32 → Int32 → Int32 → im_W → Option (Int32 × im_W)} {a b : Nat} {p q : List Nat} (hl : q.length = p.length) (ha : a + q.length ≤ (pm_txt (tg.getD x pg_0)).length) (hb : b + p.length ≤ (pm_txt (tg.getD y pg_0)).length) (hq : ∀ i, i < q.length → (pm_txt (tg.getD x pg_0)).getD (a + i) 0 = q.getD i 0) (hp : ∀ i, i < p.length → (pm_txt (tg.getD y pg_0)).getD (b + i) 0 = p.getD i 0) : ∀ (n f i : Nat) (acc : Bool), i + n = q.length → n + 1 ≤ f → sh_Model_fits_114 F k52 f 248 (nI x) (nI y) (nI a) (nI b) (nI (a + q.length)) (nI (b + p.length)) (pb_b acc) (nI i) (pu_mk σ) = sh_Model_fits_181 F k52 248 (nI x) (nI y) (nI a) (nI b) (nI (a + q.length)) (nI (b + p.length)) (pb_b (acc && decide ((q.drop i).map pt_low = (p.drop i).map pt_low))) (pu_mk σ) := by
  obtain ⟨hx80, hx128⟩ := pm_fs_row hx hxl
  obtain ⟨hy80, hy128⟩ := pm_fs_row hx hyl
  have esub : nI (a + q.length) - nI a = nI q.length := by
    rw [pn_sub (by omega)]
    congr 1
    omega
  intro n
  induction n with
  | zero =>
    intro f i acc hi hf
    obtain ⟨g, rfl⟩ : ∃ g, f = g + 1 := ⟨f - 1, by omega⟩
    have hi' : i = q.length := by omega
    subst hi'
    rw [sh_Model_fits_114, esub, if_pos (nI_le (Nat.le_refl _) (by omega)), List.drop_length, hl, List.drop_length]
    simp
  | succ n ih =>
    intro f i acc hi hf
    obtain ⟨g, rfl⟩ : ∃ g, f = g + 1 := ⟨f - 1, by omega⟩
    have hiq : i < q.length := by omega
    have hip : i < p.length := by omega
    rw [sh_Model_fits_114, esub, if_neg (show ¬ nI q.length ≤ nI i from fun z => by rw [nI_leI (by omega) (by omega)] at z; omega)]
    cases acc with
    | false => rw [if_pos (show pb_b false = 0 from rfl)]; rfl
    | true =>
      have c1 := pm_fs_ch hx hxl (i := a + i) (by omega)
      have c2 := pm_fs_ch hx hyl (i := b + i) (by omega)
      rw [hq i hiq] at c1
      rw [hp i hip] at c2
      have l1 : q.getD i 0 < 128 := by rw [← hq i hiq]; exact pm_tylt hx128 _
      have l2 : p.getD i 0 < 128 := by rw [← hp i hip]; exact pm_tylt hy128 _
      have ce : nI (pt_low (q.getD i 0)) = nI (pt_low (p.getD i 0)) ↔ pt_low (q.getD i 0) = pt_low (p.getD i 0) := nI_eq (by have := pm_low_lt l1; omega) (by have := pm_low_lt l2; omega)
      unfold sh_Model_fits_173
      rw [if_neg (show ¬ pb_b true = 0 by decide), pm_32, Option.bind_some, pm_80, nI_add, show 80 * x + a + i = 80 * x + (a + i) by omega, c1, Option.bind_some, pm_i, Option.bind_some, pm_small (by omega), im_b2_s, pm_32, Option.bind_some, pm_80, nI_add, show 80 * y + b + i = 80 * y + (b + i) by omega, c2, Option.bind_some, pm_i, Option.bind_some, pm_small (by omega), im_b2_s, nI_1, pb_drop hiq, pb_drop hip, List.map_cons, List.map_cons, pb_decC']
      by_cases he : pt_low (q.getD i 0) = pt_low (p.getD i 0)
      · have := ih g (i + 1) true (by omega) (by omega)
        rw [if_pos (ce.mpr he), decide_eq_true he]
        exact this
      · have := ih g (i + 1) false (by omega) (by omega)
        rw [if_neg (fun z => he (ce.mp z)), decide_eq_false he]
        exact this
theorem pf_eqL_c (p q : List Nat) : pf_eqL p q = pf_eqL q p := by
  unfold pf_eqL
  exact decide_eq_decide.mpr ⟨fun h => h.symm, fun h => h.symm⟩
theorem pm_ft52 (hF : 100 ≤ F) (hx : pm_fs σ (tg.map pm_txt)) {x y : Nat} (hxl : x < tg.length) (hyl : y < tg.length) : ∀ (ps : List (List Nat)) (f : Nat) (qs : List (List Nat)) (a b : Nat), ps.length + 1 ≤ f → pf_cl ps → pf_cl qs → pf_pos (pm_txt (tg.getD x pg_0)) a qs → pf_pos (pm_txt (tg.getD y pg_0)) b ps → sh_Model_fits_52 F f 248 (nI x) (nI y) (nI a) (nI b) (pu_mk σ) = some (pb_b (pf_scanL ps qs), pu_mk σ) := by
  obtain ⟨hx80, hx128⟩ := pm_fs_row hx hxl
  obtain ⟨hy80, hy128⟩ := pm_fs_row hx hyl
  have lx := pm_fs_len hx hxl
  have ly := pm_fs_len hx hyl
  intro ps
  induction ps with
  | nil =>
    intro f qs a b hf hps hqs ha hb
    obtain ⟨g, rfl⟩ : ∃ g, f = g + 1 := ⟨f - 1, by omega⟩
    rw [sh_Model_fits_52, pm_33, Option.bind_some, lx, Option.bind_some]
    cases qs with
    | nil =>
      rcases ha with ⟨-, ha⟩ | ⟨ha, -⟩
      · rw [ha, if_pos (nI_le (by omega) (by omega)), pb_rz1]; rfl
      · exact absurd rfl ha
    | cons q qs =>
      have n1 := (pf_pos_next hqs ha).1
      have hq1 : 1 ≤ q.length := by
        have := (hqs q List.mem_cons_self).1
        cases q with
        | nil => exact absurd rfl this
        | cons c l => simp
      rcases hb with ⟨-, hb⟩ | ⟨hb, -⟩
      · rw [if_neg (show ¬ nI (pm_txt (tg.getD x pg_0)).length ≤ nI a from fun z => by rw [nI_leI (by omega) (by omega)] at z; omega), Option.bind_some, ly, Option.bind_some, hb, if_neg (show ¬ nI ((pm_txt (tg.getD y pg_0)).length + 1) < nI (pm_txt (tg.getD y pg_0)).length from fun z => by rw [nI_ltI (by omega) (by omega)] at z; omega), pb_rz0]; rfl
      · exact absurd rfl hb
  | cons p ps ih =>
    intro f qs a b hf hps hqs ha hb
    obtain ⟨g, rfl⟩ : ∃ g, f = g + 1 := ⟨f - 1, by omega⟩
    rw [List.length_cons] at hf
    rw [sh_Model_fits_52, pm_33, Option.bind_some, lx, Option.bind_some]
    have hps' : pf_cl ps := fun z hz => hps z (List.mem_cons_of_mem _ hz)
    cases qs with
    | nil =>
      rcases ha with ⟨-, ha⟩ | ⟨ha, -⟩
      · rw [ha, if_pos (nI_le (by omega) (by omega)), pb_rz1]; rfl
      · exact absurd rfl ha
    | cons q qs =>
      have hqs' : pf_cl qs := fun z hz => hqs z (List.mem_cons_of_mem _ hz)
      obtain ⟨n1, n2, n3, n4⟩ := pf_pos_next hqs ha
      obtain ⟨m1, m2, m3, m4⟩ := pf_pos_next hps hb
      have hq1 : 1 ≤ q.length := by
        have := (hqs q List.mem_cons_self).1
        cases q with
        | nil => exact absurd rfl this
        | cons c l => simp
      have hp1 : 1 ≤ p.length := by
        have := (hps p List.mem_cons_self).1
        cases p with
        | nil => exact absurd rfl this
        | cons c l => simp
      have s1 := pm_sendA hF hx hxl hqs ha
      have s2 := pm_sendA hF hx hyl hps hb
      have d1 : nI (a + q.length) - nI a = nI q.length := by rw [pn_sub (by omega)]; congr 1; omega
      have d2 : nI (b + p.length) - nI b = nI p.length := by rw [pn_sub (by omega)]; congr 1; omega
      have cl : nI q.length = nI p.length ↔ q.length = p.length := nI_eq (by omega) (by omega)
      have c1 : nI p.length = (1 : Int32) ↔ p.length = 1 := nI_eq (b := 1) (by omega) (by decide)
      -- what follows a comparison
      have aft : ∀ is : Bool, is = pf_eqL p q → sh_Model_fits_181 F (sh_Model_fits_52 F g) 248 (nI x) (nI y) (nI a) (nI b) (nI (a + q.length)) (nI (b + p.length)) (pb_b is) (pu_mk σ) = some (pb_b (pf_scanL (p :: ps) (q :: qs)), pu_mk σ) := by
        intro is his
        unfold sh_Model_fits_181 sh_Model_fits_197 sh_Model_fits_210
        rw [pf_scanL, ← his, d2, nI_1, nI_1]
        cases is with
        | true =>
          rw [if_neg (show ¬ pb_b true = 0 by decide), if_neg (show ¬ pb_b true = 0 by decide), if_pos rfl]
          exact ih g qs _ _ (by omega) hps' hqs' n4 m4
        | false =>
          rw [if_neg (show ¬ false = true by decide)]
          by_cases h1 : p.length = 1
          · rw [if_pos (show pb_b false = 0 from rfl), if_pos (c1.mpr h1), if_pos h1, pb_rz0]; rfl
          · rw [if_pos (show pb_b false = 0 from rfl), if_neg (fun z => h1 (c1.mp z)), if_pos (show pb_b false = 0 from rfl), if_neg h1]
            exact ih g (q :: qs) _ _ (by omega) hps' hqs ha m4
      rw [if_neg (show ¬ nI (pm_txt (tg.getD x pg_0)).length ≤ nI a from fun z => by rw [nI_leI (by omega) (by omega)] at z; omega), Option.bind_some, ly, Option.bind_some, if_pos (show nI b < nI (pm_txt (tg.getD y pg_0)).length from nI_lt (by omega) (by omega)), pm_i, Option.bind_some, s1, im_b2_s, pm_i, Option.bind_some, s2, im_b2_s, d1, d2]
      unfold sh_Model_fits_109
      by_cases hlen : q.length = p.length
      · have L := pm_ft114 (F := F) (k52 := sh_Model_fits_52 F g) hx hxl hyl hlen n1 m1 n3 m3 q.length F 0 true (by omega) (by omega)
        rw [List.drop_zero, List.drop_zero, nI_0] at L
        rw [if_pos (cl.mpr hlen)]
        rw [show (1 : Int32) = pb_b true from rfl, L]
        exact aft _ (by rw [pf_eqL_c]; rfl)
      · have hne : pf_eqL p q = false := by
          unfold pf_eqL
          refine decide_eq_false (fun z => hlen ?_)
          have := congrArg List.length z
          simpa using this.symm
        obtain ⟨h, rfl⟩ : ∃ h, F = h + 1 := ⟨F - 1, by omega⟩
        rw [if_neg (fun z => hlen (cl.mp z)), sh_Model_fits_114, d1]
        rw [if_neg (show ¬ nI q.length ≤ (0 : Int32) from nI_nle (by omega) (by omega)), if_pos rfl]
        exact aft false hne.symm
theorem pg_head {e : pg_E} (h : pg_gd e) : e.1 = e.2.1.1 :: e.1.drop 1 := by
  obtain ⟨rest, hr⟩ := h.2.1
  have : e.1 = e.2.1.1 :: (((if e.2.1.2.1 = [] then [] else [e.2.1.2.1]) ++ (if e.2.1.2.2 = [] then [] else [e.2.1.2.2])) ++ rest) := by
    rw [hr]
    unfold pc_list
    simp
  rw [this]
  rfl
theorem pm_fits (hF : 100 ≤ F) (R : rm_is σ ty sh al lk pa tg su pl) (htg : ∀ e ∈ tg, pg_gd e) (x y : Int32) : sh_Model_fits F 248 x y (pu_mk σ) = some (pb_b (pk_t tg x && pk_t tg y && pf_within (tg.getD y.toNatClampNeg pg_0).1 (tg.getD x.toNatClampNeg pg_0).1), pu_mk σ) := by
  have hx := R.2.2.2.2.2.1.1
  have hn := R.2.2.2.2.2.1.2.1
  have h16 : tg.length ≤ 16 := by
    have := hx.2.1
    rw [List.length_map] at this
    exact this
  unfold sh_Model_fits sh_Model_fits_31
  rw [pm_i, Option.bind_some, pm_none' hx x, im_b2_s]
  cases htx : pk_t tg x with
  | false => rw [if_neg (show ¬ pb_b (!false) = 0 by decide), pb_rz0]; rfl
  | true =>
    rw [if_pos (show pb_b (!true) = 0 from rfl), pm_i, Option.bind_some, pm_none' hx y, im_b2_s]
    cases hty : pk_t tg y with
    | false => rw [if_neg (show ¬ pb_b (!false) = 0 by decide), pb_rz0]; rfl
    | true =>
      obtain ⟨a, hal, rfl⟩ := pk_t_s htx
      obtain ⟨b, hbl, rfl⟩ := pk_t_s hty
      rw [if_pos (show pb_b (!true) = 0 from rfl), nI_clamp (show a < 2 ^ 31 by omega), nI_clamp (show b < 2 ^ 31 by omega)]
      have ga := htg _ (pb_getG pg_0 hal)
      have gb := htg _ (pb_getG pg_0 hbl)
      have na := (hn a hal).1
      have nb := (hn b hbl).1
      have ea := pg_head ga
      have eb := pg_head gb
      have a31 := (pc_gd_31 ga.1).1
      have b31 := (pc_gd_31 gb.1).1
      have E := pc_gd_1 ga.1 gb.1
      have w : pf_within (tg.getD b pg_0).1 (tg.getD a pg_0).1 = (decide ((tg.getD b pg_0).2.1.1 = (tg.getD a pg_0).2.1.1) && pf_scan ((tg.getD b pg_0).1.drop 1) ((tg.getD a pg_0).1.drop 1)) := by
        unfold pf_within
        rw [show (tg.getD b pg_0).1.getD 0 [] = (tg.getD b pg_0).2.1.1 by rw [eb]; rfl, show (tg.getD a pg_0).1.getD 0 [] = (tg.getD a pg_0).2.1.1 by rw [ea]; rfl]
      rw [w, pm_34, Option.bind_some, pm_l268 σ (show a < 16 by omega), Option.bind_some, na, Option.bind_some, pm_l268 σ (show b < 16 by omega), Option.bind_some, nb]
      by_cases hL : (tg.getD a pg_0).2.1.1 = (tg.getD b pg_0).2.1.1
      · have ca : pf_cl ((tg.getD a pg_0).2.1.1 :: (tg.getD a pg_0).1.drop 1) := by rw [← ea]; exact ga.2.2.1
        have cb : pf_cl ((tg.getD b pg_0).2.1.1 :: (tg.getD b pg_0).1.drop 1) := by rw [← eb]; exact gb.2.2.1
        have pa0 : pf_pos (pm_txt (tg.getD a pg_0)) 0 ((tg.getD a pg_0).2.1.1 :: (tg.getD a pg_0).1.drop 1) := by
          have := pf_pos0 (ps := (tg.getD a pg_0).1) ga.2.2.1 (by rw [ea]; simp)
          rw [← ea]
          exact this
        have pb0 : pf_pos (pm_txt (tg.getD b pg_0)) 0 ((tg.getD b pg_0).2.1.1 :: (tg.getD b pg_0).1.drop 1) := by
          have := pf_pos0 (ps := (tg.getD b pg_0).1) gb.2.2.1 (by rw [eb]; simp)
          rw [← eb]
          exact this
        have s1 := pm_sendA hF hx hal ca pa0
        have s2 := pm_sendA hF hx hbl cb pb0
        rw [nI_0] at s1 s2
        have q1 := (pf_pos_next ca pa0).2.2.2
        have q2 := (pf_pos_next cb pb0).2.2.2
        have hlen := gb.2.2.2.2.2
        have L := pm_ft52 (F := F) hF hx hal hbl ((tg.getD b pg_0).1.drop 1) F ((tg.getD a pg_0).1.drop 1) _ _ (by rw [List.length_drop]; omega) (fun z hz => cb z (List.mem_cons_of_mem _ hz)) (fun z hz => ca z (List.mem_cons_of_mem _ hz)) q1 q2
        rw [pf_scan_gl _ _ gb.2.2.2.1 ga.2.2.2.1] at L
        rw [if_pos ((nI_eq a31 b31).mpr (E.mpr hL)), pm_i, Option.bind_some, s1, im_b2_s, pm_i, Option.bind_some, s2, im_b2_s, nI_1, nI_1, L, decide_eq_true hL.symm]
        rfl
      · rw [if_neg (fun z => hL (E.mp ((nI_eq a31 b31).mp z))), pb_rz0, decide_eq_false (fun z => hL z.symm)]
        rfl
end MFT
