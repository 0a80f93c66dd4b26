/-! the model: cutTag, lookup, distance, best -/
theorem pf_cl_take {cur : List (List Nat)} (h : pf_cl cur) (n : Nat) : pf_cl (cur.take n) := fun p hp => h p (List.mem_of_mem_take hp)
theorem pf_h2_take {cur : List (List Nat)} (h : pf_h2 cur) (n : Nat) : pf_h2 (cur.take n) := by
  intro p l e
  cases cur with
  | nil => simp at e
  | cons q qs =>
    cases n with
    | zero => simp at e
    | succ n =>
      rw [List.take_succ_cons] at e
      obtain ⟨rfl, -⟩ := List.cons.inj e
      exact h q qs rfl
theorem pf_cutl_lt {cur : List (List Nat)} (hne : ¬ cur = []) : (pf_cutl cur).length < cur.length := by
  have h1 : 1 ≤ cur.length := by
    cases cur with
    | nil => exact absurd rfl hne
    | cons p l => simp
  have := pf_tr_lt cur (c := cur.length) h1
  unfold pf_cutl
  rw [List.length_take]
  omega
theorem pg_h2 {e : pg_E} (h : pg_gd e) : pf_h2 e.1 := by
  intro p l he
  have := pg_head h
  rw [he] at this
  obtain ⟨rfl, -⟩ := List.cons.inj this
  exact (pc_gd_len h.1).1.1
theorem pc_h2 {k : pc_C} (h : pc_gd k) : pf_h2 (pc_list k) := by
  intro p l he
  have : p = k.1 := by
    unfold pc_list at he
    have := congrArg (fun l => l.head?) he
    simp at this
    exact this.symm
  rw [this]
  exact (pc_gd_len h).1.1
theorem pc_far_c (k m : pc_C) : pc_far k m = pc_far m k := by
  unfold pc_far
  have e1 : (k.1 = m.1) ↔ (m.1 = k.1) := eq_comm
  have e2 : (k.2.1 = m.2.1) ↔ (m.2.1 = k.2.1) := eq_comm
  have e3 : (k.2.2 = m.2.2) ↔ (m.2.2 = k.2.2) := eq_comm
  have e4 : (k.2.2 = [] ∨ m.2.2 = []) ↔ (m.2.2 = [] ∨ k.2.2 = []) := or_comm
  simp only [e1, e2, e3, e4]
section MLK
variable {F : Nat} {σ τ : pu_S} {ty sh : List Nat} {al : List pa_E} {lk pa : List pp_E} {tg : List pg_E} {su : List Nat} {pl : Int32}
theorem pm_cutTag (hF : 100 ≤ F) (R : rm_is σ ty sh al lk pa tg su pl) (htg : ∀ e ∈ tg, pg_gd e) {cur : List (List Nat)} (hc : pf_cl cur) (h : pm_ct σ (pf_text [] cur)) : ∃ τ, sh_Model_cutTag F 248 (pu_mk σ) = some (pr_n (pf_at? tg cur), pu_mk τ) ∧ pm_ct τ (pf_text [] cur) ∧ rm_is τ ty sh al lk pa tg su pl ∧ pu_fr (fun x => 248 ≤ x) σ τ := by
  generalize hX : pf_text [] cur = X at *
  have h80 := h.2.2.1
  have h128 := h.2.2.2
  have f0 : pm_fr (fun x => x = 254) (fun k => k = 13) σ (pu_sI σ 248 13 (nI X.length)) := pm_fr.sI rfl
  have c0 : pm_ct (pu_sI σ 248 13 (nI X.length)) X := h.fr f0 (by decide) (by decide)
  have loop : ∀ (n f i : Nat), i + n = X.length → n + 1 ≤ f → sh_Model_cutTag_10 F f 248 (nI i) (pu_mk (pm_cp (pu_sI σ 248 13 (nI X.length)) 254 0 (X.take i))) = sh_Model_cutTag_10 F 1 248 (nI X.length) (pu_mk (pm_cp (pu_sI σ 248 13 (nI X.length)) 254 0 X)) := by
    have r15 : ∀ l, (pm_cp (pu_sI σ 248 13 (nI X.length)) 254 0 l).1 248 15 = nI X.length := fun l => c0.1
    intro n
    induction n with
    | zero =>
      intro f i hi hf
      obtain ⟨g, rfl⟩ : ∃ g, f = g + 1 := ⟨f - 1, by omega⟩
      have hi' : i = X.length := by omega
      subst hi'
      rw [List.take_length, sh_Model_cutTag_10, sh_Model_cutTag_10, pm_15, Option.bind_some, Option.bind_some, r15, if_pos (nI_le (Nat.le_refl _) (by omega)), if_pos (nI_le (Nat.le_refl _) (by omega))]
    | succ n ih =>
      intro f i hi hf
      obtain ⟨g, rfl⟩ : ∃ g, f = g + 1 := ⟨f - 1, by omega⟩
      have hil : i < X.length := by omega
      have src : im_lI (pu_mk (pm_cp (pu_sI σ 248 13 (nI X.length)) 254 0 (X.take i))) 2 255 (nI i) = some (nI (X.getD i 0)) := by
        have := pm_ct_at c0 hil
        rw [pm_l255 _ (by omega)] at this ⊢
        rw [pm_cp_o (by decide)]
        exact this
      have cp := pm_cp1 (pu_sI σ 248 13 (nI X.length)) 254 0 hil
      rw [Nat.zero_add] at cp
      rw [sh_Model_cutTag_10, pm_15, Option.bind_some, r15, if_neg (show ¬ nI X.length ≤ nI i from fun z => by rw [nI_leI (by omega) (by omega)] at z; omega), pm_14, Option.bind_some, pm_16, Option.bind_some, src, Option.bind_some, pm_c128 h128, pm_t254 _ _ (show i < 80 by omega), Option.bind_some, nI_1, cp]
      exact ih g (i + 1) (by omega) (by omega)
  have f1 : pm_fr (fun x => x = 254) (fun k => k = 13) σ (pm_cp (pu_sI σ 248 13 (nI X.length)) 254 0 X) := f0.tr (pm_cp_fr (h := 254) (off := 0) (l := X) rfl)
  have R1 : rm_is (pm_cp (pu_sI σ 248 13 (nI X.length)) 254 0 X) ty sh al lk pa tg su pl := R.fr (f1.XZ (fun x h => by omega) (fun k h => by unfold pm_Z; omega))
  have fm : pm_fm (pm_cp (pu_sI σ 248 13 (nI X.length)) 254 0 X) X := by
    refine ⟨?_, fun i hi => ?_, h80, h128⟩
    · show (pu_sI σ 248 13 (nI X.length)).1 248 13 = _
      simp [pu_sI]
    · have := pm_cp_at (σ := pu_sI σ 248 13 (nI X.length)) (h := 254) (off := 0) hi
      rw [Nat.zero_add] at this
      exact this
  have fd := pm_find (F := F) fm R1.2.2.2.2.2.1.1 (by omega)
  rw [← hX] at fd
  have hxs : (tg.map pm_txt).findIdx? (fun x => decide (x = pf_text [] cur)) = pf_at? tg cur := pf_find (fun e he => (htg e he).2.2.1) hc
  rw [hxs, hX] at fd
  refine ⟨_, ?_, h.fr f1 (by decide) (by decide), R1, pm_frX_hi f1 (fun x h => by omega)⟩
  have L := loop X.length F 0 (by omega) (by omega)
  rw [List.take_zero, pm_cp0, nI_0] at L
  unfold sh_Model_cutTag
  rw [pm_15, Option.bind_some, h.1, pm_p13, Option.bind_some, L, sh_Model_cutTag_10, pm_15, Option.bind_some, show (pm_cp (pu_sI σ 248 13 (nI X.length)) 254 0 X).1 248 15 = nI X.length from c0.1, if_pos (nI_le (Nat.le_refl _) (by omega)), pm_i, Option.bind_some, fd, im_b2_s]
theorem pm_ct0 {cur : List (List Nat)} (hc : pf_cl cur) (h : pm_ct σ (pf_text [] cur)) : nI (pf_text [] cur).length ≤ (0 : Int32) ↔ cur = [] := by
  have h80 := h.2.2.1
  constructor
  · intro z
    apply Classical.byContradiction
    intro hn
    have := pq_text_ne (fun x hx => (hc x hx).1) hn
    have hl : 0 < (pf_text [] cur).length := by
      cases hh : pf_text [] cur with
      | nil => exact absurd hh this
      | cons c l => simp
    exact nI_nle hl (by omega) z
  · rintro rfl
    decide
theorem pf_at_16 {cur : List (List Nat)} (h16 : tg.length ≤ 16) {i : Nat} (h : pf_at? tg cur = some i) : i < tg.length := (List.findIdx?_eq_some_iff_getElem.mp h).1
theorem pm_truncR (hF : 100 ≤ F) (R : rm_is σ ty sh al lk pa tg su pl) {cur : List (List Nat)} (hne : ¬ cur = []) (hc : pf_cl cur) (h2 : pf_h2 cur) (h : pm_ct σ (pf_text [] cur)) : ∃ τ, sh_Model_truncate F 248 (pu_mk σ) = some (pu_mk τ) ∧ pm_ct τ (pf_text [] (pf_cutl cur)) ∧ rm_is τ ty sh al lk pa tg su pl ∧ pu_fr (fun x => 248 ≤ x) σ τ := by
  obtain ⟨τ, e, t, f⟩ := pm_trunc hF hne hc h2 h
  exact ⟨τ, e, t, R.fr (f.XZ (fun x h => h.elim) (fun k h => by unfold pm_V at h; unfold pm_Z; omega)), pm_frX_hi f (fun x h => h.elim)⟩
theorem pm_lk15 (hF : 100 ≤ F) (htg : ∀ e ∈ tg, pg_gd e) : ∀ (n f : Nat) (cur : List (List Nat)) (σ : pu_S), cur.length ≤ n → n + 1 ≤ f → pf_cl cur → pf_h2 cur → pm_ct σ (pf_text [] cur) → rm_is σ ty sh al lk pa tg su pl → ∃ τ, sh_Model_lookup_15 F f 248 (pu_mk σ) = some (pr_n (pk_look tg su n cur), pu_mk τ) ∧ rm_is τ ty sh al lk pa tg su pl ∧ pu_fr (fun x => 248 ≤ x) σ τ := by
  intro n
  induction n with
  | zero =>
    intro f cur σ hn hf hc h2 h R
    obtain ⟨g, rfl⟩ : ∃ g, f = g + 1 := ⟨f - 1, by omega⟩
    have hce : cur = [] := List.eq_nil_of_length_eq_zero (by omega)
    rw [sh_Model_lookup_15, pm_15, Option.bind_some, h.1, if_pos ((pm_ct0 hc h).mpr hce)]
    exact ⟨σ, rfl, R, pu_fr.rf⟩
  | succ n ih =>
    intro f cur σ hn hf hc h2 h R
    obtain ⟨g, rfl⟩ : ∃ g, f = g + 1 := ⟨f - 1, by omega⟩
    rw [sh_Model_lookup_15, pm_15, Option.bind_some, h.1, pk_look]
    by_cases hce : cur = []
    · rw [if_pos ((pm_ct0 hc h).mpr hce), if_pos hce]
      exact ⟨σ, rfl, R, pu_fr.rf⟩
    · rw [if_neg (fun z => hce ((pm_ct0 hc h).mp z)), if_neg hce]
      obtain ⟨τ, e1, t1, R1, y1⟩ := pm_cutTag hF R htg hc h
      obtain ⟨ρ, e2, t2, R2, y2⟩ := pm_truncR hF R1 hce hc h2 t1
      have hlt := pf_cutl_lt hce
      obtain ⟨ω, e3, R3, y3⟩ := ih g (pf_cutl cur) ρ (by omega) (by omega) (pf_cl_take hc _) (pf_h2_take h2 _) t2 R2
      have go : sh_Model_lookup_41 F (sh_Model_lookup_15 F g) 248 (pu_mk τ) = some (pr_n (pk_look tg su n (pf_cutl cur)), pu_mk ω) := by
        unfold sh_Model_lookup_41
        rw [pm_i, Option.bind_some, e2, Option.bind_some, e3]
      have h16 : tg.length ≤ 16 := by
        have := R.2.2.2.2.2.1.1.2.1
        rw [List.length_map] at this
        exact this
      rw [pm_i, Option.bind_some, e1, im_b2_s]
      cases hat : pf_at? tg cur with
      | none =>
        rw [if_pos (show pr_n none < 0 by decide), go]
        exact ⟨ω, rfl, R3, (y1.tr y2).tr y3⟩
      | some i =>
        have hi := pf_at_16 h16 hat
        have hs := pm_isSupported (F := F) R1.2.2.2.2.2.2.1 (by omega) (show i < 2 ^ 31 by omega)
        rw [show pr_n (some i) = nI i from rfl, if_neg (nI_pos (by omega)), pm_i, Option.bind_some, hs, im_b2_s]
        dsimp only
        by_cases hm : i ∈ su
        · rw [decide_eq_true hm, if_neg (show ¬ pb_b true = 0 by decide), if_pos hm]
          exact ⟨τ, rfl, R1, y1⟩
        · rw [decide_eq_false hm, if_pos (show pb_b false = 0 from rfl), if_neg hm, go]
          exact ⟨ω, rfl, R3, (y1.tr y2).tr y3⟩
theorem pm_lookup (hF : 100 ≤ F) (R : rm_is σ ty sh al lk pa tg su pl) (htg : ∀ e ∈ tg, pg_gd e) (x : Int32) : ∃ τ, sh_Model_lookup F 248 x (pu_mk σ) = some (if pk_t tg x = true then pr_n (pk_look tg su 30 (tg.getD x.toNatClampNeg pg_0).1) else -1, pu_mk τ) ∧ rm_is τ ty sh al lk pa tg su pl ∧ pu_fr (fun x => 248 ≤ x) σ τ := by
  have hx := R.2.2.2.2.2.1.1
  have h16 : tg.length ≤ 16 := by
    have := hx.2.1
    rw [List.length_map] at this
    exact this
  unfold sh_Model_lookup
  rw [pm_i, Option.bind_some, pm_none' hx x, im_b2_s]
  cases ht : pk_t tg x with
  | false =>
    rw [if_neg (show ¬ pb_b (!false) = 0 by decide), if_neg (by decide)]
    exact ⟨σ, rfl, R, pu_fr.rf⟩
  | true =>
    obtain ⟨t, htl, rfl⟩ := pk_t_s ht
    have g := htg _ (pb_getG pg_0 htl)
    obtain ⟨τ, e, c, f⟩ := pm_startCut hF hx htl
    have R1 := R.fr (f.XZ (fun x h => by omega) (fun k h => by unfold pm_V at h; unfold pm_Z; omega))
    obtain ⟨ρ, e2, R2, y2⟩ := pm_lk15 (F := F) hF htg 30 F (tg.getD t pg_0).1 τ g.2.2.2.2.2 (by omega) g.2.2.1 (pg_h2 g) c R1
    rw [if_pos (show pb_b (!true) = 0 from rfl), if_pos rfl, nI_clamp (show t < 2 ^ 31 by omega), pm_i, Option.bind_some, e, Option.bind_some, e2]
    exact ⟨ρ, rfl, R2, (pm_frX_hi f (fun x h => by omega)).tr y2⟩
theorem pm_distance (hF : 100 ≤ F) (R : rm_is σ ty sh al lk pa tg su pl) (hg : pp_gd lk) (htg : ∀ e ∈ tg, pg_gd e) (x y : Int32) : ∃ τ, sh_Model_distance F 248 x y (pu_mk σ) = some (if pk_t tg x = true ∧ pk_t tg y = true then nI (pk_dist lk tg x.toNatClampNeg y.toNatClampNeg) else -1, pu_mk τ) ∧ rm_is τ ty sh al lk pa tg su pl ∧ pu_fr (fun x => 248 ≤ x) σ τ := by
  have hx := R.2.2.2.2.2.1.1
  have hn := R.2.2.2.2.2.1.2.1
  have h16 : tg.length ≤ 16 := by
    have := hx.2.1
    rw [List.length_map] at this
    exact this
  unfold sh_Model_distance sh_Model_distance_16
  rw [pm_i, Option.bind_some, pm_none' hx x, im_b2_s]
  cases htx : pk_t tg x with
  | false =>
    rw [if_neg (show ¬ pb_b (!false) = 0 by decide), if_neg (fun z => by cases z.1)]
    exact ⟨σ, rfl, R, pu_fr.rf⟩
  | true =>
    rw [if_pos (show pb_b (!true) = 0 from rfl), pm_i, Option.bind_some, pm_none' hx y, im_b2_s]
    cases hty : pk_t tg y with
    | false =>
      rw [if_neg (show ¬ pb_b (!false) = 0 by decide), if_neg (fun z => by cases z.2)]
      exact ⟨σ, rfl, R, pu_fr.rf⟩
    | true =>
      obtain ⟨a, hal, rfl⟩ := pk_t_s htx
      obtain ⟨b, hbl, rfl⟩ := pk_t_s hty
      rw [if_pos (show pb_b (!true) = 0 from rfl), if_pos ⟨rfl, rfl⟩, nI_clamp (show a < 2 ^ 31 by omega), nI_clamp (show b < 2 ^ 31 by omega)]
      have ga := (htg _ (pb_getG pg_0 hal)).1
      have gb := (htg _ (pb_getG pg_0 hbl)).1
      obtain ⟨a1, a2, a3⟩ := hn a hal
      obtain ⟨b1, b2, b3⟩ := hn b hbl
      obtain ⟨τ1, e1, m1, f1⟩ := pm_maximise (F := F) (by omega) ga R.2.2.2.1 hg
      have z1 : pm_fr pm_X pm_Z σ τ1 := f1.XZ (fun x h => h.elim) (fun k h => by unfold pm_M at h; unfold pm_Z; omega)
      have R1 := R.fr z1
      obtain ⟨b1', b2', b3'⟩ := R1.2.2.2.2.2.1.2.1 b hbl
      obtain ⟨τ2, e2, m2, f2⟩ := pm_maximise (F := F) (by omega) gb R1.2.2.2.1 hg
      have z2 : pm_fr pm_X pm_Z τ1 τ2 := f2.XZ (fun x h => h.elim) (fun k h => by unfold pm_M at h; unfold pm_Z; omega)
      have R2 := R1.fr z2
      have ya := pl_max_gd ga hg
      have yb := pl_max_gd gb hg
      obtain ⟨c1, c2, c3⟩ := pc_gd_31 ya
      obtain ⟨d1, d2, d3⟩ := pc_gd_31 yb
      obtain ⟨-, -, o3⟩ := pc_gd_vok ya
      obtain ⟨-, -, p3⟩ := pc_gd_vok yb
      refine ⟨τ2, ?_, R2, (pm_frX_hi f1 (fun x h => h.elim)).tr (pm_frX_hi f2 (fun x h => h.elim))⟩
      unfold pk_dist
      generalize pl_max lk (tg.getD a pg_0).2.1 = u at *
      generalize pl_max lk (tg.getD b pg_0).2.1 = v at *
      rw [pm_34, Option.bind_some, pm_l268 σ (show a < 16 by omega), Option.bind_some, a1, pm_35, Option.bind_some, pm_l269 σ (show a < 16 by omega), Option.bind_some, a2, pm_36, Option.bind_some, pm_l270 σ (show a < 16 by omega), Option.bind_some, a3, pm_i, Option.bind_some, e1, Option.bind_some, pm_28, Option.bind_some, m1.1, pm_29, Option.bind_some, m1.2.1, pm_30, Option.bind_some, m1.2.2, pm_34, Option.bind_some, pm_l268 τ1 (show b < 16 by omega), Option.bind_some, b1', pm_35, Option.bind_some, pm_l269 τ1 (show b < 16 by omega), Option.bind_some, b2', pm_36, Option.bind_some, pm_l270 τ1 (show b < 16 by omega), Option.bind_some, b3', pm_i, Option.bind_some, e2, Option.bind_some, pm_28, Option.bind_some, m2.1]
      have t108 : ∀ s t : Nat, sh_Model_distance_108 F 248 (nI (pv_n u.2.2)) (nI t) (nI s) (pu_mk τ2) = some (nI (s + t + (if u.2.2 = v.2.2 then 0 else if u.2.2 = [] ∨ v.2.2 = [] then 2 else 5)), pu_mk τ2) := by
        intro s t
        unfold sh_Model_distance_108 sh_Model_distance_144 sh_Model_distance_148
        rw [pm_30, Option.bind_some, m2.2.2, nI_add]
        have E := pc_gd_3 ya yb
        by_cases h : u.2.2 = v.2.2
        · rw [if_pos ((nI_eq c3 d3).mpr (E.mpr h)), if_pos h, Nat.add_zero]
        · rw [if_neg (fun z => h (E.mp ((nI_eq c3 d3).mp z))), if_neg h]
          by_cases h1 : u.2.2 = []
          · rw [if_pos ((pv_z0 o3).mpr h1), if_pos (Or.inl h1), show nI (s + t) + (2 : Int32) = nI (s + t + 2) from nI_add _ 2]
          · rw [if_neg (fun z => h1 ((pv_z0 o3).mp z)), Option.bind_some]
            by_cases h2 : v.2.2 = []
            · rw [if_pos ((pv_z0 p3).mpr h2), if_pos (Or.inr h2), show nI (s + t) + (2 : Int32) = nI (s + t + 2) from nI_add _ 2]
            · rw [if_neg (fun z => h2 ((pv_z0 p3).mp z)), if_neg (fun z => z.elim h1 h2), show nI (s + t) + (5 : Int32) = nI (s + t + 5) from nI_add _ 5]
      have t93 : ∀ s : Nat, sh_Model_distance_93 F 248 (nI (pv_n u.2.1)) (nI (pv_n u.2.2)) (nI s) (pu_mk τ2) = some (nI (s + (if u.2.1 = v.2.1 then 0 else 40) + (if u.2.2 = v.2.2 then 0 else if u.2.2 = [] ∨ v.2.2 = [] then 2 else 5)), pu_mk τ2) := by
        intro s
        unfold sh_Model_distance_93
        rw [pm_29, Option.bind_some, m2.2.1]
        have E := pc_gd_2 ya yb
        by_cases h : u.2.1 = v.2.1
        · rw [if_pos ((nI_eq c2 d2).mpr (E.mpr h)), if_pos h]
          have := t108 s 0
          rw [nI_0] at this
          exact this
        · rw [if_neg (fun z => h (E.mp ((nI_eq c2 d2).mp z))), if_neg h]
          exact t108 s 40
      have E := pc_gd_1 ya yb
      unfold pc_far
      by_cases h : u.1 = v.1
      · rw [if_pos ((nI_eq c1 d1).mpr (E.mpr h)), if_pos h]
        have := t93 0
        rw [nI_0] at this
        exact this
      · rw [if_neg (fun z => h (E.mp ((nI_eq c1 d1).mp z))), if_neg h]
        exact t93 80
end MLK
