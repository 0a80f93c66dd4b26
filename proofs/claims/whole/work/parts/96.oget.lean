/-! the model: goOn, get -/
section MGE
variable {F : Nat} {ty sh : List Nat} {al : List pa_E} {lk pa : List pp_E} {tg : List pg_E} {su : List Nat} {pl : Int32}
theorem pm_go132 {σ : pu_S} {l : List Nat} (hm : pm_fm σ l) : ∀ (n f i : Nat), i + n = l.length → n + 1 ≤ f → sh_Model_goOn_132 F f 248 (nI i) (pu_mk (pm_cp σ 255 0 (l.take i))) = some (pu_mk (pm_cp σ 255 0 l)) := by
  have hl := hm.2.2.1
  intro n
  induction n with
  | zero =>
    intro f i hi hf
    obtain ⟨g, rfl⟩ : ∃ g, f = g + 1 := ⟨f - 1, by omega⟩
    have hi' : i = l.length := by omega
    subst hi'
    rw [List.take_length, sh_Model_goOn_132, pm_13, Option.bind_some, show (pm_cp σ 255 0 l).1 248 13 = nI l.length from hm.1, if_pos (nI_le (Nat.le_refl _) (by omega))]
  | succ n ih =>
    intro f i hi hf
    obtain ⟨g, rfl⟩ : ∃ g, f = g + 1 := ⟨f - 1, by omega⟩
    have hil : i < l.length := by omega
    have src : im_lI (pu_mk (pm_cp σ 255 0 (l.take i))) 2 254 (nI i) = some (nI (l.getD i 0)) := by
      rw [pm_l254 _ (by omega), pm_cp_o (by decide), hm.2.1 i hil]
    have cp := pm_cp1 σ 255 0 hil
    rw [Nat.zero_add] at cp
    rw [sh_Model_goOn_132, pm_13, Option.bind_some, show (pm_cp σ 255 0 (l.take i)).1 248 13 = nI l.length from hm.1, if_neg (show ¬ nI l.length ≤ nI i from fun z => by rw [nI_leI (by omega) (by omega)] at z; omega), pm_16, Option.bind_some, pm_14, Option.bind_some, src, Option.bind_some, pm_c128 hm.2.2.2, pm_t255 _ _ (show i < 80 by omega), Option.bind_some, nI_1, cp]
    exact ih g (i + 1) (by omega) (by omega)
theorem pm_go57 {σ : pu_S} {l X : List Nat} (hm : pm_fm σ l) (hc : pm_ct σ X) (hlen : l.length = X.length) {k3 : Nat → Int32 → im_W → Option im_W} {x1 : Int32} : ∀ (n f i : Nat) (acc : Bool), i + n = X.length → n + 1 ≤ f → sh_Model_goOn_57 F k3 f 248 x1 (pb_b acc) (nI i) (pu_mk σ) = sh_Model_goOn_96 F k3 248 x1 (pb_b (acc && decide (l.drop i = X.drop i))) (pu_mk σ) := by
  have h80 := hc.2.2.1
  intro n
  induction n with
  | zero =>
    intro f i acc hi hf
    obtain ⟨g, rfl⟩ : ∃ g, f = g + 1 := ⟨f - 1, by omega⟩
    have hi' : i = X.length := by omega
    subst hi'
    rw [sh_Model_goOn_57, pm_15, Option.bind_some, hc.1, if_pos (nI_le (Nat.le_refl _) (by omega)), List.drop_length, ← hlen, List.drop_length]
    simp
  | succ n ih =>
    intro f i acc hi hf
    obtain ⟨g, rfl⟩ : ∃ g, f = g + 1 := ⟨f - 1, by omega⟩
    have hil : i < X.length := by omega
    rw [sh_Model_goOn_57, pm_15, Option.bind_some, hc.1, if_neg (show ¬ nI X.length ≤ nI i from fun z => by rw [nI_leI (by omega) (by omega)] at z; omega)]
    cases acc with
    | false => rw [if_pos (show pb_b false = 0 from rfl)]; rfl
    | true =>
      have c1 := pm_fm_at (F := F) hm (k := i) (by omega)
      have c2 := pm_ct_at hc hil
      have ce : nI (l.getD i 0) = nI (X.getD i 0) ↔ l.getD i 0 = X.getD i 0 := nI_eq (by have := pm_tylt hm.2.2.2 i; omega) (by have := pm_tylt hc.2.2.2 i; omega)
      unfold sh_Model_goOn_89
      rw [if_neg (show ¬ pb_b true = 0 by decide), pm_14, Option.bind_some, c1, Option.bind_some, pm_16, Option.bind_some, c2, Option.bind_some, nI_1, pb_drop (show i < l.length by omega), pb_drop hil, pb_decC']
      by_cases he : l.getD i 0 = X.getD i 0
      · have := ih g (i + 1) true (by omega) (by omega)
        rw [if_pos (ce.mpr he), decide_eq_true he]
        exact this
      · have := ih g (i + 1) false (by omega) (by omega)
        rw [if_neg (fun z => he (ce.mp z)), decide_eq_false he]
        exact this
def pk_nx (pa : List pp_E) (i : Nat) (cur : List (List Nat)) : List (List Nat) := match (pa.drop i).findIdx? (fun e => decide (pc_list e.1 = cur)) with
  | some j => pc_list (pa.getD (i + j) pp_0).2
  | none => pf_cutl cur
theorem pk_nx0 (pa : List pp_E) (cur : List (List Nat)) : pk_nx pa 0 cur = pk_next pa cur := by
  unfold pk_nx pk_next
  rw [List.drop_zero]
  cases pa.findIdx? (fun e => decide (pc_list e.1 = cur)) with
  | none => rfl
  | some j => show pc_list (pa.getD (0 + j) pp_0).2 = _; rw [Nat.zero_add]
theorem pm_go3 (hF : 100 ≤ F) (hpa : pp_gd pa) {cur : List (List Nat)} (hne : ¬ cur = []) (hc : pf_cl cur) (h2 : pf_h2 cur) : ∀ (n f i : Nat) (σ : pu_S), i + n = pa.length → n + 1 ≤ f → rm_is σ ty sh al lk pa tg su pl → pm_ct σ (pf_text [] cur) → ∃ τ, sh_Model_goOn_3 F f 248 (nI (10 + i)) (pu_mk σ) = some (pu_mk τ) ∧ pm_ct τ (pf_text [] (pk_nx pa i cur)) ∧ rm_is τ ty sh al lk pa tg su pl ∧ pu_fr (fun x => 248 ≤ x) σ τ := by
  have e10 : ∀ n : Nat, (10 : Int32) + nI n = nI (10 + n) := fun n => nI_add 10 n
  intro n
  induction n with
  | zero =>
    intro f i σ hi hf R h
    obtain ⟨g, rfl⟩ : ∃ g, f = g + 1 := ⟨f - 1, by omega⟩
    have P := R.2.2.2.2.1
    have p10 := P.2.1
    have hi' : i = pa.length := by omega
    subst hi'
    obtain ⟨τ, e, t, R1, y⟩ := pm_truncR hF R hne hc h2 h
    have l1 : im_lI (pu_mk σ) 0 259 1 = some (nI pa.length) := by
      have := pm_l259 σ (k := 1) (by decide)
      rw [P.1] at this
      exact this
    refine ⟨τ, ?_, ?_, R1, y⟩
    · rw [sh_Model_goOn_3, pm_21, Option.bind_some, l1, Option.bind_some, e10, if_pos (nI_le (Nat.le_refl _) (by omega)), pm_i, Option.bind_some, e, Option.bind_some]
    · unfold pk_nx
      rw [List.drop_length]
      exact t
  | succ n ih =>
    intro f i σ hi hf R h
    obtain ⟨g, rfl⟩ : ∃ g, f = g + 1 := ⟨f - 1, by omega⟩
    have P := R.2.2.2.2.1
    have p10 := P.2.1
    have hil : i < pa.length := by omega
    have h80 := h.2.2.1
    obtain ⟨⟨q1, q2, q3⟩, -⟩ := P.2.2 i hil
    rw [Nat.mul_one] at q1 q2 q3
    obtain ⟨g1, g2⟩ := pp_gd_get hpa hil
    have l1 : im_lI (pu_mk σ) 0 259 1 = some (nI pa.length) := by
      have := pm_l259 σ (k := 1) (by decide)
      rw [P.1] at this
      exact this
    obtain ⟨τ1, e1, m1, f1⟩ := pm_putK (F := F) (σ := σ) (by omega) g1
    have x1 : pm_fr pm_X pm_Z σ τ1 := f1.XZ (fun x h => by omega) (fun k h => by unfold pm_Z; omega)
    have R1 := R.fr x1
    have y1 := pm_frX_hi f1 (fun x h => by omega)
    have c1 : pm_ct τ1 (pf_text [] cur) := h.fr f1 (by decide) (by decide)
    have ml := m1.2.2.1
    have ce : nI (pf_text [] (pc_list (pa.getD i pp_0).1)).length = nI (pf_text [] cur).length ↔ (pf_text [] (pc_list (pa.getD i pp_0).1)).length = (pf_text [] cur).length := nI_eq (by omega) (by omega)
    have inj := pf_text_inj (pc_gd_cl g1) hc
    rw [sh_Model_goOn_3, pm_21, Option.bind_some, l1, Option.bind_some, e10, if_neg (show ¬ nI (10 + pa.length) ≤ nI (10 + i) from fun z => by rw [nI_leI (by omega) (by omega)] at z; omega), pm_22, Option.bind_some, pm_l260 σ (show 10 + i < 20 by omega), Option.bind_some, q1, pm_23, Option.bind_some, pm_l261 σ (show 10 + i < 20 by omega), Option.bind_some, q2, pm_24, Option.bind_some, pm_l262 σ (show 10 + i < 20 by omega), Option.bind_some, q3, pm_i, Option.bind_some, e1, Option.bind_some, pm_13, Option.bind_some, m1.1, pm_15, Option.bind_some, c1.1]
    -- what follows the comparison
    have aft : ∃ τ, sh_Model_goOn_96 F (sh_Model_goOn_3 F g) 248 (nI (10 + i)) (pb_b (decide (pc_list (pa.getD i pp_0).1 = cur))) (pu_mk τ1) = some (pu_mk τ) ∧ pm_ct τ (pf_text [] (pk_nx pa i cur)) ∧ rm_is τ ty sh al lk pa tg su pl ∧ pu_fr (fun x => 248 ≤ x) σ τ := by
      unfold sh_Model_goOn_96
      by_cases he : pc_list (pa.getD i pp_0).1 = cur
      · obtain ⟨-, q4, q5, q6⟩ := R1.2.2.2.2.1.2.2 i hil
        rw [Nat.mul_one] at q4 q5 q6
        obtain ⟨τ2, e2, m2, f2⟩ := pm_putK (F := F) (σ := τ1) (by omega) g2
        have R2 := R1.fr (f2.XZ (fun x h => by omega) (fun k h => by unfold pm_Z; omega))
        have ml2 := m2.2.2.1
        have y2 := pm_frX_hi f2 (fun x h => by omega)
        generalize hY : pf_text [] (pc_list (pa.getD i pp_0).2) = Y at *
        have f3 : pm_fr (fun x => x = 255) pm_V τ2 (pu_sI τ2 248 15 (nI Y.length)) := pm_fr.sI rfl
        have m3 : pm_fm (pu_sI τ2 248 15 (nI Y.length)) Y := m2.fr f3 (by decide) (by unfold pm_V; decide)
        have L := pm_go132 (F := F) m3 Y.length F 0 (by omega) (by omega)
        rw [List.take_zero, pm_cp0, nI_0] at L
        have f4 : pm_fr (fun x => x = 255) pm_V τ2 (pm_cp (pu_sI τ2 248 15 (nI Y.length)) 255 0 Y) := f3.tr (pm_cp_fr (h := 255) (off := 0) (l := Y) rfl)
        refine ⟨_, ?_, ?_, R2.fr (f4.XZ (fun x h => by omega) (fun k h => by unfold pm_V at h; unfold pm_Z; omega)), (y1.tr y2).tr (pm_frX_hi f4 (fun x h => by omega))⟩
        · rw [decide_eq_true he, if_neg (show ¬ pb_b true = 0 by decide), pm_25, Option.bind_some, pm_l263 τ1 (show 10 + i < 20 by omega), Option.bind_some, q4, pm_26, Option.bind_some, pm_l264 τ1 (show 10 + i < 20 by omega), Option.bind_some, q5, pm_27, Option.bind_some, pm_l265 τ1 (show 10 + i < 20 by omega), Option.bind_some, q6, pm_i, Option.bind_some, e2, Option.bind_some, pm_13, Option.bind_some, m2.1, pm_p15, Option.bind_some, L]
        · have : pk_nx pa i cur = pc_list (pa.getD i pp_0).2 := by
            unfold pk_nx
            rw [pb_dropG pp_0 hil, List.findIdx?_cons, decide_eq_true he]
            show pc_list (pa.getD (i + 0) pp_0).2 = _
            rw [Nat.add_zero]
          rw [this, hY]
          refine ⟨?_, fun j hj => ?_, m2.2.2.1, m2.2.2.2⟩
          · show (pu_sI τ2 248 15 (nI Y.length)).1 248 15 = _
            simp [pu_sI]
          · have := pm_cp_at (σ := pu_sI τ2 248 15 (nI Y.length)) (h := 255) (off := 0) hj
            rw [Nat.zero_add] at this
            exact this
      · obtain ⟨τ, e2, t2, R2, y2⟩ := ih g (i + 1) τ1 (by omega) (by omega) R1 c1
        refine ⟨τ, ?_, ?_, R2, y1.tr y2⟩
        · rw [decide_eq_false he, if_pos (show pb_b false = 0 from rfl), nI_1]
          exact e2
        · have : pk_nx pa i cur = pk_nx pa (i + 1) cur := by
            unfold pk_nx
            rw [pb_dropG pp_0 hil, List.findIdx?_cons, decide_eq_false he]
            cases (pa.drop (i + 1)).findIdx? (fun e => decide (pc_list e.1 = cur)) with
            | none => rfl
            | some j =>
              show pc_list (pa.getD (i + (j + 1)) pp_0).2 = pc_list (pa.getD (i + 1 + j) pp_0).2
              rw [show i + (j + 1) = i + 1 + j by omega]
          rw [this]
          exact t2
    unfold sh_Model_goOn_54
    by_cases hl : (pf_text [] (pc_list (pa.getD i pp_0).1)).length = (pf_text [] cur).length
    · have L := pm_go57 (F := F) (k3 := sh_Model_goOn_3 F g) (x1 := nI (10 + i)) m1 c1 hl (pf_text [] cur).length F 0 true (by omega) (by omega)
      rw [List.drop_zero, List.drop_zero, nI_0] at L
      rw [if_pos (ce.mpr hl)]
      rw [show (1 : Int32) = pb_b true from rfl, L, Bool.true_and, decide_eq_decide.mpr inj]
      exact aft
    · have he : ¬ pc_list (pa.getD i pp_0).1 = cur := fun z => hl (by rw [z])
      rw [decide_eq_false he] at aft
      have hp : 0 < (pf_text [] cur).length := by
        have := pq_text_ne (fun x hx => (hc x hx).1) hne
        cases hh : pf_text [] cur with
        | nil => exact absurd hh this
        | cons c l => simp
      obtain ⟨h', rfl⟩ : ∃ h', F = h' + 1 := ⟨F - 1, by omega⟩
      rw [if_neg (fun z => hl (ce.mp z)), sh_Model_goOn_57, pm_15, Option.bind_some, c1.1, if_neg (nI_nle hp (by omega)), if_pos rfl]
      exact aft
theorem pm_goOn {σ : pu_S} (hF : 100 ≤ F) (hpa : pp_gd pa) {cur : List (List Nat)} (hne : ¬ cur = []) (hc : pf_cl cur) (h2 : pf_h2 cur) (R : rm_is σ ty sh al lk pa tg su pl) (h : pm_ct σ (pf_text [] cur)) : ∃ τ, sh_Model_goOn F 248 (pu_mk σ) = some (pu_mk τ) ∧ pm_ct τ (pf_text [] (pk_next pa cur)) ∧ rm_is τ ty sh al lk pa tg su pl ∧ pu_fr (fun x => 248 ≤ x) σ τ := by
  have p10 := R.2.2.2.2.1.2.1
  have := pm_go3 (F := F) (ty := ty) (sh := sh) (al := al) (lk := lk) (tg := tg) (su := su) (pl := pl) hF hpa hne hc h2 pa.length F 0 σ (by omega) (by omega) R h
  rw [pk_nx0] at this
  exact this
theorem pk_next_cl (hpa : pp_gd pa) {cur : List (List Nat)} (hc : pf_cl cur) (h2 : pf_h2 cur) : pf_cl (pk_next pa cur) ∧ pf_h2 (pk_next pa cur) := by
  unfold pk_next
  cases h : pa.findIdx? (fun e => decide (pc_list e.1 = cur)) with
  | none => exact ⟨pf_cl_take hc _, pf_h2_take h2 _⟩
  | some i =>
    have hi : i < pa.length := (List.findIdx?_eq_some_iff_getElem.mp h).1
    have g := (pp_gd_get hpa hi).2
    exact ⟨pc_gd_cl g, pc_h2 g⟩
theorem rm_pl {σ : pu_S} (R : rm_is σ ty sh al lk pa tg su pl) (v : Int32) : rm_is (pu_sI σ 248 43 v) ty sh al lk pa tg su v ∧ pu_fr (fun x => 248 ≤ x) σ (pu_sI σ 248 43 v) := by
  obtain ⟨a, b, c, d, e, f, g, i⟩ := R
  have hf : pm_fr (fun _ => False) (fun k => k = 43) σ (pu_sI σ 248 43 v) := pm_fr.sI rfl
  exact ⟨⟨a.fr hf (fun z => z) (by decide), b.fr hf (fun z => z) (by decide), c.fr hf (by decide) (fun _ _ _ z => z), d.fr hf (fun _ _ _ z => z), e.fr hf (fun _ _ _ z => z), f.fr hf (by decide) (fun _ _ _ z => z), g.fr hf (fun z => z) (by decide), by simp [pu_sI]⟩, pm_frX_hi hf (fun x h => h.elim)⟩
theorem pm_get32 (hF : 100 ≤ F) (hpa : pp_gd pa) (htg : ∀ e ∈ tg, pg_gd e) {k : Nat} (hk : k < 8) : ∀ (n f p : Nat) (cur : List (List Nat)) (σ : pu_S), p + n = 13 → n + 1 ≤ f → pf_cl cur → pf_h2 cur → rm_is σ ty sh al lk pa tg su 0 → pm_ct σ (pf_text [] cur) → ∃ τ, sh_Model_get_32 F f 248 (nI k) (nI p) (pu_mk σ) = some ((pk_get tg pa k n cur p).1, pu_mk τ) ∧ rm_is τ ty sh al lk pa tg su (nI (pk_get tg pa k n cur p).2) ∧ pu_fr (fun x => 248 ≤ x) σ τ := by
  intro n
  induction n with
  | zero =>
    intro f p cur σ hp hf hc h2 R h
    obtain ⟨g, rfl⟩ : ∃ g, f = g + 1 := ⟨f - 1, by omega⟩
    have hp' : p = 13 := by omega
    subst hp'
    unfold sh_Model_get_32 sh_Model_get_99
    rw [if_pos (show (12 : Int32) < nI 13 by decide)]
    exact ⟨σ, rfl, by show rm_is σ ty sh al lk pa tg su (nI 0); rw [nI_0]; exact R, pu_fr.rf⟩
  | succ n ih =>
    intro f p cur σ hp hf hc h2 R h
    obtain ⟨g, rfl⟩ : ∃ g, f = g + 1 := ⟨f - 1, by omega⟩
    have c12 : (12 : Int32) < nI p ↔ 12 < p := nI_ltI (a := 12) (by decide) (by omega)
    have h16 : tg.length ≤ 16 := by
      have := R.2.2.2.2.2.1.1.2.1
      rw [List.length_map] at this
      exact this
    rw [sh_Model_get_32, if_neg (fun z => by have := c12.mp z; omega), pm_15, Option.bind_some, h.1, pk_get]
    unfold sh_Model_get_99
    by_cases hce : cur = []
    · rw [if_pos ((pm_ct0 hc h).mpr hce), if_pos hce]
      exact ⟨σ, rfl, by show rm_is σ ty sh al lk pa tg su (nI 0); rw [nI_0]; exact R, pu_fr.rf⟩
    · rw [if_neg (fun z => hce ((pm_ct0 hc h).mp z)), if_neg hce]
      obtain ⟨τ, e1, t1, R1, y1⟩ := pm_cutTag hF R htg hc h
      obtain ⟨ρ, e2, t2, R2, y2⟩ := pm_goOn hF hpa hce hc h2 R1 t1
      obtain ⟨nc, nh⟩ := pk_next_cl hpa hc h2
      obtain ⟨ω, e3, R3, y3⟩ := ih g (p + 1) (pk_next pa cur) ρ (by omega) (by omega) nc nh R2 t2
      have go : sh_Model_get_89 F (sh_Model_get_32 F g) 248 (nI k) (nI p) (pu_mk τ) = some ((pk_get tg pa k n (pk_next pa cur) (p + 1)).1, pu_mk ω) := by
        unfold sh_Model_get_89
        rw [pm_i, Option.bind_some, e2, Option.bind_some, nI_1, e3]
      rw [pm_i, Option.bind_some, e1, im_b2_s]
      cases hat : pf_at? tg cur with
      | none =>
        rw [if_pos (show pr_n none < 0 by decide), go]
        exact ⟨ω, rfl, R3, (y1.tr y2).tr y3⟩
      | some i =>
        have hi := pf_at_16 h16 hat
        have V := R1.2.2.2.2.2.1.2.2 i k (by omega) hk
        have ix : (8 : Int32) * nI i + nI k = nI (8 * i + k) := by
          rw [show (8 : Int32) * nI i = nI (8 * i) from pn_mul 8 i, nI_add]
        rw [show pr_n (some i) = nI i from rfl, if_neg (nI_pos (by omega)), pm_38, Option.bind_some, ix, pm_l272 τ (show 8 * i + k < 128 by omega), Option.bind_some, V.1]
        show ∃ τ', _ = some ((match (tg.getD i pg_0).2.2 k with
          | some v => (v, p)
          | none => pk_get tg pa k n (pk_next pa cur) (p + 1)).1, pu_mk τ') ∧ rm_is τ' ty sh al lk pa tg su (nI (match (tg.getD i pg_0).2.2 k with
          | some v => (v, p)
          | none => pk_get tg pa k n (pk_next pa cur) (p + 1)).2) ∧ _
        cases hv : (tg.getD i pg_0).2.2 k with
        | none =>
          rw [if_pos (show pb_b (none : Option Int32).isSome = 0 from rfl), go]
          exact ⟨ω, rfl, R3, (y1.tr y2).tr y3⟩
        | some v =>
          obtain ⟨R4, y4⟩ := rm_pl R1 (nI p)
          have W := (R4.2.2.2.2.2.1.2.2 i k (by omega) hk).2 v hv
          rw [if_neg (show ¬ pb_b (some v).isSome = 0 by show ¬ pb_b true = 0; decide), pm_p43, Option.bind_some, pm_37, Option.bind_some, pm_l271 _ (show 8 * i + k < 128 by omega), Option.bind_some, W]
          exact ⟨_, rfl, R4, y1.tr y4⟩
theorem pm_get {σ : pu_S} (hF : 100 ≤ F) (R : rm_is σ ty sh al lk pa tg su pl) (hpa : pp_gd pa) (htg : ∀ e ∈ tg, pg_gd e) (x y : Int32) : ∃ τ, sh_Model_get F 248 x y (pu_mk σ) = some (if pk_t tg x = true ∧ pk_k y = true then (pk_get tg pa y.toNatClampNeg 12 (tg.getD x.toNatClampNeg pg_0).1 1).1 else 0, pu_mk τ) ∧ rm_is τ ty sh al lk pa tg su (if pk_t tg x = true ∧ pk_k y = true then nI (pk_get tg pa y.toNatClampNeg 12 (tg.getD x.toNatClampNeg pg_0).1 1).2 else 0) ∧ pu_fr (fun x => 248 ≤ x) σ τ := by
  obtain ⟨R0, y0⟩ := rm_pl R 0
  have hx := R0.2.2.2.2.2.1.1
  have h16 : tg.length ≤ 16 := by
    have := hx.2.1
    rw [List.length_map] at this
    exact this
  unfold sh_Model_get sh_Model_get_23
  rw [pm_p43, Option.bind_some, pm_i, Option.bind_some, pm_none' hx x, im_b2_s]
  cases ht : pk_t tg x with
  | false =>
    rw [if_neg (show ¬ pb_b (!false) = 0 by decide), if_neg (fun z => by cases z.1), if_neg (fun z => by cases z.1)]
    exact ⟨_, rfl, R0, y0⟩
  | true =>
    rw [if_pos (show pb_b (!true) = 0 from rfl)]
    cases hk : pk_k y with
    | false =>
      have hn : ¬ (true = true ∧ false = true) := fun z => by cases z.2
      rw [if_neg hn, if_neg hn]
      refine ⟨pu_sI σ 248 43 0, ?_, R0, y0⟩
      by_cases h0 : y < 0
      · rw [if_pos h0]
      · by_cases h7 : y ≤ 7
        · obtain ⟨j, hj, rfl⟩ := nI_of2 (M := 7) (n := 7) (by decide) h0 h7
          unfold pk_k at hk
          rw [nI_clamp (by omega)] at hk
          have := of_decide_eq_false hk
          exact absurd ⟨h0, by omega⟩ this
        · rw [if_neg h0, if_neg h7]
    | true =>
      have hy : true = true ∧ true = true := ⟨rfl, rfl⟩
      obtain ⟨t, htl, rfl⟩ := pk_t_s ht
      obtain ⟨k, hkl, rfl⟩ := pk_k_s hk
      have g := htg _ (pb_getG pg_0 htl)
      obtain ⟨τ, e, c, f⟩ := pm_startCut hF hx htl
      have R1 := R0.fr (f.XZ (fun x h => by omega) (fun k h => by unfold pm_V at h; unfold pm_Z; omega))
      obtain ⟨ρ, e2, R2, y2⟩ := pm_get32 (F := F) hF hpa htg hkl 12 F 1 (tg.getD t pg_0).1 τ (by omega) (by omega) g.2.2.1 (pg_h2 g) R1 c
      rw [if_pos hy, if_pos hy, nI_clamp (show t < 2 ^ 31 by omega), nI_clamp (show k < 2 ^ 31 by omega), if_neg (nI_pos (show k < 2 ^ 31 by omega)), if_pos (show nI k ≤ (7 : Int32) from nI_le (b := 7) (by omega) (by decide)), pm_i, Option.bind_some, e, Option.bind_some]
      exact ⟨ρ, e2, R2, (y0.tr (pm_frX_hi f (fun x h => by omega))).tr y2⟩
end MGE
