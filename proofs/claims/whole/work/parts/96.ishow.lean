/-! the model: putMinimised, show -/
section MSH
variable {F : Nat} {σ τ : pu_S} {ty sh : List Nat} {al : List pa_E} {lk pa : List pp_E} {tg : List pg_E} {su : List Nat} {pl : Int32}
theorem pm_putK (hF : 62 ≤ F) {k : pc_C} (hk : pc_gd k) : ∃ τ, sh_Model_putShort F 248 (nI (pv_n k.1)) (nI (pv_n k.2.1)) (nI (pv_n k.2.2)) (pu_mk σ) = some (pu_mk τ) ∧ pm_fm τ (pf_text [] (pc_list k)) ∧ pm_fr (fun x => x = 254) (fun k => k = 13) σ τ := by
  obtain ⟨o1, o2, o3⟩ := pc_gd_vok hk
  have := pm_putShort (F := F) (σ := σ) hF o1 o2 o3 (pc_gd_ne hk)
  rw [pc_gd_text hk] at this
  exact this
theorem pm_z0 : nI (pv_n ([] : List Nat)) = (0 : Int32) := nI_0
def pm_W (k : Nat) : Prop := k = 13 ∨ (28 ≤ k ∧ k ≤ 30)
theorem pm_MW : ∀ k, pm_M k → pm_W k := fun k h => Or.inr h
theorem pm_putMin (hF : 62 ≤ F) {t : Nat} (ht : t < tg.length) (h16 : tg.length ≤ 16) (hn : pm_tgn σ tg) (hk : pc_gd (tg.getD t pg_0).2.1) (hl : pm_pd σ 0 lk) (hg : pp_gd lk) : ∃ τ, sh_Model_putMinimised F 248 (nI t) (pu_mk σ) = some (pu_mk τ) ∧ pm_fm τ (pf_text [] (pc_list (pl_min lk (tg.getD t pg_0).2.1))) ∧ pm_fr (fun x => x = 254) pm_W σ τ := by
  obtain ⟨n1, n2, n3⟩ := hn t ht
  generalize hkk : (tg.getD t pg_0).2.1 = k at *
  obtain ⟨τ1, e1, m1, f1⟩ := pm_maximise (F := F) hF hk hl hg
  have hm := pl_max_gd hk hg
  generalize hmm : pl_max lk k = m at *
  obtain ⟨o1, o2, o3⟩ := pc_gd_vok hm
  have l1 := hl.fr f1 (fun _ _ _ z => z)
  obtain ⟨τ2, e2, f2⟩ := pm_gives (F := F) hF (pc_gd_l hm) hm l1 hg
  have l2 := l1.fr f2 (fun _ _ _ z => z)
  have w1 : pm_fr (fun x => x = 254) pm_W σ τ1 := f1.mono (fun _ z => z.elim) pm_MW
  have w2 : pm_fr (fun x => x = 254) pm_W σ τ2 := w1.tr (f2.mono (fun _ z => z.elim) pm_MW)
  have put : ∀ (ρ : pu_S) (c : pc_C), pc_gd c → pm_fr (fun x => x = 254) pm_W σ ρ → ∃ τ, sh_Model_putShort F 248 (nI (pv_n c.1)) (nI (pv_n c.2.1)) (nI (pv_n c.2.2)) (pu_mk ρ) = some (pu_mk τ) ∧ pm_fm τ (pf_text [] (pc_list c)) ∧ pm_fr (fun x => x = 254) pm_W σ τ := by
    intro ρ c hc hf
    obtain ⟨τ, a, b, d⟩ := pm_putK (F := F) (σ := ρ) hF hc
    exact ⟨τ, a, b, hf.tr (d.mono (fun _ z => z) (fun k z => Or.inl z))⟩
  have e2 : sh_Model_gives F 248 (nI (pv_n m.1)) 0 0 (nI (pv_n m.1)) (nI (pv_n m.2.1)) (nI (pv_n m.2.2)) (pu_mk τ1) = some (pb_b (decide (pl_max lk (m.1, [], []) = m)), pu_mk τ2) := by
    have := e2
    rw [show nI (pv_n (m.1, ([] : List Nat), ([] : List Nat)).2.1) = (0 : Int32) from pm_z0] at this
    exact this
  have p93 : ∀ ρ : pu_S, pm_pd ρ 0 lk → pm_fr (fun x => x = 254) pm_W σ ρ → ∃ τ, sh_Model_putMinimised_93 F 248 (nI (pv_n m.1)) (nI (pv_n m.2.1)) (nI (pv_n m.2.2)) (pu_mk ρ) = some (pu_mk τ) ∧ pm_fm τ (pf_text [] (pc_list (if ¬ m.2.1 = [] ∧ pl_max lk (m.1, m.2.1, []) = m then (m.1, m.2.1, []) else m))) ∧ pm_fr (fun x => x = 254) pm_W σ τ := by
    intro ρ hρ hf
    unfold sh_Model_putMinimised_93 sh_Model_putMinimised_121 sh_Model_putMinimised_129
    by_cases z : m.2.1 = []
    · obtain ⟨τ, a, b, d⟩ := put ρ m hm hf
      rw [if_pos ((pv_z0 o2).mpr z), pm_i, Option.bind_some, a, Option.bind_some, if_neg (fun q => q.1 z)]
      exact ⟨τ, rfl, b, d⟩
    · obtain ⟨τ3, e3, f3⟩ := pm_gives (F := F) hF (pc_gd_ls hm) hm hρ hg
      rw [show nI (pv_n (m.1, m.2.1, ([] : List Nat)).2.2) = (0 : Int32) from pm_z0] at e3
      have w3 := hf.tr (f3.mono (fun _ z => z.elim) pm_MW)
      rw [if_neg (fun q => z ((pv_z0 o2).mp q)), pm_i, Option.bind_some]
      rw [show sh_Model_gives F 248 (nI (pv_n m.1)) (nI (pv_n m.2.1)) 0 (nI (pv_n m.1)) (nI (pv_n m.2.1)) (nI (pv_n m.2.2)) (pu_mk ρ) = _ from e3, im_b2_s]
      by_cases y : pl_max lk (m.1, m.2.1, []) = m
      · obtain ⟨τ, a, b, d⟩ := put τ3 (m.1, m.2.1, []) (pc_gd_ls hm) w3
        rw [show nI (pv_n (m.1, m.2.1, ([] : List Nat)).2.2) = (0 : Int32) from pm_z0] at a
        rw [decide_eq_true y, if_neg (show ¬ pb_b true = 0 by decide), pm_i, Option.bind_some]
        rw [show sh_Model_putShort F 248 (nI (pv_n m.1)) (nI (pv_n m.2.1)) 0 (pu_mk τ3) = _ from a, Option.bind_some, if_pos ⟨z, y⟩]
        exact ⟨τ, rfl, b, d⟩
      · obtain ⟨τ, a, b, d⟩ := put τ3 m hm w3
        rw [decide_eq_false y, if_pos (show pb_b false = 0 from rfl), pm_i, Option.bind_some, a, Option.bind_some, if_neg (fun q => y q.2)]
        exact ⟨τ, rfl, b, d⟩
  unfold sh_Model_putMinimised sh_Model_putMinimised_129
  rw [pm_34, Option.bind_some, pm_l268 σ (show t < 16 by omega), Option.bind_some, n1, pm_35, Option.bind_some, pm_l269 σ (show t < 16 by omega), Option.bind_some, n2, pm_36, Option.bind_some, pm_l270 σ (show t < 16 by omega), Option.bind_some, n3, pm_i, Option.bind_some, e1, Option.bind_some, pm_28, Option.bind_some, m1.1, pm_29, Option.bind_some, m1.2.1, pm_30, Option.bind_some, m1.2.2, pm_i, Option.bind_some, e2, im_b2_s]
  unfold pl_min
  rw [hmm]
  by_cases x : pl_max lk (m.1, [], []) = m
  · obtain ⟨τ, a, b, d⟩ := put τ2 (m.1, [], []) (pc_gd_l hm) w2
    rw [show nI (pv_n (m.1, ([] : List Nat), ([] : List Nat)).2.1) = (0 : Int32) from pm_z0] at a
    rw [decide_eq_true x, if_neg (show ¬ pb_b true = 0 by decide), pm_i, Option.bind_some]
    rw [show sh_Model_putShort F 248 (nI (pv_n m.1)) 0 0 (pu_mk τ2) = _ from a, Option.bind_some, if_pos x]
    exact ⟨τ, rfl, b, d⟩
  · rw [decide_eq_false x, if_pos (show pb_b false = 0 from rfl), if_neg x]
    by_cases z : m.2.2 = []
    · obtain ⟨τ, a, b, d⟩ := p93 τ2 l2 w2
      rw [if_pos ((pv_z0 o3).mpr z), if_neg (show ¬ (¬ m.2.2 = [] ∧ pl_max lk (m.1, [], m.2.2) = m) from fun q => q.1 z)]
      exact ⟨τ, a, b, d⟩
    · obtain ⟨τ3, e3, f3⟩ := pm_gives (F := F) hF (pc_gd_lr hm) hm l2 hg
      rw [show nI (pv_n (m.1, ([] : List Nat), m.2.2).2.1) = (0 : Int32) from pm_z0] at e3
      have l3 := l2.fr f3 (fun _ _ _ z => z)
      have w3 := w2.tr (f3.mono (fun _ z => z.elim) pm_MW)
      rw [if_neg (fun q => z ((pv_z0 o3).mp q)), pm_i, Option.bind_some]
      rw [show sh_Model_gives F 248 (nI (pv_n m.1)) 0 (nI (pv_n m.2.2)) (nI (pv_n m.1)) (nI (pv_n m.2.1)) (nI (pv_n m.2.2)) (pu_mk τ2) = _ from e3, im_b2_s]
      by_cases y : pl_max lk (m.1, [], m.2.2) = m
      · obtain ⟨τ, a, b, d⟩ := put τ3 (m.1, [], m.2.2) (pc_gd_lr hm) w3
        rw [show nI (pv_n (m.1, ([] : List Nat), m.2.2).2.1) = (0 : Int32) from pm_z0] at a
        rw [decide_eq_true y, if_neg (show ¬ pb_b true = 0 by decide), pm_i, Option.bind_some]
        rw [show sh_Model_putShort F 248 (nI (pv_n m.1)) 0 (nI (pv_n m.2.2)) (pu_mk τ3) = _ from a, Option.bind_some, if_pos (show ¬ m.2.2 = [] ∧ pl_max lk (m.1, [], m.2.2) = m from ⟨z, y⟩)]
        exact ⟨τ, rfl, b, d⟩
      · obtain ⟨τ, a, b, d⟩ := p93 τ3 l3 w3
        rw [decide_eq_false y, if_pos (show pb_b false = 0 from rfl), if_neg (show ¬ (¬ m.2.2 = [] ∧ pl_max lk (m.1, [], m.2.2) = m) from fun q => y q.2)]
        exact ⟨τ, a, b, d⟩
theorem pm_sh160 {l : List Nat} (hm : pm_fm σ l) : ∀ (n f i : Nat), i + n = l.length → n + 1 ≤ f → sh_Model_show_160 F f 248 (nI i) (pu_mk (pm_cp σ 274 0 (l.take i))) = some (σ.1 248 41, pu_mk (pm_cp σ 274 0 l)) := by
  have hl := hm.2.2.1
  intro n
  induction n with
  | zero =>
    intro f i hi hf
    obtain ⟨g, rfl⟩ : ∃ g, f = g + 1 := ⟨f - 1, by omega⟩
    have hi' : i = l.length := by omega
    subst hi'
    rw [List.take_length, sh_Model_show_160, pm_13, Option.bind_some, show (pm_cp σ 274 0 l).1 248 13 = nI l.length from hm.1, if_pos (nI_le (Nat.le_refl _) (by omega)), pm_41, Option.bind_some]
    rfl
  | succ n ih =>
    intro f i hi hf
    obtain ⟨g, rfl⟩ : ∃ g, f = g + 1 := ⟨f - 1, by omega⟩
    have hil : i < l.length := by omega
    have src : im_lI (pu_mk (pm_cp σ 274 0 (l.take i))) 2 254 (nI i) = some (nI (l.getD i 0)) := by
      rw [pm_l254 _ (by omega), pm_cp_o (by decide), hm.2.1 i hil]
    have cp := pm_cp1 σ 274 0 hil
    rw [Nat.zero_add] at cp
    rw [sh_Model_show_160, pm_13, Option.bind_some, show (pm_cp σ 274 0 (l.take i)).1 248 13 = nI l.length from hm.1, if_neg (show ¬ nI l.length ≤ nI i from fun z => by rw [nI_leI (by omega) (by omega)] at z; omega), pm_42, Option.bind_some, pm_14, Option.bind_some, src, Option.bind_some, pm_c128 hm.2.2.2, pm_t274 _ _ (show i < 80 by omega), Option.bind_some, nI_1, cp]
    exact ih g (i + 1) (by omega) (by omega)
theorem pm_sh150 (hF : 100 ≤ F) {l : List Nat} (hm : pm_fm σ l) : ∃ τ, sh_Model_show_150 F 248 (pu_mk σ) = some (nI l.length, pu_mk τ) ∧ pm_sh τ l ∧ pm_fr (fun x => x = 274) (fun k => k = 41) σ τ := by
  have hl := hm.2.2.1
  have f0 : pm_fr (fun x => x = 274) (fun k => k = 41) σ (pu_sI σ 248 41 (nI l.length)) := pm_fr.sI rfl
  have m0 : pm_fm (pu_sI σ 248 41 (nI l.length)) l := hm.fr f0 (by decide) (by decide)
  refine ⟨pm_cp (pu_sI σ 248 41 (nI l.length)) 274 0 l, ?_, ⟨?_, fun i hi => ?_, hl, hm.2.2.2⟩, f0.tr (pm_cp_fr rfl)⟩
  · have := pm_sh160 (F := F) m0 l.length F 0 (by omega) (by omega)
    rw [List.take_zero, pm_cp0, nI_0] at this
    unfold sh_Model_show_150
    rw [pm_13, Option.bind_some, hm.1, pm_p41, Option.bind_some, this]
    congr 2
  · show (pu_sI σ 248 41 (nI l.length)).1 248 41 = _
    simp [pu_sI]
  · have := pm_cp_at (σ := pu_sI σ 248 41 (nI l.length)) (h := 274) (off := 0) hi
    rw [Nat.zero_add] at this
    exact this
theorem pm_fs_get {xs : List (List Nat)} (h : pm_fs σ xs) {t : Nat} (ht : t < xs.length) {i : Nat} (hi : i < (xs.getD t []).length) : im_lI (pu_mk σ) 2 266 (nI (80 * t + i)) = some (nI ((xs.getD t []).getD i 0)) := by
  have h16 := h.2.1
  have h80 := (h.2.2.2 _ (pb_getG [] ht)).1
  rw [pm_l266 σ (by omega), (h.2.2.1 t ht).2 i hi]
theorem pm_txt_get {t : Nat} (ht : t < tg.length) : (tg.map pm_txt).getD t [] = pm_txt (tg.getD t pg_0) := by
  rw [List.getD_eq_getElem?_getD, List.getD_eq_getElem?_getD, List.getElem?_map, List.getElem?_eq_getElem ht]
  rfl
theorem pm_sh35 {t : Nat} (hx : pm_fs σ (tg.map pm_txt)) (ht : t < tg.length) (h13 : σ.1 248 13 = nI (pm_txt (tg.getD t pg_0)).length) : ∀ (n f i : Nat), i + n = (pm_txt (tg.getD t pg_0)).length → n + 1 ≤ f → sh_Model_show_35 F f 248 (nI t) (nI i) (pu_mk (pm_cp σ 254 0 ((pm_txt (tg.getD t pg_0)).take i))) = sh_Model_show_150 F 248 (pu_mk (pm_cp σ 254 0 (pm_txt (tg.getD t pg_0)))) := by
  have htl : t < (tg.map pm_txt).length := by rw [List.length_map]; exact ht
  have hrow := hx.2.2.2 _ (pb_getG [] htl)
  have h16 := hx.2.1
  rw [pm_txt_get ht] at hrow
  generalize hl : pm_txt (tg.getD t pg_0) = l at *
  intro n
  induction n with
  | zero =>
    intro f i hi hf
    obtain ⟨g, rfl⟩ : ∃ g, f = g + 1 := ⟨f - 1, by omega⟩
    have hi' : i = l.length := by omega
    subst hi'
    rw [List.take_length, sh_Model_show_35, pm_13, Option.bind_some, show (pm_cp σ 254 0 l).1 248 13 = nI l.length from h13, if_pos (nI_le (Nat.le_refl _) (by omega))]
  | succ n ih =>
    intro f i hi hf
    obtain ⟨g, rfl⟩ : ∃ g, f = g + 1 := ⟨f - 1, by omega⟩
    have hil : i < l.length := by omega
    have ix : (80 : Int32) * nI t + nI i = nI (80 * t + i) := by
      rw [show (80 : Int32) * nI t = nI (80 * t) from pn_mul 80 t, nI_add]
    have src : im_lI (pu_mk (pm_cp σ 254 0 (l.take i))) 2 266 (nI (80 * t + i)) = some (nI (l.getD i 0)) := by
      have h2 := (hx.2.2.1 t htl).2 i (by rw [pm_txt_get ht, hl]; exact hil)
      rw [pm_txt_get ht, hl] at h2
      rw [List.length_map] at h16
      rw [pm_l266 _ (by omega), pm_cp_o (by decide), h2]
    have cp := pm_cp1 σ 254 0 hil
    rw [Nat.zero_add] at cp
    rw [sh_Model_show_35, pm_13, Option.bind_some, show (pm_cp σ 254 0 (l.take i)).1 248 13 = nI l.length from h13, if_neg (show ¬ nI l.length ≤ nI i from fun z => by rw [nI_leI (by omega) (by omega)] at z; omega), pm_14, Option.bind_some, pm_32, Option.bind_some, ix, src, Option.bind_some, pm_c128 hrow.2, pm_t254 _ _ (show i < 80 by omega), Option.bind_some, nI_1, cp]
    exact ih g (i + 1) (by omega) (by omega)
theorem pk_t_n {x : Int32} : pk_t tg x = decide (¬ x < 0 ∧ x.toNatClampNeg < tg.length) := rfl
theorem pm_none' (hx : pm_fs σ (tg.map pm_txt)) (x : Int32) : sh_Model_none F 248 x (pu_mk σ) = some (pb_b (!pk_t tg x), pu_mk σ) := by
  rw [pm_none hx x, List.length_map, pk_t_n]
  congr 3
  by_cases h : ¬ x < 0 ∧ x.toNatClampNeg < tg.length
  · rw [decide_eq_true h, decide_eq_false (fun z => z h)]; rfl
  · rw [decide_eq_false h, decide_eq_true h]; rfl
theorem pm_show (hF : 100 ≤ F) (R : rm_is σ ty sh al lk pa tg su pl) (hg : pp_gd lk) (htg : ∀ e ∈ tg, pg_gd e) (x k : Int32) : ∃ τ, sh_Model_show F 248 x k (pu_mk σ) = some (if pk_t tg x = true ∧ ¬ k < 0 ∧ k ≤ 3 then nI (pk_show lk (tg.getD x.toNatClampNeg pg_0) k.toNatClampNeg).length else -1, pu_mk τ) ∧ pu_fr (fun x => 248 ≤ x) σ τ ∧ rm_is τ ty (if pk_t tg x = true ∧ ¬ k < 0 ∧ k ≤ 3 then pk_show lk (tg.getD x.toNatClampNeg pg_0) k.toNatClampNeg else sh) al lk pa tg su pl := by
  have hx := R.2.2.2.2.2.1.1
  have hn := R.2.2.2.2.2.1.2.1
  have hl := R.2.2.2.1
  have h16 : tg.length ≤ 16 := by
    have := hx.2.1
    rw [List.length_map] at this
    exact this
  -- the end: what is in the form is shown
  have fin : ∀ (ρ : pu_S) (l : List Nat), pm_fm ρ l → pm_fr pm_X pm_Z σ ρ → pu_fr (fun x => 248 ≤ x) σ ρ → ∃ τ, sh_Model_show_150 F 248 (pu_mk ρ) = some (nI l.length, pu_mk τ) ∧ pu_fr (fun x => 248 ≤ x) σ τ ∧ rm_is τ ty l al lk pa tg su pl := by
    intro ρ l hm hf hh
    obtain ⟨τ, e, s, f⟩ := pm_sh150 hF hm
    obtain ⟨a, b, c, d, e', f', g, i⟩ := R.fr hf
    exact ⟨τ, e, hh.tr (pm_frX_hi f (fun x h => by omega)), a.fr f (by decide) (by decide), s, c.fr f (by decide) (fun x _ _ z => by omega), d.fr f (fun x _ _ z => by omega), e'.fr f (fun x _ _ z => by omega), f'.fr f (by decide) (fun x _ _ z => by omega), g.fr f (by decide) (by decide), (f.2 43 (by decide)).trans i⟩
  have W : ∀ ρ : pu_S, pm_fr (fun x => x = 254) pm_W σ ρ → pm_fr pm_X pm_Z σ ρ ∧ pu_fr (fun x => 248 ≤ x) σ ρ := fun ρ h => ⟨h.XZ (fun x h => by omega) (fun k h => by unfold pm_W at h; unfold pm_Z; omega), pm_frX_hi h (fun x h => by omega)⟩
  unfold sh_Model_show sh_Model_show_17
  rw [pm_i, Option.bind_some, pm_none' hx x, im_b2_s]
  cases ht : pk_t tg x with
  | false =>
    rw [if_neg (show ¬ pb_b (!false) = 0 by decide), if_neg (fun z => by cases z.1), if_neg (fun z => by cases z.1)]
    exact ⟨σ, rfl, pu_fr.rf, R⟩
  | true =>
    obtain ⟨t, htl, rfl⟩ := pk_t_s ht
    have h31 : t < 2 ^ 31 := by omega
    rw [if_pos (show pb_b (!true) = 0 from rfl), nI_clamp h31]
    have hgd := htg _ (pb_getG pg_0 htl)
    obtain ⟨n1, n2, n3⟩ := hn t htl
    by_cases k0 : k < 0
    · rw [if_pos k0, if_neg (fun z => z.2.1 k0), if_neg (fun z => z.2.1 k0)]
      exact ⟨σ, rfl, pu_fr.rf, R⟩
    rw [if_neg k0]
    by_cases k3 : k ≤ 3
    · have kk : true = true ∧ ¬ k < 0 ∧ k ≤ 3 := ⟨rfl, k0, k3⟩
      rw [if_pos k3, if_pos kk, if_pos kk]
      obtain ⟨j, hj, rfl⟩ := nI_of2 (M := 3) (n := 3) (by decide) k0 k3
      rw [nI_clamp (show j < 2 ^ 31 by omega)]
      have q0 : nI j = (0 : Int32) ↔ j = 0 := by
        have := nI_eq (a := j) (b := 0) (by omega) (by decide)
        rw [nI_0] at this
        exact this
      have q1 : nI j = (1 : Int32) ↔ j = 1 := nI_eq (b := 1) (by omega) (by decide)
      have q2 : nI j = (2 : Int32) ↔ j = 2 := nI_eq (b := 2) (by omega) (by decide)
      by_cases j0 : j = 0
      · subst j0
        have e : pk_show lk (tg.getD t pg_0) 0 = pm_txt (tg.getD t pg_0) := rfl
        rw [e, if_pos (show nI 0 = (0 : Int32) from nI_0)]
        have htl' : t < (tg.map pm_txt).length := by rw [List.length_map]; exact htl
        have hlen := (hx.2.2.1 t htl').1
        have hrow := hx.2.2.2 _ (pb_getG [] htl')
        rw [pm_txt_get htl] at hlen hrow
        generalize hll : pm_txt (tg.getD t pg_0) = l at *
        have f0 : pm_fr (fun x => x = 254) pm_W σ (pu_sI σ 248 13 (nI l.length)) := pm_fr.sI (Or.inl rfl)
        have x0 : pm_fs (pu_sI σ 248 13 (nI l.length)) (tg.map pm_txt) := hx.fr f0 (by unfold pm_W; omega) (by decide) (by decide)
        have loop := pm_sh35 (F := F) x0 htl (by rw [hll]; simp [pu_sI]) l.length F 0 (by rw [hll]; omega) (by omega)
        rw [hll, List.take_zero, pm_cp0, nI_0] at loop
        have fm : pm_fm (pm_cp (pu_sI σ 248 13 (nI l.length)) 254 0 l) l := by
          refine ⟨?_, fun i hi => ?_, hrow.1, hrow.2⟩
          · show (pu_sI σ 248 13 (nI l.length)).1 248 13 = _
            simp [pu_sI]
          · have := pm_cp_at (σ := pu_sI σ 248 13 (nI l.length)) (h := 254) (off := 0) hi
            rw [Nat.zero_add] at this
            exact this
        obtain ⟨w1, w2⟩ := W _ (f0.tr (pm_cp_fr (h := 254) (off := 0) (l := l) rfl))
        rw [pm_33, Option.bind_some, pm_l267 σ (show t < 16 by omega), Option.bind_some, hlen, pm_p13, Option.bind_some, loop]
        exact fin _ l fm w1 w2
      rw [if_neg (fun z => j0 (q0.mp z))]
      by_cases j1 : j = 1
      · subst j1
        have e : pk_show lk (tg.getD t pg_0) 1 = pf_text [] (pc_list (tg.getD t pg_0).2.1) := rfl
        obtain ⟨ρ, a, b, d⟩ := pm_putK (F := F) (σ := σ) (by omega) hgd.1
        obtain ⟨w1, w2⟩ := W ρ (d.mono (fun _ z => z) (fun k z => Or.inl z))
        rw [if_pos (q1.mpr rfl), pm_34, Option.bind_some, pm_l268 σ (show t < 16 by omega), Option.bind_some, n1, pm_35, Option.bind_some, pm_l269 σ (show t < 16 by omega), Option.bind_some, n2, pm_36, Option.bind_some, pm_l270 σ (show t < 16 by omega), Option.bind_some, n3, pm_i, Option.bind_some, a, Option.bind_some, e]
        exact fin ρ _ b w1 w2
      rw [if_neg (fun z => j1 (q1.mp z))]
      by_cases j2 : j = 2
      · subst j2
        have e : pk_show lk (tg.getD t pg_0) 2 = pf_text [] (pc_list (pl_max lk (tg.getD t pg_0).2.1)) := rfl
        obtain ⟨ρ, a, b, d⟩ := pm_maximise (F := F) (by omega) hgd.1 hl hg
        obtain ⟨ω, a', b', d'⟩ := pm_putK (F := F) (σ := ρ) (by omega) (pl_max_gd hgd.1 hg)
        obtain ⟨w1, w2⟩ := W ω ((d.mono (fun _ z => z.elim) pm_MW).tr (d'.mono (fun _ z => z) (fun k z => Or.inl z)))
        rw [if_pos (q2.mpr rfl), pm_34, Option.bind_some, pm_l268 σ (show t < 16 by omega), Option.bind_some, n1, pm_35, Option.bind_some, pm_l269 σ (show t < 16 by omega), Option.bind_some, n2, pm_36, Option.bind_some, pm_l270 σ (show t < 16 by omega), Option.bind_some, n3, pm_i, Option.bind_some, a, Option.bind_some, pm_28, Option.bind_some, b.1, pm_29, Option.bind_some, b.2.1, pm_30, Option.bind_some, b.2.2, pm_i, Option.bind_some, a', Option.bind_some, e]
        exact fin ω _ b' w1 w2
      · have e : pk_show lk (tg.getD t pg_0) j = pf_text [] (pc_list (pl_min lk (tg.getD t pg_0).2.1)) := by
          unfold pk_show
          rw [if_neg j0, if_neg j1, if_neg j2]
        obtain ⟨ρ, a, b, d⟩ := pm_putMin (F := F) (by omega) htl h16 hn hgd.1 hl hg
        obtain ⟨w1, w2⟩ := W ρ d
        rw [if_neg (fun z => j2 (q2.mp z)), pm_i, Option.bind_some, a, Option.bind_some, e]
        exact fin ρ _ b w1 w2
    · rw [if_neg k3, if_neg (fun z => k3 z.2.2), if_neg (fun z => k3 z.2.2)]
      exact ⟨σ, rfl, pu_fr.rf, R⟩
end MSH
