/-! the model: leads, maximise -/
theorem pc_gd_mix {k m n : pc_C} (hk : pc_gd k) (hm : pc_gd m) (hn : pc_gd n) : pc_gd (k.1, m.2.1, n.2.2) := by
  obtain ⟨b, c, e1, e2, h1, h2, h3, h4, h5, h6⟩ := hk
  obtain ⟨b', c', e1', e2', h1', h2', h3', h4', h5', h6'⟩ := hm
  obtain ⟨b'', c'', e1'', e2'', h1'', h2'', h3'', h4'', h5'', h6''⟩ := hn
  exact ⟨b', c'', e1', e2'', h1, h2', h3'', h4, h5', h6''⟩
theorem pc_gd_und : pc_gd (pc_und, [], []) := ⟨[], [], rfl, rfl, ⟨by decide, by decide⟩, pb_lw0, pb_lw0, by decide, Or.inl rfl, Or.inl rfl⟩
theorem pc_gd_l {k : pc_C} (hk : pc_gd k) : pc_gd (k.1, [], []) := pc_gd_mix (m := (pc_und, [], [])) (n := (pc_und, [], [])) hk pc_gd_und pc_gd_und
theorem pc_gd_ls {k : pc_C} (hk : pc_gd k) : pc_gd (k.1, k.2.1, []) := pc_gd_mix (n := (pc_und, [], [])) hk hk pc_gd_und
theorem pc_gd_lr {k : pc_C} (hk : pc_gd k) : pc_gd (k.1, [], k.2.2) := pc_gd_mix (m := (pc_und, [], [])) hk pc_gd_und hk
theorem pc_gd_us {k : pc_C} (hk : pc_gd k) : pc_gd (pc_und, k.2.1, []) := pc_gd_mix (k := (pc_und, [], [])) (n := (pc_und, [], [])) pc_gd_und hk pc_gd_und
def pp_gd (l : List pp_E) : Prop := ∀ e ∈ l, pc_gd e.1 ∧ pc_gd e.2
theorem pc_gd_eq {k m : pc_C} (hk : pc_gd k) (hm : pc_gd m) : (pv_n k.1 = pv_n m.1 ∧ pv_n k.2.1 = pv_n m.2.1 ∧ pv_n k.2.2 = pv_n m.2.2) ↔ k = m := by
  rw [pc_gd_1 hk hm, pc_gd_2 hk hm, pc_gd_3 hk hm]
  constructor
  · rintro ⟨a, b, c⟩
    obtain ⟨k1, k2, k3⟩ := k
    obtain ⟨m1, m2, m3⟩ := m
    dsimp only at a b c
    rw [a, b, c]
  · rintro rfl
    exact ⟨rfl, rfl, rfl⟩
theorem pp_gd_get {l : List pp_E} (h : pp_gd l) {i : Nat} (hi : i < l.length) : pc_gd (l.getD i pp_0).1 ∧ pc_gd (l.getD i pp_0).2 := h _ (pb_getG pp_0 hi)
theorem pc_gd_31 {k : pc_C} (hk : pc_gd k) : pv_n k.1 < 2 ^ 31 ∧ pv_n k.2.1 < 2 ^ 31 ∧ pv_n k.2.2 < 2 ^ 31 := by
  obtain ⟨a, b, c⟩ := pc_gd_vok hk
  exact ⟨pv_lt31 a, pv_lt31 b, pv_lt31 c⟩
def pm_ld (l : List pp_E) (k : pc_C) : Option Nat := l.findIdx? (fun e => decide (e.1 = k))
def pm_od (d : Nat) (o : Option Nat) : Int32 := match o with
  | none => -1
  | some i => nI (10 * d + i)
section MLE
variable {F : Nat} {σ : pu_S} {lk : List pp_E} {k : pc_C}
theorem pm_leads_6 {d : Nat} (hd : d < 2) (hk : pc_gd k) (hl : pm_pd σ d lk) (hg : pp_gd lk) : ∀ (n f i : Nat), i + n = lk.length → n + 1 ≤ f → sh_Model_leads_6 F f 248 (nI d) (nI (pv_n k.1)) (nI (pv_n k.2.1)) (nI (pv_n k.2.2)) (nI (10 * d + i)) (pu_mk σ) = some (pm_od d (((lk.drop i).findIdx? (fun e => decide (e.1 = k))).map (· + i)), pu_mk σ) := by
  obtain ⟨l1, l2, l3⟩ := hl
  obtain ⟨b1, b2, b3⟩ := pc_gd_31 hk
  have ed : (10 : Int32) * nI d = nI (10 * d) := pn_mul 10 d
  intro n
  induction n with
  | zero =>
    intro f i hi hf
    obtain ⟨g, rfl⟩ : ∃ g, f = g + 1 := ⟨f - 1, by omega⟩
    have hi' : i = lk.length := by omega
    subst hi'
    rw [sh_Model_leads_6, pm_21, Option.bind_some, pm_l259 σ hd, Option.bind_some, l1, ed, nI_add, if_pos (nI_le (Nat.le_refl _) (by omega)), List.drop_length]
    rfl
  | succ n ih =>
    intro f i hi hf
    obtain ⟨g, rfl⟩ : ∃ g, f = g + 1 := ⟨f - 1, by omega⟩
    have hil : i < lk.length := by omega
    obtain ⟨⟨p1, p2, p3⟩, -⟩ := l3 i hil
    have hge := (pp_gd_get hg hil).1
    obtain ⟨c1, c2, c3⟩ := pc_gd_31 hge
    have E := pc_gd_eq hge hk
    have step : sh_Model_leads_59 F (sh_Model_leads_6 F g) 248 (nI d) (nI (pv_n k.1)) (nI (pv_n k.2.1)) (nI (pv_n k.2.2)) (nI (10 * d + i)) (pu_mk σ) = some (pm_od d (((lk.drop (i + 1)).findIdx? (fun e => decide (e.1 = k))).map (· + (i + 1))), pu_mk σ) := by
      unfold sh_Model_leads_59
      rw [nI_1]
      exact ih g (i + 1) (by omega) (by omega)
    have nxt : ¬ (lk.getD i pp_0).1 = k → (((lk.drop i).findIdx? (fun e => decide (e.1 = k))).map (· + i)) = (((lk.drop (i + 1)).findIdx? (fun e => decide (e.1 = k))).map (· + (i + 1))) := by
      intro hne
      rw [pb_dropG pp_0 hil, List.findIdx?_cons, decide_eq_false hne]
      cases (lk.drop (i + 1)).findIdx? (fun e => decide (e.1 = k)) with
      | none => rfl
      | some j =>
        show some (j + 1 + i) = some (j + (i + 1))
        congr 1
        omega
    rw [sh_Model_leads_6, pm_21, Option.bind_some, pm_l259 σ hd, Option.bind_some, l1, ed, nI_add, if_neg (show ¬ nI (10 * d + lk.length) ≤ nI (10 * d + i) from fun z => by rw [nI_leI (by omega) (by omega)] at z; omega), pm_22, Option.bind_some, pm_l260 σ (show 10 * d + i < 20 by omega), Option.bind_some, p1]
    by_cases h1 : pv_n (lk.getD i pp_0).1.1 = pv_n k.1
    · rw [if_pos ((nI_eq c1 b1).mpr h1), pm_23, Option.bind_some, pm_l261 σ (show 10 * d + i < 20 by omega), Option.bind_some, p2]
      by_cases h2 : pv_n (lk.getD i pp_0).1.2.1 = pv_n k.2.1
      · rw [if_pos ((nI_eq c2 b2).mpr h2), pm_24, Option.bind_some, pm_l262 σ (show 10 * d + i < 20 by omega), Option.bind_some, p3]
        by_cases h3 : pv_n (lk.getD i pp_0).1.2.2 = pv_n k.2.2
        · rw [if_pos ((nI_eq c3 b3).mpr h3), pb_dropG pp_0 hil, List.findIdx?_cons, decide_eq_true (E.mp ⟨h1, h2, h3⟩)]
          show some (nI (10 * d + i), pu_mk σ) = some (nI (10 * d + (0 + i)), pu_mk σ)
          rw [Nat.zero_add]
        · rw [if_neg (fun z => h3 ((nI_eq c3 b3).mp z)), step, nxt (fun z => h3 (E.mpr z).2.2)]
      · rw [if_neg (fun z => h2 ((nI_eq c2 b2).mp z)), step, nxt (fun z => h2 (E.mpr z).2.1)]
    · rw [if_neg (fun z => h1 ((nI_eq c1 b1).mp z)), step, nxt (fun z => h1 (E.mpr z).1)]
theorem pm_leads (hF : 62 ≤ F) {d : Nat} (hd : d < 2) (hk : pc_gd k) (hl : pm_pd σ d lk) (hg : pp_gd lk) : sh_Model_leads F 248 (nI d) (nI (pv_n k.1)) (nI (pv_n k.2.1)) (nI (pv_n k.2.2)) (pu_mk σ) = some (pm_od d (pm_ld lk k), pu_mk σ) := by
  have h10 := hl.2.1
  have := pm_leads_6 (F := F) hd hk hl hg lk.length F 0 (by omega) (by omega)
  unfold sh_Model_leads
  rw [show (10 : Int32) * nI d = nI (10 * d) from pn_mul 10 d]
  rw [Nat.add_zero, List.drop_zero] at this
  rw [this]
  unfold pm_ld
  cases lk.findIdx? (fun e => decide (e.1 = k)) <;> rfl
theorem pm_od0 (o : Option Nat) : pm_od 0 o = pr_n o := by
  cases o with
  | none => rfl
  | some i => show nI (10 * 0 + i) = nI i; rw [Nat.mul_zero, Nat.zero_add]
theorem pm_leads0 (hF : 62 ≤ F) (hk : pc_gd k) (hl : pm_pd σ 0 lk) (hg : pp_gd lk) : sh_Model_leads F 248 0 (nI (pv_n k.1)) (nI (pv_n k.2.1)) (nI (pv_n k.2.2)) (pu_mk σ) = some (pr_n (pm_ld lk k), pu_mk σ) := by
  have := pm_leads (d := 0) hF (by decide) hk hl hg
  rw [pm_od0, nI_0] at this
  exact this
theorem pr_n_pos (o : Option Nat) (h : ∀ i, o = some i → i < 2 ^ 31) : ((0 : Int32) ≤ pr_n o) ↔ ∃ i, o = some i := by
  cases o with
  | none => exact ⟨fun z => absurd z (by decide), fun ⟨i, hi⟩ => by cases hi⟩
  | some i => exact ⟨fun _ => ⟨i, rfl⟩, fun _ => nI_pos' (h i rfl)⟩
theorem pm_ld_lt {i : Nat} (h : pm_ld lk k = some i) : i < lk.length := (List.findIdx?_eq_some_iff_getElem.mp h).1
theorem pv_z0 {s : List Nat} (h : pv_ok s) : nI (pv_n s) ≤ 0 ↔ s = [] := pv_n0 h
theorem pv_zz {s : List Nat} (h : pv_ok s) : nI (pv_n s) = 0 ↔ s = [] := by
  have := nI_eq (b := 0) (pv_lt31 h) (by decide)
  rw [nI_0] at this
  rw [this, pv_z h]
theorem pm_undn : pv_n pc_und = 29271 := by decide +kernel
theorem pm_undq {k : pc_C} (hk : pc_gd k) : nI (pv_n k.1) = (29271 : Int32) ↔ k.1 = pc_und := by
  have := nI_eq (a := pv_n k.1) (b := pv_n pc_und) (pc_gd_31 hk).1 (by rw [pm_undn]; decide)
  rw [pm_undn] at this
  have h2 := pc_gd_1 hk pc_gd_und
  rw [show pv_n (pc_und, ([] : List Nat), ([] : List Nat)).1 = 29271 from pm_undn] at h2
  exact this.trans h2
/-- the three results -/
def pm_mx (τ : pu_S) (m : pc_C) : Prop := τ.1 248 28 = nI (pv_n m.1) ∧ τ.1 248 29 = nI (pv_n m.2.1) ∧ τ.1 248 30 = nI (pv_n m.2.2)
def pm_M (k : Nat) : Prop := 28 ≤ k ∧ k ≤ 30
def pm_fl (lk : List pp_E) (k : pc_C) (o : Option Nat) : pc_C := match o with
  | some i => pc_fill k (lk.getD i pp_0).2
  | none => k
theorem pm_mx147 (hk : pc_gd k) (hl : pm_pd σ 0 lk) (hg : pp_gd lk) {o : Option Nat} (ho : ∀ i, o = some i → i < lk.length) (h0 : pm_mx σ k) : ∃ τ, sh_Model_maximise_147 F 248 (nI (pv_n k.1)) (nI (pv_n k.2.1)) (nI (pv_n k.2.2)) (pr_n o) (pu_mk σ) = some (pu_mk τ) ∧ pm_mx τ (pm_fl lk k o) ∧ pm_fr (fun _ => False) pm_M σ τ := by
  have h10 := hl.2.1
  obtain ⟨o1, o2, o3⟩ := pc_gd_vok hk
  cases o with
  | none =>
    refine ⟨σ, ?_, h0, pm_fr.rf⟩
    unfold sh_Model_maximise_147 sh_Model_maximise_215
    rw [if_pos (show pr_n none < 0 by decide)]
  | some i =>
    have hi := ho i rfl
    obtain ⟨-, p4, p5, p6⟩ := hl.2.2 i hi
    rw [Nat.mul_zero, Nat.zero_add] at p4 p5 p6
    have l4 : ∀ ρ : pu_S, (∀ x j, ρ.2.2.1 x j = σ.2.2.1 x j) → im_lI (pu_mk ρ) 0 263 (nI i) = some (nI (pv_n (lk.getD i pp_0).2.1)) := fun ρ hρ => by rw [pm_l263 ρ (by omega), hρ, p4]
    have l5 : ∀ ρ : pu_S, (∀ x j, ρ.2.2.1 x j = σ.2.2.1 x j) → im_lI (pu_mk ρ) 0 264 (nI i) = some (nI (pv_n (lk.getD i pp_0).2.2.1)) := fun ρ hρ => by rw [pm_l264 ρ (by omega), hρ, p5]
    have l6 : ∀ ρ : pu_S, (∀ x j, ρ.2.2.1 x j = σ.2.2.1 x j) → im_lI (pu_mk ρ) 0 265 (nI i) = some (nI (pv_n (lk.getD i pp_0).2.2.2)) := fun ρ hρ => by rw [pm_l265 ρ (by omega), hρ, p6]
    have a3 : ∀ ρ : pu_S, (∀ x j, ρ.2.2.1 x j = σ.2.2.1 x j) → ∀ v, sh_Model_maximise_193 F 248 (nI (pv_n k.2.2)) (nI i) v 248 (pu_mk ρ) = some (pu_mk (pu_sI (pu_sI ρ 248 29 v) 248 30 (nI (pv_n (if k.2.2 = [] then (lk.getD i pp_0).2.2.2 else k.2.2))))) := by
      intro ρ hρ v
      unfold sh_Model_maximise_193 sh_Model_maximise_212 sh_Model_maximise_215
      rw [pm_p29, Option.bind_some]
      by_cases z : k.2.2 = []
      · rw [if_pos ((pv_zz o3).mpr z), if_pos z, pm_27, Option.bind_some, l6 (pu_sI ρ 248 29 v) (fun x j => hρ x j), Option.bind_some, pm_p30, Option.bind_some]
      · rw [if_neg (fun q => z ((pv_zz o3).mp q)), if_neg z, pm_p30, Option.bind_some]
    have a2 : ∀ ρ : pu_S, (∀ x j, ρ.2.2.1 x j = σ.2.2.1 x j) → ∀ v, sh_Model_maximise_174 F 248 (nI (pv_n k.2.1)) (nI (pv_n k.2.2)) (nI i) v 248 (pu_mk ρ) = some (pu_mk (pu_sI (pu_sI (pu_sI ρ 248 28 v) 248 29 (nI (pv_n (if k.2.1 = [] then (lk.getD i pp_0).2.2.1 else k.2.1)))) 248 30 (nI (pv_n (if k.2.2 = [] then (lk.getD i pp_0).2.2.2 else k.2.2))))) := by
      intro ρ hρ v
      unfold sh_Model_maximise_174
      rw [pm_p28, Option.bind_some]
      by_cases z : k.2.1 = []
      · rw [if_pos ((pv_zz o2).mpr z), if_pos z, pm_26, Option.bind_some, l5 (pu_sI ρ 248 28 v) (fun x j => hρ x j), Option.bind_some, a3 (pu_sI ρ 248 28 v) (fun x j => hρ x j)]
      · rw [if_neg (fun q => z ((pv_zz o2).mp q)), if_neg z, a3 (pu_sI ρ 248 28 v) (fun x j => hρ x j)]
    refine ⟨pu_sI (pu_sI (pu_sI σ 248 28 (nI (pv_n (if k.1 = pc_und then (lk.getD i pp_0).2.1 else k.1)))) 248 29 (nI (pv_n (if k.2.1 = [] then (lk.getD i pp_0).2.2.1 else k.2.1)))) 248 30 (nI (pv_n (if k.2.2 = [] then (lk.getD i pp_0).2.2.2 else k.2.2))), ?_, ?_, ?_⟩
    · unfold sh_Model_maximise_147
      rw [show pr_n (some i) = nI i from rfl, if_neg (nI_pos (by omega)), pm_i, Option.bind_some]
      unfold sh_Model_und
      rw [im_b2_s]
      by_cases z : k.1 = pc_und
      · rw [if_pos ((pm_undq hk).mpr z), if_pos z, pm_25, Option.bind_some, l4 σ (fun _ _ => rfl), Option.bind_some, a2 σ (fun _ _ => rfl)]
      · rw [if_neg (fun q => z ((pm_undq hk).mp q)), if_neg z, a2 σ (fun _ _ => rfl)]
    · refine ⟨?_, ?_, ?_⟩ <;> simp [pu_sI, pc_fill, pm_fl]
    · exact ((pm_fr.rf.aI (T := pm_M) (k := 28) (by unfold pm_M; decide) _).aI (k := 29) (by unfold pm_M; decide) _).aI (k := 30) (by unfold pm_M; decide) _
end MLE
