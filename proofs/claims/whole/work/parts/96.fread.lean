section MRE
variable {F : Nat} {σ τ : pu_S} {ty sh : List Nat} {al : List pa_E} {lk pa : List pp_E} {tg : List pg_E} {su : List Nat} {pl : Int32}
theorem pm_fr.XZ {S T : Nat → Prop} (h : pm_fr S T σ τ) (h1 : ∀ x, S x → 250 ≤ x ∧ x ≤ 255) (h2 : ∀ k, T k → pm_Z k) : pm_fr pm_X pm_Z σ τ := h.mono (fun x hx => Or.inr (h1 x hx)) h2
theorem pm_frX_hi {S T : Nat → Prop} (h : pm_fr S T σ τ) (h1 : ∀ x, S x → 250 ≤ x) : pu_fr (fun x => 248 ≤ x) σ τ := h.hi (fun x hx => by have := h1 x hx; omega)
theorem pm_TZ : ∀ k, pm_T k → pm_Z k := fun k h => by unfold pm_T at h; unfold pm_Z; omega
theorem rm_wiped (h : rm_is σ ty sh al lk pa tg su pl) : rm_is (pu_sI σ 248 0 0) [] sh al lk pa tg su pl := by
  obtain ⟨a, b, c, d, e, f, g, i⟩ := h
  have hf : pm_fr (fun _ => False) (fun k => k = 0) σ (pu_sI σ 248 0 0) := pm_fr.sI rfl
  exact ⟨⟨by simp [pu_sI, nI_0], fun i hi => (by simp at hi), by simp, by simp⟩, b.fr hf (fun z => z) (by decide), c.fr hf (by decide) (fun _ _ _ z => z), d.fr hf (fun _ _ _ z => z), e.fr hf (fun _ _ _ z => z), f.fr hf (by decide) (fun _ _ _ z => z), g.fr hf (fun z => z) (by decide), (hf.2 43 (by decide)).trans i⟩
theorem pm_read (hF : 100 ≤ F) (R : rm_is σ ty sh al lk pa tg su pl) (hal : pa_gd al) (htg : ∀ e ∈ tg, pg_gd e) : ∃ τ, sh_Model_read F 248 (pu_mk σ) = some ((pk_read ty al tg).1, pu_mk τ) ∧ pu_fr (fun x => 248 ≤ x) σ τ ∧ (match (pk_read ty al tg).2 with
    | none => rm_is τ ty sh al lk pa tg su pl
    | some tg' => rm_is τ [] sh al lk pa tg' su pl) := by
  have hp := R.1
  have h60 := hp.2.2.1
  obtain ⟨τ1, v, e1, f1, m1⟩ := pm_cutting hF hp R.2.2.1 hal (Nat.zero_le ty.length) (Nat.le_refl _)
  rw [nI_0] at e1
  have f1X : pm_fr pm_X pm_Z σ τ1 := f1.XZ (fun x h => by unfold pm_S at h; omega) pm_TZ
  have R1 := R.fr f1X
  have f1h : pu_fr (fun x => 248 ≤ x) σ τ1 := pm_frX_hi f1 (fun x h => by unfold pm_S at h; omega)
  unfold pk_read sh_Model_read
  rw [pm_0, Option.bind_some, hp.1, pm_i, Option.bind_some, e1, im_b2_s]
  cases hc : pr_cut ty 0 ty.length with
  | inl e =>
    rw [hc] at m1
    have m1 : v = nI (e + 0) := m1
    have he := pr_cut_err h60 _ _ _ hc
    rw [m1, Nat.add_zero, if_neg (nI_pos (by omega))]
    exact ⟨τ1, rfl, f1h, R1⟩
  | inr rd =>
    rw [hc] at m1
    have m1 : v = -1 ∧ ∃ A, pm_ps τ1 ty A ∧ pm_rd ty al rd A := m1
    obtain ⟨mv, A, hA, hrd⟩ := m1
    obtain ⟨τ2, e2, m2, f2⟩ := pm_forming hF R1.1 hA hrd hc hal
    have f2X : pm_fr pm_X pm_Z τ1 τ2 := f2.XZ (fun x h => by omega) (fun k h => by unfold pm_Z; omega)
    have R2 := R1.fr f2X
    have f2h : pu_fr (fun x => 248 ≤ x) σ τ2 := f1h.tr (pm_frX_hi f2 (fun x h => by omega))
    have hgd := pg_read hp.2.2.2 h60 hc hal (fun _ => none)
    have hfind := pm_find (F := F) m2 R2.2.2.2.2.2.1.1 (by omega)
    have hxs : (tg.map pm_txt).findIdx? (fun x => decide (x = pf_text [] (pr_form al rd))) = pf_at? tg (pr_form al rd) := pf_find (fun e he => (htg e he).2.2.1) hgd.2.2.1
    rw [hxs] at hfind
    rw [mv, if_pos (by decide), pm_i, Option.bind_some, e2, Option.bind_some, pm_i, Option.bind_some, hfind, im_b2_s]
    dsimp only
    have cnt : τ2.1 248 31 = nI tg.length := by
      have := R2.2.2.2.2.2.1.1.1
      rw [List.length_map] at this
      exact this
    have h16 : tg.length ≤ 16 := by
      have := R2.2.2.2.2.2.1.1.2.1
      rw [List.length_map] at this
      exact this
    have fw : pu_fr (fun x => 248 ≤ x) σ (pu_sI τ2 248 0 0) := f2h.tr (pm_frX_hi (S := fun _ => False) (T := fun k => k = 0) (pm_fr.sI rfl) (fun x h => h.elim))
    cases hat : pf_at? tg (pr_form al rd) with
    | some i =>
      have hi : i < tg.length := (List.findIdx?_eq_some_iff_getElem.mp hat).1
      rw [show pr_n (some i) = nI i from rfl, if_pos (nI_pos' (by omega))]
      unfold sh_Model_read_44
      rw [pm_p0, Option.bind_some, if_neg (nI_pos (by omega))]
      exact ⟨_, rfl, fw, rm_wiped R2⟩
    | none =>
      rw [show pr_n none = (-1 : Int32) from rfl, if_neg (show ¬ (0 : Int32) ≤ -1 by decide), pm_31, Option.bind_some, cnt]
      have k16 : nI tg.length = (16 : Int32) ↔ tg.length = 16 := nI_eq (b := 16) (by omega) (by decide)
      dsimp only
      by_cases hfull : tg.length = 16
      · rw [if_pos (k16.mpr hfull), if_pos (show 16 ≤ tg.length by omega)]
        exact ⟨τ2, rfl, f2h, R2⟩
      · rw [if_neg (fun z => hfull (k16.mp z)), if_neg (show ¬ 16 ≤ tg.length by omega)]
        unfold sh_Model_read_44
        rw [pm_p0, Option.bind_some, if_pos (by decide)]
        have fz : pm_fr (fun _ => False) (fun k => k = 0) τ2 (pu_sI τ2 248 0 0) := pm_fr.sI rfl
        have m3 : pm_fm (pu_sI τ2 248 0 0) (pf_text [] (pr_form al rd)) := m2.fr fz (fun z => z) (by decide)
        have cnt3 : (pu_sI τ2 248 0 0).1 248 31 = nI tg.length := (fz.2 31 (by decide)).trans cnt
        have hps := (hA.1)
        rw [hrd.1] at hps
        have g2 : (pu_sI τ2 248 0 0).1 248 2 = nI (pv_n (pr_core al rd).1) := ((fz.2 2 (by decide)).trans (f2.2 2 (by decide))).trans hps.1
        have g3 : (pu_sI τ2 248 0 0).1 248 3 = nI (pv_n (pr_core al rd).2.1) := ((fz.2 3 (by decide)).trans (f2.2 3 (by decide))).trans hps.2.1
        have g4 : (pu_sI τ2 248 0 0).1 248 4 = nI (pv_n (pr_core al rd).2.2) := ((fz.2 4 (by decide)).trans (f2.2 4 (by decide))).trans hps.2.2
        have R3 := rm_wiped R2
        have hlen := hgd.2.2.2.2.1
        have loop := pm_rd57 (F := F) m3 cnt3 (show tg.length < 16 by omega) (pf_text [] (pr_form al rd)).length F 0 (by omega) (by have : (pf_text [] (pr_form al rd)).length ≤ 62 := hlen; omega)
        rw [List.take_zero, pm_cp0, nI_0] at loop
        have fin := pm_rd57e (F := F) m3 cnt3 (show tg.length < 16 by omega) g2 g3 g4
        refine ⟨_, loop.trans fin, ?_, ?_⟩
        · refine fw.tr ?_
          refine pm_frX_hi (S := fun x => 266 ≤ x ∧ x ≤ 270) (T := fun k => k = 31) ?_ (fun x h => by omega)
          exact ((((pm_fr.aA (pm_cp_fr (S := fun x => 266 ≤ x ∧ x ≤ 270) (T := fun k => k = 31) (h := 266) (by decide)) (x := 267) (by decide) _ _).aA (x := 268) (by decide) _ _).aA (x := 269) (by decide) _ _).aA (x := 270) (by decide) _ _).aI rfl _
        · obtain ⟨a, b, c, d, e, f, g, i⟩ := R3
          have tgn := pm_tg_add f (show tg.length < 16 by omega) (e := (pr_form al rd, pr_core al rd, fun _ => none)) (fun _ => rfl) (by show (pf_text [] (pr_form al rd)).length ≤ 80; have : (pf_text [] (pr_form al rd)).length ≤ 62 := hlen; omega) m3.2.2.2
          have ff : pm_fr (fun x => 266 ≤ x ∧ x ≤ 270) (fun k => k = 31) (pu_sI τ2 248 0 0) (pu_sI (pu_sA (pu_sA (pu_sA (pu_sA (pm_cp (pu_sI τ2 248 0 0) 266 (80 * tg.length) (pf_text [] (pr_form al rd))) 267 tg.length (nI (pf_text [] (pr_form al rd)).length)) 268 tg.length (nI (pv_n (pr_core al rd).1))) 269 tg.length (nI (pv_n (pr_core al rd).2.1))) 270 tg.length (nI (pv_n (pr_core al rd).2.2))) 248 31 (nI (tg.length + 1))) := ((((pm_fr.aA (pm_cp_fr (S := fun x => 266 ≤ x ∧ x ≤ 270) (T := fun k => k = 31) (h := 266) (by decide)) (x := 267) (by decide) _ _).aA (x := 268) (by decide) _ _).aA (x := 269) (by decide) _ _).aA (x := 270) (by decide) _ _).aI rfl _
          exact ⟨a.fr ff (by decide) (by decide), b.fr ff (by decide) (by decide), c.fr ff (by decide) (fun x _ _ z => by omega), d.fr ff (fun x _ _ z => by omega), e.fr ff (fun x _ _ z => by omega), tgn, g.fr ff (by decide) (by decide), (ff.2 43 (by decide)).trans i⟩
end MRE
