/-! each call, on both sides -/
def jc (σ : pu_S) (x : im_W → Option (Int32 × im_W)) (y : im_W → Option (Int32 × im_W)) : Prop := ∃ v τ ρ, x (pu_mk σ) = some (v, pu_mk τ) ∧ y (pu_mk τ) = some (v, pu_mk ρ) ∧ jj ρ
section JCA
variable {F : Nat} {σ : pu_S}
theorem jc_type (hF : 100 ≤ F) (h : jj σ) {c : Nat} (hc : c < 65536) : jc σ (sh_LT_type F 0 (nI c)) (sh_Model_type F 248 (nI c)) := by
  obtain ⟨ty, sh, al, lk, pa, tg, su, pl, ⟨⟨a, b, c', d, e⟩, f⟩, R, g⟩ := h
  obtain ⟨τ, e1, t1, f1⟩ := po_type (F := F) a hc
  have R1 := R.cls f1 (fun x h => by omega)
  obtain ⟨ρ, e2, t2, f2⟩ := pm_type (F := F) R1.1 hc
  have y2 := pm_frX_hi (S := fun x => 249 ≤ x) (f2.mono (fun x h => by omega) (fun _ z => z)) 
  refine ⟨_, τ, ρ, e1, e2, _, sh, al, lk, pa, tg, su, pl, rc_is.hi ⟨⟨t1, b.fr f1 (by decide) (by decide), c'.fr f1 (fun x _ _ z => by omega), d.fr f1 (fun x _ _ z => by omega), e.fr f1 (fun x _ _ z => by omega)⟩, f.fr f1 (by decide) (fun x _ _ z => by omega)⟩ ?_, ?_, g⟩
  · exact f2.hi (fun x h => by omega)
  · obtain ⟨r1, r2, r3, r4, r5, r6, r7, r8⟩ := R1
    exact ⟨t2, r2.fr f2 (by decide) (by decide), r3.fr f2 (by decide) (fun x _ _ z => by omega), r4.fr f2 (fun x _ _ z => by omega), r5.fr f2 (fun x _ _ z => by omega), r6.fr f2 (by decide) (fun x _ _ z => by omega), r7.fr f2 (by decide) (by decide), (f2.2 43 (by decide)).trans r8⟩
theorem jc_wipe (h : jj σ) : ∃ τ ρ, sh_LT_wipe F 0 (pu_mk σ) = some (pu_mk τ) ∧ sh_Model_wipe F 248 (pu_mk τ) = some (pu_mk ρ) ∧ jj ρ := by
  obtain ⟨ty, sh, al, lk, pa, tg, su, pl, ⟨⟨a, b, c', d, e⟩, f⟩, R, g⟩ := h
  obtain ⟨τ, e1, t1, f1⟩ := po_wipe (F := F) (σ := σ)
  have R1 := R.cls f1 (fun x h => by omega)
  obtain ⟨ρ, e2, t2, f2⟩ := pm_wipe (F := F) (σ := τ)
  refine ⟨τ, ρ, e1, e2, [], sh, al, lk, pa, tg, su, pl, rc_is.hi ⟨⟨t1, b.fr f1 (by decide) (by decide), c'.fr f1 (fun x _ _ z => by omega), d.fr f1 (fun x _ _ z => by omega), e.fr f1 (fun x _ _ z => by omega)⟩, f.fr f1 (by decide) (fun x _ _ z => by omega)⟩ (f2.hi (fun x h => h.elim)), ?_, g⟩
  obtain ⟨r1, r2, r3, r4, r5, r6, r7, r8⟩ := R1
  exact ⟨t2, r2.fr f2 (fun z => z) (by decide), r3.fr f2 (by decide) (fun x _ _ z => z), r4.fr f2 (fun x _ _ z => z), r5.fr f2 (fun x _ _ z => z), r6.fr f2 (by decide) (fun x _ _ z => z), r7.fr f2 (fun z => z) (by decide), (f2.2 43 (by decide)).trans r8⟩
theorem jc_alias (hF : 100 ≤ F) (h : jj σ) (r : Bool) : jc σ (sh_LT_alias F 0 (pb_b r)) (sh_Model_alias F 248 (pb_b r)) := by
  obtain ⟨ty, sh, al, lk, pa, tg, su, pl, ⟨⟨a, b, c', d, e⟩, f⟩, R, gal, glk, gpa, gtg, gsu⟩ := h
  obtain ⟨τ, e1, m1⟩ := po_alias hF a c' d e f r
  have h16 := f.2.1
  have l10 := R.2.2.2.1.2.1
  have p10 := R.2.2.2.2.1.2.1
  have cnt : ∀ ρ : pu_S, rm_is ρ ty sh al lk pa tg su pl → ρ.1 248 31 = nI tg.length := fun ρ Rρ => by
    have := Rρ.2.2.2.2.2.1.1.1
    rw [List.length_map] at this
    exact this
  have step : ∀ ρ : pu_S, rm_is ρ ty sh al lk pa tg su pl → ∃ τ, sh_Model_alias F 248 (pb_b r) (pu_mk ρ) = some ((pk_alias ty al (pk_fixed tg lk pa) r).1, pu_mk τ) ∧ (match (pk_alias ty al (pk_fixed tg lk pa) r).2 with
      | none => τ = ρ
      | some al' => pm_ty τ [] ∧ pm_al τ (al'.map pa_nm) ∧ pm_fr (fun x => 256 ≤ x ∧ x ≤ 258) (fun k => k = 17 ∨ k = 0) ρ τ) := fun ρ Rρ => pm_alias hF Rρ.1 Rρ.2.2.1 gal (cnt ρ Rρ) (by omega) Rρ.2.2.2.1.1 (by omega) Rρ.2.2.2.2.1.1 (by omega) r
  cases hal : (pk_alias ty al (pk_fixed tg lk pa) r).2 with
  | none =>
    rw [hal] at m1
    have m1 : τ = σ := m1
    subst m1
    obtain ⟨ρ, e2, m2⟩ := step τ R
    rw [hal] at m2
    have m2 : ρ = τ := m2
    subst m2
    exact ⟨_, ρ, ρ, e1, e2, ty, sh, al, lk, pa, tg, su, pl, ⟨⟨a, b, c', d, e⟩, f⟩, R, gal, glk, gpa, gtg, gsu⟩
  | some al' =>
    rw [hal] at m1
    have m1 : pt_is τ 1 60 [] ∧ pa_is τ al' ∧ pu_fr (fun x => x = 1 ∨ x = 2 ∨ (8 ≤ x ∧ x ≤ 11)) σ τ := m1
    obtain ⟨t1, a1, f1⟩ := m1
    have R1 := R.cls f1 (fun x h => by omega)
    obtain ⟨ρ, e2, m2⟩ := step τ R1
    rw [hal] at m2
    have m2 : pm_ty ρ [] ∧ pm_al ρ (al'.map pa_nm) ∧ pm_fr (fun x => 256 ≤ x ∧ x ≤ 258) (fun k => k = 17 ∨ k = 0) τ ρ := m2
    obtain ⟨t2, a2, f2⟩ := m2
    refine ⟨_, τ, ρ, e1, e2, [], sh, al', lk, pa, tg, su, pl, rc_is.hi ⟨⟨t1, b.fr f1 (by decide) (by decide), a1, d.fr f1 (fun x _ _ z => by omega), e.fr f1 (fun x _ _ z => by omega)⟩, f.fr f1 (by decide) (fun x _ _ z => by omega)⟩ (f2.hi (fun x h => by omega)), ?_, pa_gd_add gal hal, glk, gpa, gtg, gsu⟩
    obtain ⟨r1, r2, r3, r4, r5, r6, r7, r8⟩ := R1
    exact ⟨t2, r2.fr f2 (by decide) (by decide), a2, r4.fr f2 (fun x _ _ z => by omega), r5.fr f2 (fun x _ _ z => by omega), r6.fr f2 (by decide) (fun x _ _ z => by omega), r7.fr f2 (by decide) (by decide), (f2.2 43 (by decide)).trans r8⟩
theorem jc_read (hF : 100 ≤ F) (h : jj σ) : jc σ (sh_LT_read F 0) (sh_Model_read F 248) := by
  obtain ⟨ty, sh, al, lk, pa, tg, su, pl, ⟨⟨a, b, c', d, e⟩, f⟩, R, gal, glk, gpa, gtg, gsu⟩ := h
  have h60 := a.2.2.1
  obtain ⟨τ, e1, f1, m1⟩ := po_read hF a c' gal.1 f (fun rd hrd => (pr_size h60 (pa_gd_23 gal) hrd).1)
  have R1 := R.cls f1 (fun x h => by omega)
  obtain ⟨ρ, e2, f2, m2⟩ := pm_read hF R1 gal gtg
  refine ⟨_, τ, ρ, e1, e2, ?_⟩
  cases hr : (pk_read ty al tg).2 with
  | none =>
    rw [hr] at m1 m2
    have m1 : pt_is τ 1 60 ty ∧ pk_is τ tg su pl := m1
    have m2 : rm_is ρ ty sh al lk pa tg su pl := m2
    exact ⟨ty, sh, al, lk, pa, tg, su, pl, rc_is.hi ⟨⟨m1.1, b.fr f1 (by decide) (by decide), c'.fr f1 (fun x _ _ z => by omega), d.fr f1 (fun x _ _ z => by omega), e.fr f1 (fun x _ _ z => by omega)⟩, m1.2⟩ f2, m2, gal, glk, gpa, gtg, gsu⟩
  | some tg' =>
    rw [hr] at m1 m2
    have m1 : pt_is τ 1 60 [] ∧ pk_is τ tg' su pl := m1
    have m2 : rm_is ρ [] sh al lk pa tg' su pl := m2
    exact ⟨[], sh, al, lk, pa, tg', su, pl, rc_is.hi ⟨⟨m1.1, b.fr f1 (by decide) (by decide), c'.fr f1 (fun x _ _ z => by omega), d.fr f1 (fun x _ _ z => by omega), e.fr f1 (fun x _ _ z => by omega)⟩, m1.2⟩ f2, m2, gal, glk, gpa, pg_gd_read gal gtg R.1.2.2.2 h60 hr, gsu⟩
theorem jc_pair (hF : 100 ≤ F) (h : jj σ) (par : Bool) : jc σ (sh_LT_pair F 0 (pb_b par)) (sh_Model_pair F 248 (pb_b par)) := by
  obtain ⟨ty, sh, al, lk, pa, tg, su, pl, ⟨⟨a, b, c', d, e⟩, f⟩, R, gal, glk, gpa, gtg, gsu⟩ := h
  have h60 := a.2.2.1
  obtain ⟨τ, e1, f1, m1⟩ := po_pair hF a c' gal.1 d e par (fun x y rd hrd => (pr_size h60 (pa_gd_23 gal) hrd).1) (fun x y z _ hz => by have := pr_cut_err h60 x y z hz; omega)
  have R1 := R.cls f1 (fun x h => by cases par <;> simp at h <;> omega)
  obtain ⟨ρ, e2, f2, m2⟩ := pm_pair hF R1 gal glk gpa par
  refine ⟨_, τ, ρ, e1, e2, ?_⟩
  cases par with
  | false =>
    have f1 : pu_fr (fun x => x = 1 ∨ x = 2 ∨ (5 ≤ x ∧ x ≤ 7) ∨ (12 ≤ x ∧ x < 12 + 63) ∨ (240 ≤ x ∧ x ≤ 245)) σ τ := f1
    cases hr : (pk_pair ty al (if false then pa else lk) false).2 with
    | none =>
      rw [hr] at m1 m2
      have m1 : pt_is τ 1 60 ty ∧ pp_is τ 12 lk := m1
      have m2 : rm_is ρ ty sh al lk pa tg su pl := m2
      exact ⟨ty, sh, al, lk, pa, tg, su, pl, rc_is.hi ⟨⟨m1.1, b.fr f1 (by omega) (by omega), c'.fr f1 (fun x _ _ z => by omega), m1.2, e.fr f1 (fun x _ _ z => by omega)⟩, f.fr f1 (by omega) (fun x _ _ z => by omega)⟩ f2, m2, gal, glk, gpa, gtg, gsu⟩
    | some q =>
      rw [hr] at m1 m2
      have m1 : pt_is τ 1 60 [] ∧ pp_is τ 12 (lk ++ [q]) := m1
      have m2 : (pc_gd q.1 ∧ pc_gd q.2) ∧ rm_is ρ [] sh al (lk ++ [q]) pa tg su pl := m2
      refine ⟨[], sh, al, lk ++ [q], pa, tg, su, pl, rc_is.hi ⟨⟨m1.1, b.fr f1 (by omega) (by omega), c'.fr f1 (fun x _ _ z => by omega), m1.2, e.fr f1 (fun x _ _ z => by omega)⟩, f.fr f1 (by omega) (fun x _ _ z => by omega)⟩ f2, m2.2, gal, fun x hx => ?_, gpa, gtg, gsu⟩
      rcases List.mem_append.mp hx with hx | hx
      · exact glk x hx
      · rw [List.mem_singleton] at hx
        subst hx
        exact m2.1
  | true =>
    have f1 : pu_fr (fun x => x = 1 ∨ x = 2 ∨ (5 ≤ x ∧ x ≤ 7) ∨ (75 ≤ x ∧ x < 75 + 63) ∨ (240 ≤ x ∧ x ≤ 245)) σ τ := f1
    cases hr : (pk_pair ty al (if true then pa else lk) true).2 with
    | none =>
      rw [hr] at m1 m2
      have m1 : pt_is τ 1 60 ty ∧ pp_is τ 75 pa := m1
      have m2 : rm_is ρ ty sh al lk pa tg su pl := m2
      exact ⟨ty, sh, al, lk, pa, tg, su, pl, rc_is.hi ⟨⟨m1.1, b.fr f1 (by omega) (by omega), c'.fr f1 (fun x _ _ z => by omega), d.fr f1 (fun x _ _ z => by omega), m1.2⟩, f.fr f1 (by omega) (fun x _ _ z => by omega)⟩ f2, m2, gal, glk, gpa, gtg, gsu⟩
    | some q =>
      rw [hr] at m1 m2
      have m1 : pt_is τ 1 60 [] ∧ pp_is τ 75 (pa ++ [q]) := m1
      have m2 : (pc_gd q.1 ∧ pc_gd q.2) ∧ rm_is ρ [] sh al lk (pa ++ [q]) tg su pl := m2
      refine ⟨[], sh, al, lk, pa ++ [q], tg, su, pl, rc_is.hi ⟨⟨m1.1, b.fr f1 (by omega) (by omega), c'.fr f1 (fun x _ _ z => by omega), d.fr f1 (fun x _ _ z => by omega), m1.2⟩, f.fr f1 (by omega) (fun x _ _ z => by omega)⟩ f2, m2.2, gal, glk, fun x hx => ?_, gtg, gsu⟩
      rcases List.mem_append.mp hx with hx | hx
      · exact gpa x hx
      · rw [List.mem_singleton] at hx
        subst hx
        exact m2.1
theorem jc_show (hF : 100 ≤ F) (h : jj σ) (x k : Int32) : jc σ (sh_LT_show F 0 x k) (sh_Model_show F 248 x k) := by
  obtain ⟨ty, sh, al, lk, pa, tg, su, pl, ⟨⟨a, b, c', d, e⟩, f⟩, R, gal, glk, gpa, gtg, gsu⟩ := h
  obtain ⟨τ, e1, m1⟩ := po_show hF d f (fun q hq => (gtg q hq).2.2.2.2.1) x k
  by_cases hc : pk_t tg x = true ∧ ¬ k < 0 ∧ k ≤ 3
  · rw [if_pos hc] at m1
    obtain ⟨t1, f1⟩ := m1
    have R1 := R.cls f1 (fun x h => by omega)
    obtain ⟨ρ, e2, f2, m2⟩ := pm_show hF R1 glk gtg x k
    rw [if_pos hc] at m2
    exact ⟨_, τ, ρ, e1, e2, ty, _, al, lk, pa, tg, su, pl, rc_is.hi ⟨⟨a.fr f1 (by decide) (by decide), t1, c'.fr f1 (fun x _ _ z => by omega), d.fr f1 (fun x _ _ z => by omega), e.fr f1 (fun x _ _ z => by omega)⟩, f.fr f1 (by decide) (fun x _ _ z => by omega)⟩ f2, m2, gal, glk, gpa, gtg, gsu⟩
  · rw [if_neg hc] at m1
    subst m1
    obtain ⟨ρ, e2, f2, m2⟩ := pm_show hF R glk gtg x k
    rw [if_neg hc] at m2
    exact ⟨_, _, ρ, e1, e2, ty, sh, al, lk, pa, tg, su, pl, rc_is.hi ⟨⟨a, b, c', d, e⟩, f⟩ f2, m2, gal, glk, gpa, gtg, gsu⟩
theorem jc_shown (h : jj σ) (x : Int32) : jc σ (sh_LT_shown F 0 x) (sh_Model_shown F 248 x) := by
  have h0 := h
  obtain ⟨ty, sh, al, lk, pa, tg, su, pl, ⟨⟨a, b, c', d, e⟩, f⟩, R, g⟩ := h
  exact ⟨_, σ, σ, po_shown b x, pm_shown R.2.1 x, h0⟩
theorem jc_tags (h : jj σ) : jc σ (sh_LT_tags F 0) (sh_Model_tags F 248) := by
  have h0 := h
  obtain ⟨ty, sh, al, lk, pa, tg, su, pl, ⟨⟨a, b, c', d, e⟩, f⟩, R, g⟩ := h
  have := pm_tags (F := F) R.2.2.2.2.2.1.1
  rw [List.length_map] at this
  exact ⟨_, σ, σ, po_tagsN f, this, h0⟩
theorem jc_found (h : jj σ) : jc σ (sh_LT_found F 0) (sh_Model_found F 248) := by
  have h0 := h
  obtain ⟨ty, sh, al, lk, pa, tg, su, pl, ⟨⟨a, b, c', d, e⟩, f⟩, R, g⟩ := h
  have := pm_found (F := F) (σ := σ)
  rw [R.2.2.2.2.2.2.2] at this
  exact ⟨_, σ, σ, po_found f, this, h0⟩
theorem jc_support (hF : 100 ≤ F) (h : jj σ) (x : Int32) : jc σ (sh_LT_support F 0 x) (sh_Model_support F 248 x) := by
  obtain ⟨ty, sh, al, lk, pa, tg, su, pl, C, R, gal, glk, gpa, gtg, gsu⟩ := h
  obtain ⟨⟨a, b, c', d, e⟩, f⟩ := id C
  obtain ⟨τ, e1, k1, f1⟩ := po_support (F := F) f x
  have R1 := R.cls f1 (fun x h => by omega)
  have room : ∀ t, t < tg.length → ¬ t ∈ su → su.length < 16 := fun t ht hn => jn_room C gsu ht hn
  obtain ⟨ρ, e2, k2, f2⟩ := pm_support (F := F) (by omega) R1.2.2.2.2.2.1.1 R1.2.2.2.2.2.2.1 (by rw [List.length_map]; exact room) x
  rw [List.length_map] at e2 k2
  have eq : (pk_t tg x && !decide (x.toNatClampNeg ∈ su) && decide (su.length < 16)) = decide ((¬ x < 0 ∧ x.toNatClampNeg < tg.length) ∧ ¬ x.toNatClampNeg ∈ su) := by
    unfold pk_t
    by_cases h1 : ¬ x < 0 ∧ x.toNatClampNeg < tg.length
    · by_cases h2 : x.toNatClampNeg ∈ su
      · rw [decide_eq_true h1, decide_eq_true h2, decide_eq_false (show ¬ ((¬ x < 0 ∧ x.toNatClampNeg < tg.length) ∧ ¬ x.toNatClampNeg ∈ su) from fun z => z.2 h2)]; rfl
      · rw [decide_eq_true h1, decide_eq_false h2, decide_eq_true (room _ h1.2 h2), decide_eq_true (show (¬ x < 0 ∧ x.toNatClampNeg < tg.length) ∧ ¬ x.toNatClampNeg ∈ su from ⟨h1, h2⟩)]; rfl
    · rw [decide_eq_false h1, decide_eq_false (show ¬ ((¬ x < 0 ∧ x.toNatClampNeg < tg.length) ∧ ¬ x.toNatClampNeg ∈ su) from fun z => h1 z.1)]; rfl
  rw [← eq] at e2
  have cond : (pk_t tg x = true ∧ ¬ x.toNatClampNeg ∈ su ∧ su.length < 16) ↔ ((¬ x < 0 ∧ x.toNatClampNeg < tg.length) ∧ ¬ x.toNatClampNeg ∈ su) := by
    unfold pk_t
    rw [decide_eq_true_iff]
    exact ⟨fun z => ⟨z.1, z.2.1⟩, fun z => ⟨z.1, z.2, room _ z.1.2 z.2⟩⟩
  have back : ∀ su', pk_is τ tg su' pl → pm_su ρ su' → su'.Nodup → jj ρ := by
    intro su' h1 h2 h3
    obtain ⟨r1, r2, r3, r4, r5, r6, r7, r8⟩ := R1
    exact ⟨ty, sh, al, lk, pa, tg, su', pl, rc_is.hi ⟨⟨a.fr f1 (by omega) (by omega), b.fr f1 (by omega) (by omega), c'.fr f1 (fun x _ _ z => by omega), d.fr f1 (fun x _ _ z => by omega), e.fr f1 (fun x _ _ z => by omega)⟩, h1⟩ (f2.hi (fun x h => by omega)), ⟨r1.fr f2 (by decide) (by decide), r2.fr f2 (by decide) (by decide), r3.fr f2 (by decide) (fun x _ _ z => by omega), r4.fr f2 (fun x _ _ z => by omega), r5.fr f2 (fun x _ _ z => by omega), r6.fr f2 (by decide) (fun x _ _ z => by omega), h2, (f2.2 43 (by decide)).trans r8⟩, gal, glk, gpa, gtg, h3⟩
  refine ⟨_, τ, ρ, e1, e2, ?_⟩
  by_cases hc : pk_t tg x = true ∧ ¬ x.toNatClampNeg ∈ su ∧ su.length < 16
  · rw [if_pos hc] at k1
    rw [if_pos (cond.mp hc)] at k2
    refine back _ k1 k2 ?_
    rw [List.nodup_append]
    refine ⟨gsu, by simp, fun y hy z hz hyz => ?_⟩
    rw [List.mem_singleton] at hz
    subst hz
    rw [hyz] at hy
    exact hc.2.1 hy
  · rw [if_neg hc] at k1
    rw [if_neg (fun z => hc (cond.mpr z))] at k2
    exact back _ k1 k2 gsu
theorem jc_fits (hF : 100 ≤ F) (h : jj σ) (x y : Int32) : jc σ (sh_LT_fits F 0 x y) (sh_Model_fits F 248 x y) := by
  have h0 := h
  obtain ⟨ty, sh, al, lk, pa, tg, su, pl, ⟨⟨a, b, c', d, e⟩, f⟩, R, gal, glk, gpa, gtg, gsu⟩ := h
  refine ⟨_, σ, σ, po_fits (by omega) f (fun t ht => ?_) x y, pm_fits hF R gtg x y, h0⟩
  rw [pg_head (gtg _ (pb_getG pg_0 ht))]
  simp
theorem jc_lookup (hF : 100 ≤ F) (h : jj σ) (x : Int32) : jc σ (sh_LT_lookup F 0 x) (sh_Model_lookup F 248 x) := by
  obtain ⟨ty, sh, al, lk, pa, tg, su, pl, C, R, gal, glk, gpa, gtg, gsu⟩ := h
  obtain ⟨ρ, e2, R2, y2⟩ := pm_lookup hF R gtg x
  exact ⟨_, σ, ρ, po_lookup (by omega) C.2 x, e2, ty, sh, al, lk, pa, tg, su, pl, C.hi y2, R2, gal, glk, gpa, gtg, gsu⟩
theorem jc_distance (hF : 100 ≤ F) (h : jj σ) (x y : Int32) : jc σ (sh_LT_distance F 0 x y) (sh_Model_distance F 248 x y) := by
  obtain ⟨ty, sh, al, lk, pa, tg, su, pl, ⟨⟨a, b, c', d, e⟩, f⟩, R, gal, glk, gpa, gtg, gsu⟩ := h
  obtain ⟨τ, e1, f1⟩ := po_distance (F := F) (by omega) d f x y
  have R1 := R.cls f1 (fun x h => by omega)
  obtain ⟨ρ, e2, R2, y2⟩ := pm_distance hF R1 glk gtg x y
  exact ⟨_, τ, ρ, e1, e2, ty, sh, al, lk, pa, tg, su, pl, rc_is.hi ⟨⟨a.fr f1 (by decide) (by decide), b.fr f1 (by decide) (by decide), c'.fr f1 (fun x _ _ z => by omega), d.fr f1 (fun x _ _ z => by omega), e.fr f1 (fun x _ _ z => by omega)⟩, f.fr f1 (by decide) (fun x _ _ z => by omega)⟩ y2, R2, gal, glk, gpa, gtg, gsu⟩
theorem jc_best (hF : 100 ≤ F) (h : jj σ) (x : Int32) : jc σ (sh_LT_best F 0 x) (sh_Model_best F 248 x) := by
  obtain ⟨ty, sh, al, lk, pa, tg, su, pl, ⟨⟨a, b, c', d, e⟩, f⟩, R, gal, glk, gpa, gtg, gsu⟩ := h
  obtain ⟨τ, e1, f1⟩ := po_best (F := F) (by omega) d f x
  have R1 := R.cls f1 (fun x h => by omega)
  obtain ⟨ρ, e2, R2, y2⟩ := pm_best hF R1 glk gtg f.2.2.2.2.2.2.2.1 x
  exact ⟨_, τ, ρ, e1, e2, ty, sh, al, lk, pa, tg, su, pl, rc_is.hi ⟨⟨a.fr f1 (by decide) (by decide), b.fr f1 (by decide) (by decide), c'.fr f1 (fun x _ _ z => by omega), d.fr f1 (fun x _ _ z => by omega), e.fr f1 (fun x _ _ z => by omega)⟩, f.fr f1 (by decide) (fun x _ _ z => by omega)⟩ y2, R2, gal, glk, gpa, gtg, gsu⟩
theorem jc_put (h : jj σ) (x y v : Int32) : jc σ (sh_LT_put F 0 x y v) (sh_Model_put F 248 x y v) := by
  obtain ⟨ty, sh, al, lk, pa, tg, su, pl, ⟨⟨a, b, c', d, e⟩, f⟩, R, gal, glk, gpa, gtg, gsu⟩ := h
  obtain ⟨τ, e1, k1, f1⟩ := po_put (F := F) f x y v
  have R1 := R.cls f1 (fun x h => by omega)
  obtain ⟨ρ, e2, R2, y2⟩ := pm_put (F := F) R1 x y v
  refine ⟨_, τ, ρ, e1, e2, ty, sh, al, lk, pa, _, su, pl, rc_is.hi ⟨⟨a.fr f1 (by omega) (by omega), b.fr f1 (by omega) (by omega), c'.fr f1 (fun x _ _ z => by omega), d.fr f1 (fun x _ _ z => by omega), e.fr f1 (fun x _ _ z => by omega)⟩, k1⟩ y2, R2, gal, glk, gpa, ?_, gsu⟩
  split
  · rename_i hc
    intro q hq
    obtain ⟨t, ht, rfl⟩ := pk_t_s hc.1
    have h16 := f.2.1
    rw [nI_clamp (by omega)] at hq
    rcases List.mem_or_eq_of_mem_set hq with hq | hq
    · exact gtg q hq
    · rw [hq]
      exact pg_gd_up (gtg _ (pb_getG pg_0 ht)) _ _
  · exact gtg
theorem jc_get (hF : 100 ≤ F) (h : jj σ) (x y : Int32) : jc σ (sh_LT_get F 0 x y) (sh_Model_get F 248 x y) := by
  obtain ⟨ty, sh, al, lk, pa, tg, su, pl, ⟨⟨a, b, c', d, e⟩, f⟩, R, gal, glk, gpa, gtg, gsu⟩ := h
  obtain ⟨τ, e1, k1, f1⟩ := po_get (F := F) (by omega) e f x y
  have R1 := R.cls f1 (fun x h => by omega)
  obtain ⟨ρ, e2, R2, y2⟩ := pm_get hF R1 gpa gtg x y
  exact ⟨_, τ, ρ, e1, e2, ty, sh, al, lk, pa, tg, su, _, rc_is.hi ⟨⟨a.fr f1 (by decide) (by decide), b.fr f1 (by decide) (by decide), c'.fr f1 (fun x _ _ z => by omega), d.fr f1 (fun x _ _ z => by omega), e.fr f1 (fun x _ _ z => by omega)⟩, k1⟩ y2, R2, gal, glk, gpa, gtg, gsu⟩
end JCA
