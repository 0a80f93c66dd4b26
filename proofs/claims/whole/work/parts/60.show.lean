/-! show -/
def pk_show (lk : List pp_E) (e : pg_E) (kd : Nat) : List Nat := pf_text [] (if kd = 0 then e.1 else if kd = 1 then pc_list e.2.1 else if kd = 2 then pc_list (pl_max lk e.2.1) else pc_list (pl_min lk e.2.1))
section SHO
variable {F : Nat} {σ : pu_S} {ty sh : List Nat} {al : List pa_E} {lk pa : List pp_E} {tg : List pg_E} {su : List Nat} {pl : Int32}
theorem po_show_119 (hs : pt_is σ 3 62 sh) : sh_LT_show_119 F 0 (pu_mk σ) = some (nI sh.length, pu_mk σ) := by
  unfold sh_LT_show_119
  rw [po_1, Option.bind_some, pu_is pt_shown.1, Option.bind_some, pt_length pt_shown hs, im_b2_s]
theorem po_show_108 (hF : 9 ≤ F) (hs : pt_is σ 3 62 []) {k : pc_C} (hk : pc_is σ 246 k) : ∃ τ, sh_LT_show_108 F 0 (pu_mk σ) = some (nI (pf_text [] (pc_list k)).length, pu_mk τ) ∧ pt_is τ 3 62 (pf_text [] (pc_list k)) ∧ pu_fr (fun x => x = 3 ∨ x = 4) σ τ := by
  obtain ⟨τ, e, p, f⟩ := pc_writeTo (F := F) hF pt_shown hs po_c1 hk (by decide) (by decide) (pf_text3 hk.2.2.2)
  refine ⟨τ, ?_, p, f⟩
  unfold sh_LT_show_108
  rw [po_11, Option.bind_some, po_1, Option.bind_some, pu_is po_c1, Option.bind_some, e, Option.bind_some, po_show_119 p]
theorem po_show (hF : 100 ≤ F) (hk : pp_is σ 12 lk) (hp : pk_is σ tg su pl) (hw : ∀ e ∈ tg, (pf_text [] e.1).length ≤ 62) (x k : Int32) : ∃ τ, sh_LT_show F 0 x k (pu_mk σ) = some (if pk_t tg x = true ∧ ¬ k < 0 ∧ k ≤ 3 then nI (pk_show lk (tg.getD x.toNatClampNeg pg_0) k.toNatClampNeg).length else -1, pu_mk τ) ∧ (if pk_t tg x = true ∧ ¬ k < 0 ∧ k ≤ 3 then pt_is τ 3 62 (pk_show lk (tg.getD x.toNatClampNeg pg_0) k.toNatClampNeg) ∧ pu_fr (fun x => x = 3 ∨ x = 4 ∨ x = 139 ∨ x = 140 ∨ x = 141 ∨ x = 246) σ τ else τ = σ) := by
  unfold sh_LT_show
  rw [pu_is po_sk, Option.bind_some, po_isTag hp, im_b2_s]
  by_cases h1 : pk_t tg x = true
  · rw [h1, if_neg (show ¬ pb_b true = 0 by decide)]
    by_cases h2 : k < 0
    · refine ⟨σ, ?_, ?_⟩
      · rw [if_pos h2, if_neg (show ¬ (true = true ∧ ¬ k < 0 ∧ k ≤ 3) from fun q => q.2.1 h2)]
        rfl
      · rw [if_neg (show ¬ (true = true ∧ ¬ k < 0 ∧ k ≤ 3) from fun q => q.2.1 h2)]
    · rw [if_neg h2]
      by_cases h3 : k ≤ 3
      · have hc : true = true ∧ ¬ k < 0 ∧ k ≤ 3 := ⟨rfl, h2, h3⟩
        simp only [if_pos h3, if_pos hc]
        obtain ⟨t, ht, rfl⟩ := pk_t_s h1
        have h16 := hp.2.1
        have hn : (nI t).toNatClampNeg = t := nI_clamp (by omega)
        rw [hn]
        obtain ⟨g1, g2, g3, g4⟩ := hp.2.2.1 t ht
        have hmem : tg.getD t pg_0 ∈ tg := pb_getG _ ht
        have hwt := hw _ hmem
        generalize tg.getD t pg_0 = e at g1 g2 g3 g4 hwt hmem ⊢
        have ht16 : t < 16 := by omega
        rw [po_7, Option.bind_some, po_tag ht16, Option.bind_some, po_tf ht16, Option.bind_some, po_1, Option.bind_some, pu_is pt_shown.1, Option.bind_some]
        obtain ⟨σ1, e1, p1, f1⟩ := pt_clear (F := F) (σ := σ) pt_shown
        have q1 := g1.fr f1 (by omega) (by omega)
        have q2 := g2.fr f1 (by omega)
        have qk := hk.fr f1 (fun x h1 h2 => by omega)
        rw [e1, Option.bind_some]
        have ff := po_forms t ht16
        rcases pn_case k with hk0 | ⟨d, hd, rfl⟩
        · exact absurd hk0 h2
        · have hd3 : d ≤ 3 := (nI_leI (b := 3) hd (by decide)).mp h3
          have hnd : (nI d).toNatClampNeg = d := nI_clamp (by omega)
          rw [hnd]
          have fr1 := f1.mono (T := fun x => x = 3 ∨ x = 4 ∨ x = 139 ∨ x = 140 ∨ x = 141 ∨ x = 246) (fun x hx => by omega)
          have hcs : d = 0 ∨ d = 1 ∨ d = 2 ∨ d = 3 := by omega
          rcases hcs with rfl | rfl | rfl | rfl
          · obtain ⟨τ, e2, p2, f2⟩ := pf_writeTo (F := F) (by omega) pt_shown ff (by omega) q1 p1 hwt (by have := q1.2.2.1; omega)
            refine ⟨τ, ?_, p2, fr1.tr (f2.mono (fun x hx => by omega))⟩
            rw [if_pos (show nI 0 = 0 from rfl), po_1, Option.bind_some, pu_is ff.1, Option.bind_some, e2, Option.bind_some, po_show_119 p2]
            rfl
          · obtain ⟨τ, e2, p2, f2⟩ := pc_writeTo (F := F) (by omega) pt_shown p1 ff.2.1 q2 (by omega) (by omega) (pf_text3 q2.2.2.2)
            refine ⟨τ, ?_, p2, fr1.tr (f2.mono (fun x hx => by omega))⟩
            rw [if_neg (show ¬ nI 1 = 0 by decide), if_pos (show nI 1 = 1 by decide), pf_g0 ff, Option.bind_some, po_1, Option.bind_some, pu_is ff.2.1, Option.bind_some, e2, Option.bind_some, po_show_119 p2]
            rfl
          · obtain ⟨σ2, e2, p2, f2⟩ := pl_maximise (F := F) (by omega) qk ff.2.1 po_c1 (by omega) (by decide) q2
            have s2 := p1.fr f2 (by omega) (by omega)
            obtain ⟨τ, e3, p3, f3⟩ := po_show_108 (F := F) (by omega) s2 p2
            refine ⟨τ, ?_, p3, (fr1.tr (f2.mono (fun x hx => by omega))).tr (f3.mono (fun x hx => by omega))⟩
            rw [if_neg (show ¬ nI 2 = 0 by decide), if_neg (show ¬ nI 2 = 1 by decide), if_pos (show nI 2 = 2 by decide), po_6, Option.bind_some, pf_g0 ff, Option.bind_some, po_11, Option.bind_some, pu_is pl_sk, Option.bind_some, e2, Option.bind_some, e3]
            rfl
          · obtain ⟨σ2, e2, p2, f2⟩ := pl_minimise (F := F) (by omega) qk ff.2.1 po_c1 (by omega) (by decide) q2
            have s2 := p1.fr f2 (by omega) (by omega)
            obtain ⟨τ, e3, p3, f3⟩ := po_show_108 (F := F) (by omega) s2 p2
            refine ⟨τ, ?_, p3, (fr1.tr (f2.mono (fun x hx => by omega))).tr (f3.mono (fun x hx => by omega))⟩
            rw [if_neg (show ¬ nI 3 = 0 by decide), if_neg (show ¬ nI 3 = 1 by decide), if_neg (show ¬ nI 3 = 2 by decide), po_6, Option.bind_some, pf_g0 ff, Option.bind_some, po_11, Option.bind_some, pu_is pl_sk, Option.bind_some, e2, Option.bind_some, e3]
            rfl
      · refine ⟨σ, ?_, ?_⟩
        · rw [if_neg h3, if_neg (show ¬ (true = true ∧ ¬ k < 0 ∧ k ≤ 3) from fun q => h3 q.2.2)]
          rfl
        · rw [if_neg (show ¬ (true = true ∧ ¬ k < 0 ∧ k ≤ 3) from fun q => h3 q.2.2)]
  · refine ⟨σ, ?_, ?_⟩
    · rw [if_neg (show ¬ (pk_t tg x = true ∧ ¬ k < 0 ∧ k ≤ 3) from fun q => h1 q.1), if_pos ((pb_b0 _).mpr (by simpa using h1))]
      rfl
    · rw [if_neg (show ¬ (pk_t tg x = true ∧ ¬ k < 0 ∧ k ≤ 3) from fun q => h1 q.1)]
end SHO
