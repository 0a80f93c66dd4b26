/-! cutting and its form, the class's beside the model's -/
def pm_pn (A : pm_A) : Prop := A.2.1 = [] ∧ A.2.2.1 = [] ∧ A.2.2.2.1 = none
def pm_rd (ty : List Nat) (al : List pa_E) (rd : List pr_E) (A : pm_A) : Prop := A.1 = (pv_n (pr_core al rd).1, pv_n (pr_core al rd).2.1, pv_n (pr_core al rd).2.2) ∧ (∀ k ∈ A.2.2.1, k.1 + 2 ≤ k.2) ∧ (pm_sel (A.2.1.map (pm_vk ty)) A.2.1.length none).length = A.2.1.length ∧ (pm_sel (A.2.2.1.map (pm_kk ty)) A.2.2.1.length none).length = A.2.2.1.length ∧ (∀ f, A.2.2.2.1 = some f → ∃ t, A.2.2.2.2 = some t ∧ f ≤ t ∧ t ≤ ty.length) ∧ pm_ft ty (pv_sh (pr_core al rd).1 (pr_core al rd).2.1 (pr_core al rd).2.2) A = pf_text [] (pr_form al rd) ∧ (pm_pn A ↔ (pr_form al rd).length = pc_n (pr_core al rd))
theorem pq_fl_nil {ps : List (List Nat)} : pq_fl ps = [] ↔ ps = [] := by
  cases ps with
  | nil => exact ⟨fun _ => rfl, fun _ => rfl⟩
  | cons s ps => rw [pq_fl_cons]; simp
theorem pq_flat_nil {α β : Type} {f : α → List β} (h : ∀ x, ¬ f x = []) {l : List α} : l.flatMap f = [] ↔ l = [] := by
  cases l with
  | nil => exact ⟨fun _ => rfl, fun _ => rfl⟩
  | cons x l =>
    rw [List.flatMap_cons]
    constructor
    · intro z
      exact absurd (List.append_eq_nil_iff.mp z).1 (h x)
    · intro z
      cases z
theorem pq_text_ne {ps : List (List Nat)} (h : ∀ p ∈ ps, ¬ p = []) (hne : ¬ ps = []) : ¬ pf_text [] ps = [] := by
  cases ps with
  | nil => exact absurd rfl hne
  | cons p ps =>
    have hp := h p List.mem_cons_self
    show ¬ pf_text (pt_put [] p) ps = []
    have : pt_put [] p = p := by simp [pt_put]
    rw [this, pq_fl_text ps p hp]
    intro z
    exact hp (List.append_eq_nil_iff.mp z).1
theorem pq_form {ty : List Nat} (hty : ∀ c ∈ ty, c < 128) (h60 : ty.length ≤ 60) {a b : Nat} (hab : a ≤ b) (hb : b ≤ ty.length) {rd : List pr_E} (h : pr_cut ty a b = .inr rd) {r : Nat × pm_A} (hr : pm_run ty b (b + 1 - a) 0 a a pm_A0 = .inr r) {q : Nat} (hR : pq_R ty (b + 1) q rd r.2) (hq : q < 10 ∧ ¬ q = 0 ∧ ¬ q = 5 ∧ ¬ q = 8) {al : List pa_E} (hal : pa_gd al) (hle : ∀ k ∈ r.2.2.2.1, k.2 ≤ ty.length) : pm_rd ty al rd (pm_fin (al.map pa_nm) r.2) := by
  obtain ⟨hN, hV, hK, hP, -, hU, hL⟩ := hR
  have hlw := pr_cut_lw h
  have hQ := pq_Qcut h
  have hne := hL.2.2.2
  have h2 := pm_run_iv0 hty hab hb hr
  have hcore := pq_core h60 h hal
  obtain ⟨v1, v2⟩ := pq_vws (ty := ty) (A := r.2) hlw hne hQ hV
  obtain ⟨k1, k2⟩ := pq_kws (ty := ty) (A := r.2) hlw hne hQ hK (fun k hk => ⟨h2 k hk, hle k hk⟩)
  have u1 : pr_part rd 5 = [] ↔ r.2.2.2.1 = [] := by
    unfold pq_U at hU
    have e1 : pq_g 6 rd = [] ↔ r.2.2.2.1 = [] := by
      have := congrArg List.length hK
      rw [List.length_map, List.length_map] at this
      constructor
      · intro z
        rw [z] at this
        exact List.eq_nil_of_length_eq_zero this.symm
      · intro z
        rw [z] at this
        exact List.eq_nil_of_length_eq_zero this
    rw [← e1]
    constructor
    · intro z
      apply Classical.byContradiction
      intro hn
      exact hU.mpr (Or.inr hn) z
    · intro z
      apply Classical.byContradiction
      intro hn
      exact (hU.mp hn).elim hq.2.2.1 (fun y => y z)
  have hpr : ∀ f, r.2.2.2.2.1 = some f → ∃ t, r.2.2.2.2.2 = some t ∧ f ≤ t ∧ t ≤ ty.length := by
    intro f hf
    by_cases h8 : q < 8
    · rw [(hP.1 h8).1] at hf
      cases hf
    · obtain ⟨g, g1, g2, g3, g4⟩ := hP.2 (by omega)
      rw [g1] at hf
      cases hf
      exact ⟨b + 1 - 1, g4 (by omega), by omega, by omega⟩
  have p1 : pq_fl (pr_priv rd) = pm_pws ty r.2 := by
    unfold pm_pws
    by_cases h8 : q < 8
    · obtain ⟨g1, g2⟩ := hP.1 h8
      rw [g1, g2]
      rfl
    · obtain ⟨g, g1, g2, g3, g4⟩ := hP.2 (by omega)
      have g4 := g4 (by omega)
      rw [g1, g4]
      show _ = 45 :: (pm_seg ty g (b + 1 - 1)).map pm_pc
      rw [g3]
      cases hps : pr_priv rd with
      | nil =>
        rw [hps] at g3
        have := congrArg List.length g3
        rw [List.length_map, pm_seg_len (by omega)] at this
        simp [pf_text] at this
        omega
      | cons s ps =>
        have hs : ¬ s = [] := by
          have : s ∈ pr_priv rd := by rw [hps]; exact List.mem_cons_self
          unfold pr_priv at this
          obtain ⟨e, he, hes⟩ := List.mem_map.mp this
          rw [← hes]
          exact hne e (List.mem_filter.mp he).1
        rw [pq_fl_cons]
        show _ = 45 :: pf_text (pt_put [] s) ps
        rw [show pt_put [] s = s by simp [pt_put], pq_fl_text ps s hs]
  have hu : pq_fl (if pr_part rd 5 = [] then [] else [117] :: pr_out rd 6 rd.length 0) = pm_uws ty r.2 := by
    unfold pm_uws
    by_cases hz : pr_part rd 5 = []
    · rw [if_pos hz, if_pos (u1.mp hz)]
      rfl
    · rw [if_neg hz, if_neg (fun z => hz (u1.mpr z)), pq_fl_cons, k1]
      rfl
  have hc0 : ¬ pf_text [] (pc_list (pr_core al rd)) = [] := by
    refine pq_text_ne (fun p hp => ?_) (fun z => ?_)
    · unfold pc_list at hp
      have n1 := pc_gd_ne hcore
      rcases List.mem_append.mp hp with hp | hp
      · rcases List.mem_append.mp hp with hp | hp
        · rw [List.mem_singleton] at hp
          rw [hp]
          exact n1
        · split at hp
          · cases hp
          · rename_i hn
            rw [List.mem_singleton] at hp
            rw [hp]
            exact hn
      · split at hp
        · cases hp
        · rename_i hn
          rw [List.mem_singleton] at hp
          rw [hp]
          exact hn
    · have := (pc_list_len (pr_core al rd)).1
      rw [z] at this
      simp at this
  have rest : pq_fl (pr_out rd 4 rd.length 0 ++ (if pr_part rd 5 = [] then [] else [117] :: pr_out rd 6 rd.length 0) ++ pr_priv rd) = pm_vws ty r.2.2.1 ++ pm_uws ty r.2 ++ pm_pws ty r.2 := by
    rw [pq_fl_app, pq_fl_app, v1, hu, p1]
  have eform : pr_form al rd = pc_list (pr_core al rd) ++ (pr_out rd 4 rd.length 0 ++ (if pr_part rd 5 = [] then [] else [117] :: pr_out rd 6 rd.length 0) ++ pr_priv rd) := by
    unfold pr_form
    simp
  refine ⟨pq_nums h hal h60 hN, h2, v2, k2, hpr, ?_, ?_⟩
  · rw [eform, pf_text_app, pq_fl_text _ _ hc0, rest, pc_gd_text hcore]
    unfold pm_ft
    rw [List.append_assoc, List.append_assoc, List.append_assoc]
    rfl
  · have e1 : (pr_form al rd).length = pc_n (pr_core al rd) ↔ pm_vws ty r.2.2.1 ++ pm_uws ty r.2 ++ pm_pws ty r.2 = [] := by
      rw [← rest, pq_fl_nil, eform, List.length_append, pc_list_n]
      constructor
      · intro z
        exact List.eq_nil_of_length_eq_zero (by omega)
      · intro z
        rw [z]
        rfl
    rw [e1, List.append_eq_nil_iff, List.append_eq_nil_iff]
    have a1 : pm_vws ty r.2.2.1 = [] ↔ r.2.2.1 = [] := by
      unfold pm_vws
      rw [pq_flat_nil (fun x => by unfold pm_vt; simp)]
      constructor
      · intro z
        rw [z] at v2
        exact List.eq_nil_of_length_eq_zero v2.symm
      · intro z
        rw [z]
        rfl
    have a2 : pm_uws ty r.2 = [] ↔ r.2.2.2.1 = [] := by
      unfold pm_uws
      by_cases hz : r.2.2.2.1 = []
      · rw [if_pos hz]
        exact ⟨fun _ => hz, fun _ => rfl⟩
      · rw [if_neg hz]
        simp [hz]
    have a3 : pm_pws ty r.2 = [] ↔ r.2.2.2.2.1 = none := by
      unfold pm_pws
      cases hf : r.2.2.2.2.1 with
      | none => simp
      | some f =>
        obtain ⟨t, ht, -⟩ := hpr f hf
        rw [ht]
        simp
    rw [a1, a2, a3]
    show (_ ∧ _ ∧ _) ↔ _
    rw [and_assoc]
    rfl
section PQM
variable {F : Nat} {σ : pu_S} {ty : List Nat} {al : List pa_E}
theorem pm_cutting (hF : 100 ≤ F) (hp : pm_ty σ ty) (hm : pm_al σ (al.map pa_nm)) (hal : pa_gd al) {a b : Nat} (hab : a ≤ b) (hb : b ≤ ty.length) : ∃ τ v, sh_Model_parse F 248 (nI a) (nI b) (pu_mk σ) = some (v, pu_mk τ) ∧ pm_fr pm_S pm_T σ τ ∧ (match pr_cut ty a b with
    | .inl e => v = nI (e + a)
    | .inr rd => v = -1 ∧ ∃ A, pm_ps τ ty A ∧ pm_rd ty al rd A) := by
  obtain ⟨τ, v, e1, e2, e3⟩ := pm_parse hF hp hm hab hb
  refine ⟨τ, v, e1, e2, ?_⟩
  have O := pq_cutall hab hb hp.2.2.1
  cases hc : pr_cut ty a b with
  | inl e =>
    rw [hc] at O
    cases hr : pm_run ty b (b + 1 - a) 0 a a pm_A0 with
    | inl e' =>
      rw [hr] at O e3
      have O : e + a = e' := O
      show v = nI (e + a)
      rw [O]
      exact e3
    | inr r =>
      rw [hr] at O e3
      have O : (r.1 = 4 ∨ r.1 = 6) ∧ e + a = b := O
      have e3 : v = (if r.1 = 4 ∨ r.1 = 6 then nI b else -1) ∧ _ := e3
      show v = nI (e + a)
      rw [e3.1, if_pos O.1, O.2]
  | inr rd =>
    rw [hc] at O
    cases hr : pm_run ty b (b + 1 - a) 0 a a pm_A0 with
    | inl e' => rw [hr] at O; exact O.elim
    | inr r =>
      rw [hr] at O e3
      have O : ¬ (r.1 = 4 ∨ r.1 = 6) ∧ ∃ q, (pq_R ty (b + 1) q rd r.2 ∧ q < 10) ∧ ¬ q = 0 ∧ ¬ q = 5 ∧ ¬ q = 8 := O
      have e3 : v = (if r.1 = 4 ∨ r.1 = 6 then nI b else -1) ∧ pm_ps τ ty (pm_fin (al.map pa_nm) r.2) := e3
      obtain ⟨O1, q, ⟨O2, O3⟩, O4, O5, O6⟩ := O
      refine ⟨by rw [e3.1, if_neg O1], _, e3.2, pq_form hp.2.2.2 hp.2.2.1 hab hb hc hr O2 ⟨O3, O4, O5, O6⟩ hal ?_⟩
      intro k hk
      exact (e3.2.2.2.1.2.2.2 k hk).2
theorem pm_forming (hF : 100 ≤ F) {A : pm_A} {rd : List pr_E} (hp : pm_ty σ ty) (hA : pm_ps σ ty A) (h : pm_rd ty al rd A) {a b : Nat} (hc : pr_cut ty a b = .inr rd) (hal : pa_gd al) : ∃ τ, sh_Model_makeForm F 248 (pu_mk σ) = some (pu_mk τ) ∧ pm_fm τ (pf_text [] (pr_form al rd)) ∧ pm_fr (fun x => x = 254) (fun k => k = 13) σ τ := by
  obtain ⟨h1, h2, h3, h4, h5, h6, -⟩ := h
  have hcore := pq_core hp.2.2.1 hc hal
  obtain ⟨o1, o2, o3⟩ := pc_gd_vok hcore
  have hs := (pr_size hp.2.2.1 (pa_gd_23 hal) hc).2
  have := pm_makeForm (F := F) (by omega) hp hA o1 o2 o3 (pc_gd_ne hcore) h1 h2 h3 h4 h5 (by rw [h6]; omega)
  rw [h6] at this
  exact this
end PQM
