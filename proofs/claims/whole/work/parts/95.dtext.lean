/-! the text of the form: class and model -/
def pq_fl (ps : List (List Nat)) : List Nat := ps.flatMap (fun s => 45 :: s)
theorem pq_fl_app (a b : List (List Nat)) : pq_fl (a ++ b) = pq_fl a ++ pq_fl b := by unfold pq_fl; rw [List.flatMap_append]
theorem pq_fl_cons (s : List Nat) (b : List (List Nat)) : pq_fl (s :: b) = 45 :: (s ++ pq_fl b) := by unfold pq_fl; rw [List.flatMap_cons]; rfl
theorem pq_fl_text : ∀ (ps : List (List Nat)) (l : List Nat), ¬ l = [] → pf_text l ps = l ++ pq_fl ps
  | [], l, _ => by simp [pf_text, pq_fl]
  | s :: ps, l, h => by
    have ih := pq_fl_text ps (pt_put l s) (by rw [pq_pput h]; simp)
    rw [pq_fl_cons]
    show pf_text (pt_put l s) ps = _
    rw [ih, pq_pput h]
    simp
theorem pq_fl_flat {α : Type} (f : α → List (List Nat)) : ∀ l : List α, pq_fl (l.flatMap f) = l.flatMap (fun j => pq_fl (f j))
  | [] => rfl
  | x :: l => by rw [List.flatMap_cons, List.flatMap_cons, pq_fl_app, pq_fl_flat f l]
theorem pq_flatC {α β : Type} {f g : α → List β} : ∀ l : List α, (∀ x ∈ l, f x = g x) → l.flatMap f = l.flatMap g
  | [], _ => rfl
  | x :: l, h => by rw [List.flatMap_cons, List.flatMap_cons, h x List.mem_cons_self, pq_flatC l (fun y hy => h y (List.mem_cons_of_mem _ hy))]
theorem pq_pclow {s : List Nat} (h : pb_lw (s.map pt_low)) : s.map pm_pc = s.map pt_low := by
  apply List.map_congr_left
  intro c hc
  have h1 := h.2 (pt_low c) (List.mem_map_of_mem hc)
  unfold pm_pc
  rw [if_neg]
  rintro rfl
  have : pt_low 95 = 95 := rfl
  omega
theorem pq_g_mem {q : Nat} : ∀ {l : List pr_E} {g : pq_I}, g ∈ pq_g q l → ∃ e ∈ l, e.1 = q ∧ e.2 = g.1 ∧ ∀ t ∈ g.2, ∃ x ∈ l, x.2 = t
  | [], g, h => by cases h
  | e :: l, g, h => by
    rw [pq_g] at h
    have up : g ∈ pq_g q l → ∃ x ∈ e :: l, x.1 = q ∧ x.2 = g.1 ∧ ∀ t ∈ g.2, ∃ x ∈ e :: l, x.2 = t := fun h => by
      obtain ⟨x, hx, h1, h2, h3⟩ := pq_g_mem h
      exact ⟨x, List.mem_cons_of_mem _ hx, h1, h2, fun t ht => by
        obtain ⟨y, hy, hyt⟩ := h3 t ht
        exact ⟨y, List.mem_cons_of_mem _ hy, hyt⟩⟩
    split at h
    · rename_i he
      rcases List.mem_cons.mp h with rfl | h
      · refine ⟨e, List.mem_cons_self, he, rfl, fun t ht => ?_⟩
        have ht : t ∈ (l.takeWhile (fun e => decide (e.1 = 7))).map (·.2) := ht
        obtain ⟨y, hy, hyt⟩ := List.mem_map.mp ht
        exact ⟨y, List.mem_cons_of_mem _ (List.takeWhile_subset _ hy), hyt⟩
      · exact up h
    · exact up h
theorem pq_g_len {q : Nat} : ∀ l : List pr_E, (pq_g q l).length ≤ l.length
  | [] => Nat.le_refl _
  | e :: l => by
    have := pq_g_len (q := q) l
    rw [pq_g]
    split <;> simp <;> omega
theorem pq_g_nd {q : Nat} (hq : q = 4 ∨ q = 6) {rd : List pr_E} (hQ : pq_Q rd) (hlw : pr_lwl rd) : ((pq_g q rd).map pq_k).Nodup := by
  have h1 := hQ.2 q hq
  rw [← pq_keys] at h1
  unfold List.Nodup at h1 ⊢
  rw [List.pairwise_map] at h1 ⊢
  refine List.Pairwise.imp_of_mem (fun {x y} hx hy hxy he => hxy ?_) h1
  obtain ⟨e, he1, -, he2, -⟩ := pq_g_mem hx
  obtain ⟨f, hf1, -, hf2, -⟩ := pq_g_mem hy
  have o1 : pb_ok x.1 := by rw [← he2]; exact (hlw e he1).ok
  have o2 : pb_ok y.1 := by rw [← hf2]; exact (hlw f hf1).ok
  exact pb_inj o1.1 o2.1 (fun c hc => ⟨(o1.2 c hc).1, by have := (o1.2 c hc).2; omega⟩) (fun c hc => ⟨(o2.2 c hc).1, by have := (o2.2 c hc).2; omega⟩) he
section PQF
variable {ty : List Nat} {rd : List pr_E} {A : pm_A}
theorem pq_g_ok {q : Nat} (hlw : pr_lwl rd) (hne : ∀ e ∈ rd, ¬ e.2 = []) : ∀ g ∈ pq_g q rd, pb_ok g.1 ∧ ¬ g.1 = [] := by
  intro g hg
  obtain ⟨e, he1, -, he2, -⟩ := pq_g_mem hg
  rw [← he2]
  exact ⟨(hlw e he1).ok, hne e he1⟩
/-- variants -/
theorem pq_vws (hlw : pr_lwl rd) (hne : ∀ e ∈ rd, ¬ e.2 = []) (hQ : pq_Q rd) (hv : pq_g 4 rd = A.2.1.map (pq_vy ty)) : pq_fl (pr_out rd 4 rd.length 0) = pm_vws ty A.2.1 ∧ (pm_sel (A.2.1.map (pm_vk ty)) A.2.1.length none).length = A.2.1.length := by
  have hok := pq_g_ok (q := 4) hlw hne
  have hkeys : (pq_g 4 rd).map (·.1) = A.2.1.map (pm_vk ty) := by
    rw [hv, List.map_map]
    rfl
  have hlen : (pq_g 4 rd).length = A.2.1.length := by rw [hv, List.length_map]
  constructor
  · rw [pq_out_eq, pq_all hok (pq_g_len rd), pq_fl_flat, hkeys, hlen]
    unfold pm_vws
    apply pq_flatC
    intro j hj
    have hj := pm_sel_lt _ _ j hj
    rw [List.length_map] at hj
    have e : (pq_g 4 rd).getD j pq_0 = pq_vy ty (A.2.1.getD j pm_0p) := by
      rw [hv, List.getD_eq_getElem?_getD, List.getD_eq_getElem?_getD, List.getElem?_map, List.getElem?_eq_getElem hj]
      rfl
    have hm : (pq_g 4 rd).getD j pq_0 ∈ pq_g 4 rd := pb_getG pq_0 (by omega)
    obtain ⟨x, hx1, -, hx2, -⟩ := pq_g_mem hm
    have hl := hlw x hx1
    rw [hx2, e] at hl
    rw [e]
    show pq_fl ((pq_vy ty (A.2.1.getD j pm_0p)).1 :: pq_ty []) = _
    unfold pq_ty
    rw [if_neg (by decide), pq_fl_cons]
    unfold pm_vt
    rw [pq_pclow hl]
    simp [pq_fl, pq_vy]
  · have := pm_sel_len hok (pq_g_nd (Or.inl rfl) hQ hlw) (pq_g 4 rd).length none (by show _ ≤ pq_c (pq_g 4 rd) 0; rw [pq_c0 hok]; exact Nat.le_refl _)
    rw [hkeys, hlen] at this
    exact this
theorem pq_no45 {s : List Nat} (h : pb_lw s) : ¬ (45 : Nat) ∈ s := fun z => by have := h.2 45 z; omega
theorem pq_true1 {x : Nat} {tys : List (List Nat)} (h : ∀ t ∈ tys, pb_lw t) : pq_fl tys = x :: pr_true → tys = [pr_true] := by
  intro e
  cases tys with
  | nil => cases e
  | cons t tys =>
    rw [pq_fl_cons] at e
    obtain ⟨-, e2⟩ := List.cons.inj e
    cases tys with
    | nil =>
      have : t ++ pq_fl [] = t := by simp [pq_fl]
      rw [this] at e2
      rw [e2]
    | cons u tys =>
      rw [pq_fl_cons] at e2
      have : (45 : Nat) ∈ pr_true := by
        rw [← e2]
        simp
      exact absurd this (by decide)
/-- keywords -/
theorem pq_kws (hlw : pr_lwl rd) (hne : ∀ e ∈ rd, ¬ e.2 = []) (hQ : pq_Q rd) (hv : (pq_g 6 rd).map pq_kx = A.2.2.1.map (pq_ky ty)) (h2 : ∀ k ∈ A.2.2.1, k.1 + 2 ≤ k.2 ∧ k.2 ≤ ty.length) : pq_fl (pr_out rd 6 rd.length 0) = pm_kws ty A.2.2.1 ∧ (pm_sel (A.2.2.1.map (pm_kk ty)) A.2.2.1.length none).length = A.2.2.1.length := by
  have hok := pq_g_ok (q := 6) hlw hne
  have hkeys : (pq_g 6 rd).map (·.1) = A.2.2.1.map (pm_kk ty) := by
    have := congrArg (List.map (·.1)) hv
    rw [List.map_map, List.map_map] at this
    exact this
  have hlen : (pq_g 6 rd).length = A.2.2.1.length := by
    have := congrArg List.length hv
    simpa using this
  constructor
  · rw [pq_out_eq, pq_all hok (pq_g_len rd), pq_fl_flat, hkeys, hlen]
    unfold pm_kws
    apply pq_flatC
    intro j hj
    have hj := pm_sel_lt _ _ j hj
    rw [List.length_map] at hj
    have e : pq_kx ((pq_g 6 rd).getD j pq_0) = pq_ky ty (A.2.2.1.getD j pm_0p) := by
      have := congrArg (fun l => l[j]?) hv
      simp only [List.getElem?_map] at this
      rw [List.getElem?_eq_getElem hj, List.getElem?_eq_getElem (show j < (pq_g 6 rd).length by omega)] at this
      rw [List.getD_eq_getElem?_getD, List.getD_eq_getElem?_getD, List.getElem?_eq_getElem hj, List.getElem?_eq_getElem (show j < (pq_g 6 rd).length by omega)]
      exact Option.some.inj this
    have hm : (pq_g 6 rd).getD j pq_0 ∈ pq_g 6 rd := pb_getG pq_0 (by omega)
    have hn := h2 _ (pb_getG pm_0p hj)
    generalize hG : (pq_g 6 rd).getD j pq_0 = G at *
    obtain ⟨x, hx1, -, hx2, hx3⟩ := pq_g_mem hm
    have hGlw : pb_lw G.1 := by rw [← hx2]; exact hlw x hx1
    have hGne := (hok G hm).2
    have hTlw : ∀ t ∈ G.2, pb_lw t := fun t ht => by
      obtain ⟨y, hy, hyt⟩ := hx3 t ht
      rw [← hyt]
      exact hlw y hy
    unfold pm_kt
    generalize hV : A.2.2.1.getD j pm_0p = v at *
    have e1 : G.1 = (pm_seg ty v.1 (v.1 + 2)).map pt_low := congrArg Prod.fst e
    have e2 : pf_text G.1 G.2 = (pm_seg ty v.1 v.2).map pm_pc := congrArg Prod.snd e
    have e3 : (pm_seg ty v.1 (v.1 + 2)).map pm_pc = G.1 := by
      rw [pq_pclow (by rw [← e1]; exact hGlw), e1]
    rw [pq_fl_text _ _ hGne] at e2
    rw [pq_seg (a := v.1) (b := v.1 + 2) (c := v.2) (by omega) hn.1, List.map_append, e3] at e2
    have e4 : pq_fl G.2 = (pm_seg ty (v.1 + 2) v.2).map pm_pc := List.append_cancel_left e2
    rw [pq_fl_cons]
    by_cases ht : G.2 = [pr_true]
    · have hs : (pm_seg ty (v.1 + 2) v.2).map pm_pc = 45 :: pr_true := by
        rw [← e4, ht]
        rfl
      have hl7 : v.2 = v.1 + 7 := by
        have := congrArg List.length hs
        rw [List.length_map, pm_seg_len hn.2] at this
        have h5 : (45 :: pr_true).length = 5 := rfl
        omega
      rw [pm_seg_cons (by omega) hn.2, List.map_cons] at hs
      have hs2 := (List.cons.inj hs).2
      rw [hl7] at hs2
      have yes : pm_only ty v = true := by
        unfold pm_only
        rw [decide_eq_true_iff]
        refine ⟨hl7, ?_⟩
        rw [← hs2]
        apply List.map_congr_left
        intro c hc
        have hm' : pm_pc c ∈ pr_true := by
          rw [← hs2]
          exact List.mem_map_of_mem hc
        unfold pm_pc
        rw [if_neg]
        rintro rfl
        revert hm'
        decide
      unfold pm_ke
      rw [if_pos yes, e3]
      unfold pq_ty
      rw [if_pos ht]
      simp [pq_fl]
    · have no : pm_only ty v = false := by
        unfold pm_only
        refine decide_eq_false (fun z => ht ?_)
        have z2 : (pm_seg ty (v.1 + 3) (v.1 + 7)).map pm_pc = pr_true := by
          rw [← z.2]
          apply List.map_congr_left
          intro c hc
          have hm' : pt_low c ∈ pr_true := by
            rw [← z.2]
            exact List.mem_map_of_mem hc
          unfold pm_pc
          rw [if_neg]
          rintro rfl
          revert hm'
          decide
        rw [pm_seg_cons (by omega) hn.2, List.map_cons, z.1, show v.1 + 2 + 1 = v.1 + 3 by omega, z2] at e4
        exact pq_true1 hTlw e4
      unfold pm_ke
      rw [if_neg (by rw [no]; decide)]
      unfold pq_ty
      rw [if_neg ht, e4, pq_seg (a := v.1) (b := v.1 + 2) (c := v.2) (by omega) hn.1, List.map_append, e3]
  · have := pm_sel_len hok (pq_g_nd (Or.inr rfl) hQ hlw) (pq_g 6 rd).length none (by show _ ≤ pq_c (pq_g 6 rd) 0; rw [pq_c0 hok]; exact Nat.le_refl _)
    rw [hkeys, hlen] at this
    exact this
end PQF
