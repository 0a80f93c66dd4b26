/-! what cutting gives: kinds, and each once -/
def pq_Q (rd : List pr_E) : Prop := (∀ e ∈ rd, (e.1 = 2 → pb_script e.2 = true) ∧ (e.1 = 6 → pb_key e.2 = true)) ∧ ∀ q, q = 4 ∨ q = 6 → ((rd.filter (fun e => decide (e.1 = q))).map (·.2)).Nodup
theorem pq_keys (q : Nat) : ∀ l : List pr_E, (pq_g q l).map (·.1) = (l.filter (fun e => decide (e.1 = q))).map (·.2)
  | [] => rfl
  | e :: l => by
    have ih := pq_keys q l
    rw [pq_g, List.filter_cons]
    by_cases h : e.1 = q
    · simp [h, ih]
    · simp [h, ih]
theorem pq_role2 {l : List pr_E} {s : List Nat} {b : Nat} : (pr_role l s b = 2 → pb_script s = true) ∧ (pr_role l s b = 6 → pb_key s = true ∧ pr_has l s 6 = false) ∧ (pr_role l s b = 4 → pr_has l s 4 = false) := by
  refine ⟨?_, ?_, ?_⟩ <;> intro h <;> unfold pr_role pr_ext pr_front at h <;> repeat' split at h
  all_goals first | (exfalso; omega) | (simp_all; done) | skip
theorem pq_Q1 {rd : List pr_E} (h : pq_Q rd) (s : List Nat) (b : Nat) : pq_Q (rd ++ [(pr_role rd s b, s)]) := by
  obtain ⟨h1, h2⟩ := h
  refine ⟨fun e he => ?_, fun q hq => ?_⟩
  · rcases List.mem_append.mp he with he | he
    · exact h1 e he
    · rw [List.mem_singleton] at he
      subst he
      exact ⟨pq_role2.1, fun z => (pq_role2.2.1 z).1⟩
  · rw [List.filter_append, List.map_append]
    by_cases hr : pr_role rd s b = q
    · have hno : pr_has rd s q = false := by
        rcases hq with rfl | rfl
        · exact pq_role2.2.2 hr
        · exact (pq_role2.2.1 hr).2
      rw [List.nodup_append]
      refine ⟨h2 q hq, by simp [hr], ?_⟩
      intro x hx y hy hxy
      simp [hr] at hy
      subst hy
      subst hxy
      rw [pq_has] at hno
      rw [← pq_keys] at hx
      obtain ⟨g, hg, hge⟩ := List.mem_map.mp hx
      rw [List.any_eq_false] at hno
      exact hno g hg (by simpa using hge)
    · have : ([(pr_role rd s b, s)].filter (fun e => decide (e.1 = q))).map (·.2) = [] := by simp [hr]
      rw [this, List.append_nil]
      exact h2 q hq
theorem pq_Qrun : ∀ (ss : List (List Nat)) (off q : Nat) (rd rd' : List pr_E), pq_Q rd → pr_run ss off q rd = .inr rd' → pq_Q rd' := by
  intro ss
  induction ss with
  | nil =>
    intro off q rd rd' h e
    rw [pr_run] at e
    split at e
    · cases e
    · cases e
      exact h
  | cons s ss ih =>
    intro off q rd rd' h e
    rw [pr_run] at e
    split at e
    · cases e
    · exact ih _ _ _ _ (pq_Q1 h _ _) e
theorem pq_Qcut {ty : List Nat} {a b : Nat} {rd : List pr_E} (h : pr_cut ty a b = .inr rd) : pq_Q rd := pq_Qrun _ _ _ [] rd ⟨fun e he => (by cases he), fun q _ => (by simp)⟩ h
theorem pm_run_iv {ty : List Nat} (hty : ∀ c ∈ ty, c < 128) {b : Nat} (hb : b ≤ ty.length) : ∀ (n st p i : Nat) (A : pm_A) (r : Nat × pm_A), i + n = b + 1 → p ≤ i → pm_iv A st p → pm_run ty b n st p i A = .inr r → ∃ p', pm_iv r.2 r.1 p' := by
  intro n
  induction n with
  | zero =>
    intro st p i A r _ _ h e
    rw [pm_run] at e
    cases e
    exact ⟨p, h⟩
  | succ n ih =>
    intro st p i A r hi hp h e
    rw [pm_run] at e
    split at e
    · cases hs : pm_st ty A st p i with
      | none => rw [hs] at e; cases e
      | some x =>
        rw [hs] at e
        exact ih x.1 (i + 1) (i + 1) x.2 r (by omega) (Nat.le_refl _) (pm_iv_step hty h hp (by omega) hs) e
    · exact ih st p (i + 1) A r (by omega) (by omega) h e
theorem pm_run_iv0 {ty : List Nat} (hty : ∀ c ∈ ty, c < 128) {a b : Nat} (hab : a ≤ b) (hb : b ≤ ty.length) {r : Nat × pm_A} (h : pm_run ty b (b + 1 - a) 0 a a pm_A0 = .inr r) : ∀ k ∈ r.2.2.2.1, k.1 + 2 ≤ k.2 := by
  obtain ⟨p, hp⟩ := pm_run_iv hty hb (b + 1 - a) 0 a a pm_A0 r (by omega) (Nat.le_refl _) ⟨by decide, by simp [pm_A0], fun k hk => (by cases hk), fun z => by omega⟩ h
  exact fun k hk => (hp.2.2.1 k hk).1
/-! aliases keep the kind -/
def pa_gd (al : List pa_E) : Prop := pa_lw al ∧ pa_un al ∧ pa_ac al ∧ (∀ a ∈ al, ¬ a.2.1 = a.2.2) ∧ al.length ≤ 8 ∧ ∀ a ∈ al, pk_part a.1 a.2.1 = true ∧ pk_part a.1 a.2.2 = true
theorem pk_part_23 {r : Bool} {s : List Nat} (h : pk_part r s = true) : 2 ≤ s.length ∧ s.length ≤ 3 := by
  unfold pk_part at h
  cases r
  · simp only [pb_lang, Bool.false_eq_true, if_false, Bool.and_eq_true, Bool.or_eq_true, beq_iff_eq] at h
    omega
  · simp only [pb_region, if_true, Bool.and_eq_true, Bool.or_eq_true, beq_iff_eq] at h
    omega
theorem pa_gd_23 {al : List pa_E} (h : pa_gd al) : pa_23 al := fun a ha => ⟨pk_part_23 (h.2.2.2.2.2 a ha).1, (pk_part_23 (h.2.2.2.2.2 a ha).2)⟩
theorem pa_rep_kind {al : List pa_E} (h : pa_gd al) (r : Bool) : ∀ (n : Nat) (s : List Nat), pk_part r s = true → pk_part r (pa_rep al r n s) = true
  | 0, s, hs => hs
  | n + 1, s, hs => by
    rw [pa_rep]
    cases hf : al.find? (pa_m s r) with
    | none => exact hs
    | some a =>
      have e := List.find?_some hf
      simp [pa_m] at e
      have := (h.2.2.2.2.2 a (List.mem_of_find?_eq_some hf)).2
      rw [e.2] at this
      exact pa_rep_kind h r n _ this
theorem pq_part_P {P : List Nat → Prop} {rd : List pr_E} {q : Nat} (h : ∀ e ∈ rd, e.1 = q → P e.2) : pr_part rd q = [] ∨ P (pr_part rd q) := by
  unfold pr_part
  cases hf : rd.find? (fun e => decide (e.1 = q)) with
  | none => exact Or.inl rfl
  | some e => exact Or.inr (h e (List.mem_of_find?_eq_some hf) (by simpa using List.find?_some hf))
/-- the core of what was cut is good -/
theorem pq_core {ty : List Nat} (hty : ty.length ≤ 60) {a b : Nat} {rd : List pr_E} (h : pr_cut ty a b = .inr rd) {al : List pa_E} (hal : pa_gd al) : pc_gd (pr_core al rd) := by
  obtain ⟨hg, -⟩ := pr_cut_good hty h
  have hlw := pr_cut_lw h
  have hQ := pq_Qcut h
  obtain ⟨e, he, he1⟩ := hg.2.1 (by decide)
  have p1 : pb_lang (pr_part rd 1) = true := by
    unfold pr_part
    cases hf : rd.find? (fun e => decide (e.1 = 1)) with
    | none =>
      rw [List.find?_eq_none] at hf
      exact absurd (by simpa using he1) (hf e he)
    | some x => exact (hg.1 x (List.mem_of_find?_eq_some hf)).2.1 (by simpa using List.find?_some hf)
  have p2 := pq_part_P (P := fun s => pb_script s = true) (fun e he => (hQ.1 e he).1)
  have p3 := pq_part_P (P := fun s => pb_region s = true) (fun e he => (hg.1 e he).2.2)
  refine ⟨pr_part rd 2, pa_rep al true al.length (pr_part rd 3), rfl, rfl, pa_rep_lw hal.1 false _ _ (pr_part_lw hlw 1), pr_part_lw hlw 2, pa_rep_lw hal.1 true _ _ (pr_part_lw hlw 3), ?_, p2, ?_⟩
  · exact pa_rep_kind hal false _ _ p1
  · rcases p3 with p3 | p3
    · left
      exact (pa_rep_23 (pa_gd_23 hal) true al.length _).2 p3
    · right
      exact pa_rep_kind hal true _ _ p3
theorem pq_nums {ty : List Nat} {a b : Nat} {rd : List pr_E} (h : pr_cut ty a b = .inr rd) {al : List pa_E} (hal : pa_gd al) (hty : ty.length ≤ 60) {A : pm_A} (hN : pq_N rd A) : (pm_fin (al.map pa_nm) A).1 = (pv_n (pr_core al rd).1, pv_n (pr_core al rd).2.1, pv_n (pr_core al rd).2.2) := by
  have hlw := pr_cut_lw h
  have hc := pq_core hty h hal
  obtain ⟨n1, n2, n3⟩ := hN
  have q3 := pr_part_lw hlw 3
  have e1 : pm_rn (al.map pa_nm) false 9 A.1.1 = pv_n (pr_core al rd).1 := by
    rw [n1, pa_repl9 hal.1 hal.2.1 hal.2.2.1 hal.2.2.2.2.1 false (pr_part_lw hlw 1)]
    rfl
  have p2 := pq_part_P (P := fun s => pb_script s = true) (fun e he => ((pq_Qcut h).1 e he).1)
  have p3 := pq_part_P (P := fun s => pb_region s = true) (fun e he => ((pr_cut_good hty h).1.1 e he).2.2)
  have e2 : A.1.2.1 = pv_n (pr_core al rd).2.1 := by
    rw [n2, ← pq_nlow (pr_core al rd).2.1]
    show _ = pv_n ((pb_title (pr_part rd 2)).map pt_low)
    rw [pq_titlel (pr_part_lw hlw 2) p2]
  have e3 : (if A.1.2.2 = 0 then 0 else pm_rn (al.map pa_nm) true 9 A.1.2.2) = pv_n (pr_core al rd).2.2 := by
    rw [n3]
    rcases p3 with p3 | p3
    · rw [p3, if_pos (show pv_n [] = 0 from rfl)]
      show 0 = pv_n (pb_caps (pa_rep al true al.length (pr_part rd 3)))
      rw [p3, (pa_rep_23 (pa_gd_23 hal) true al.length []).2 rfl]
      rfl
    · rw [if_neg, pa_repl9 hal.1 hal.2.1 hal.2.2.1 hal.2.2.2.2.1 true q3, ← pq_nlow (pr_core al rd).2.2]
      · show _ = pv_n ((pb_caps (pa_rep al true al.length (pr_part rd 3))).map pt_low)
        rw [pq_capsl (pa_rep_lw hal.1 true _ _ q3) (Or.inr (pa_rep_kind hal true _ _ p3))]
      · rw [pv_n00 q3]
        intro z
        rw [z] at p3
        cases p3
  unfold pm_fin
  show (_, _, _) = _
  rw [e1, e2, e3]
