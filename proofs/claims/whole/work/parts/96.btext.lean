/-! forms and their texts -/
def pf_ok1 (s : List Nat) : Prop := ¬ s = [] ∧ pb_lw (s.map pt_low) ∧ ∀ c ∈ s, c < 128
def pf_cl (ps : List (List Nat)) : Prop := ∀ p ∈ ps, pf_ok1 p
theorem pf_ok1_45 {s : List Nat} (h : pf_ok1 s) : ∀ c ∈ s, ¬ c = 45 := by
  intro c hc z
  have := h.2.1.2 (pt_low c) (List.mem_map_of_mem hc)
  rw [z] at this
  have e : pt_low 45 = 45 := rfl
  omega
theorem pf_text_c (p : List Nat) (ps : List (List Nat)) (hp : ¬ p = []) : pf_text [] (p :: ps) = p ++ pq_fl ps := by
  show pf_text (pt_put [] p) ps = _
  rw [show pt_put [] p = p by simp [pt_put], pq_fl_text ps p hp]
theorem pf_tw {p : List Nat} (h : ∀ c ∈ p, ¬ c = 45) (ps : List (List Nat)) : (p ++ pq_fl ps).takeWhile (fun c => decide (¬ c = 45)) = p := by
  induction p with
  | nil =>
    cases ps with
    | nil => rfl
    | cons s ps =>
      rw [pq_fl_cons]
      rfl
  | cons c p ih =>
    have hc := h c List.mem_cons_self
    rw [List.cons_append, List.takeWhile_cons]
    rw [if_pos (by simpa using hc), ih (fun x hx => h x (List.mem_cons_of_mem _ hx))]
theorem pf_fl_inj : ∀ (ps qs : List (List Nat)), pf_cl ps → pf_cl qs → pq_fl ps = pq_fl qs → ps = qs
  | [], [], _, _, _ => rfl
  | [], q :: qs, _, _, h => by rw [pq_fl_cons] at h; cases h
  | p :: ps, [], _, _, h => by rw [pq_fl_cons] at h; cases h
  | p :: ps, q :: qs, hp, hq, h => by
    rw [pq_fl_cons, pq_fl_cons] at h
    have h := (List.cons.inj h).2
    have e := congrArg (List.takeWhile (fun c => decide (¬ c = 45))) h
    rw [pf_tw (pf_ok1_45 (hp p List.mem_cons_self)), pf_tw (pf_ok1_45 (hq q List.mem_cons_self))] at e
    subst e
    rw [pf_fl_inj ps qs (fun x hx => hp x (List.mem_cons_of_mem _ hx)) (fun x hx => hq x (List.mem_cons_of_mem _ hx)) (List.append_cancel_left h)]
theorem pf_text_inj {ps qs : List (List Nat)} (hp : pf_cl ps) (hq : pf_cl qs) : pf_text [] ps = pf_text [] qs ↔ ps = qs := by
  constructor
  · intro h
    cases ps with
    | nil =>
      cases qs with
      | nil => rfl
      | cons q qs =>
        rw [pf_text_c q qs (hq q List.mem_cons_self).1] at h
        have h : [] = q ++ pq_fl qs := h
        exact absurd (List.append_eq_nil_iff.mp h.symm).1 (hq q List.mem_cons_self).1
    | cons p ps =>
      cases qs with
      | nil =>
        rw [pf_text_c p ps (hp p List.mem_cons_self).1] at h
        have h : p ++ pq_fl ps = [] := h
        exact absurd (List.append_eq_nil_iff.mp h).1 (hp p List.mem_cons_self).1
      | cons q qs =>
        rw [pf_text_c p ps (hp p List.mem_cons_self).1, pf_text_c q qs (hq q List.mem_cons_self).1] at h
        have e : pq_fl (p :: ps) = pq_fl (q :: qs) := by rw [pq_fl_cons, pq_fl_cons, h]
        exact pf_fl_inj _ _ hp hq e
  · rintro rfl
    rfl
theorem pf_find {tg : List pg_E} (ht : ∀ e ∈ tg, pf_cl e.1) {cur : List (List Nat)} (hc : pf_cl cur) : (tg.map (fun e => pf_text [] e.1)).findIdx? (fun x => decide (x = pf_text [] cur)) = pf_at? tg cur := by
  unfold pf_at?
  induction tg with
  | nil => rfl
  | cons e tg ih =>
    rw [List.map_cons, List.findIdx?_cons, List.findIdx?_cons, ih (fun x hx => ht x (List.mem_cons_of_mem _ hx))]
    have := pf_text_inj (ht e List.mem_cons_self) hc
    by_cases h : e.1 = cur
    · rw [decide_eq_true h, decide_eq_true (this.mpr h)]
    · rw [decide_eq_false h, decide_eq_false (fun z => h (this.mp z))]
/-- core subtags are clean -/
theorem pc_list_mem {k : pc_C} {p : List Nat} (h : p ∈ pc_list k) : p = k.1 ∨ (p = k.2.1 ∧ ¬ k.2.1 = []) ∨ (p = k.2.2 ∧ ¬ k.2.2 = []) := by
  unfold pc_list at h
  rcases List.mem_append.mp h with h | h
  · rcases List.mem_append.mp h with h | h
    · exact Or.inl (List.mem_singleton.mp h)
    · split at h
      · cases h
      · rename_i hn
        exact Or.inr (Or.inl ⟨List.mem_singleton.mp h, hn⟩)
  · split at h
    · cases h
    · rename_i hn
      exact Or.inr (Or.inr ⟨List.mem_singleton.mp h, hn⟩)
theorem pc_gd_cl {k : pc_C} (h : pc_gd k) : pf_cl (pc_list k) := by
  obtain ⟨l1, l2, l3⟩ := pc_gd_low h
  obtain ⟨o1, o2, o3⟩ := pc_gd_ok h
  intro p hp
  rcases pc_list_mem hp with rfl | ⟨rfl, hn⟩ | ⟨rfl, hn⟩
  · exact ⟨pc_gd_ne h, l1, fun c hc => (o1.2 c hc).2⟩
  · exact ⟨hn, l2, fun c hc => (o2.2 c hc).2⟩
  · exact ⟨hn, l3, fun c hc => (o3.2 c hc).2⟩
theorem pc_list_inj {k m : pc_C} (h : pc_gd k) (h' : pc_gd m) : pc_list k = pc_list m ↔ k = m := by
  constructor
  · intro e
    obtain ⟨n1, n2, n3⟩ := pc_gd_len h
    obtain ⟨m1, m2, m3⟩ := pc_gd_len h'
    obtain ⟨a, b, c⟩ := k
    obtain ⟨a', b', c'⟩ := m
    simp only [pc_list] at e
    dsimp only at n1 n2 n3 m1 m2 m3
    by_cases x : b = [] <;> by_cases y : c = [] <;> by_cases x' : b' = [] <;> by_cases y' : c' = [] <;> simp_all <;> (try (obtain ⟨e1, e2⟩ := e; subst e2; omega)) <;> (try (obtain ⟨e1, e2⟩ := e; have := congrArg List.length e2; omega))
  · rintro rfl
    rfl
theorem pq_out_mem {l : List pr_E} {q : Nat} : ∀ (n b : Nat) (p : List Nat), p ∈ pr_out l q n b → ∃ e ∈ l, e.2 = p := by
  intro n
  induction n with
  | zero => intro b p h; cases h
  | succ n ih =>
    intro b p h
    rw [pr_out] at h
    cases hj : pr_la l b q with
    | none => rw [hj] at h; cases h
    | some j =>
      rw [hj] at h
      have hjl := pr_la_lt hj
      have h : p ∈ (l.getD j pr_0).2 :: pr_tys l j ++ pr_out l q n (pb_e 8 (l.getD j pr_0).2) := h
      rcases List.mem_append.mp h with h | h
      · rcases List.mem_cons.mp h with h | h
        · exact ⟨_, pb_getG pr_0 hjl, h.symm⟩
        · have h2 : p ∈ pr_tw (l.drop (j + 1)) := by
            unfold pr_tys at h
            split at h
            · cases h
            · exact h
          have h2 : p ∈ ((l.drop (j + 1)).takeWhile (fun e => decide (e.1 = 7))).map (·.2) := h2
          obtain ⟨e, he, hep⟩ := List.mem_map.mp h2
          exact ⟨e, List.mem_of_mem_drop (List.takeWhile_subset _ he), hep⟩
      · exact ih _ p h
theorem pf_ok1_lw {s : List Nat} (h : pb_lw s) (hn : ¬ s = []) : pf_ok1 s := ⟨hn, by rw [pb_lwlow h]; exact h, fun c hc => by have := h.2 c hc; omega⟩
/-- the form's subtags behind the core -/
def pr_rest (rd : List pr_E) : List (List Nat) := pr_out rd 4 rd.length 0 ++ (if pr_part rd 5 = [] then [] else [117] :: pr_out rd 6 rd.length 0) ++ pr_priv rd
theorem pr_form_rest (al : List pa_E) (rd : List pr_E) : pr_form al rd = pc_list (pr_core al rd) ++ pr_rest rd := by
  unfold pr_form pr_rest
  simp
theorem pr_rest_lw {rd : List pr_E} (hlw : pr_lwl rd) (hne : ∀ e ∈ rd, ¬ e.2 = []) : ∀ p ∈ pr_rest rd, pb_lw p ∧ ¬ p = [] := by
  intro p hp
  have up : (∃ e ∈ rd, e.2 = p) → pb_lw p ∧ ¬ p = [] := by
    rintro ⟨e, he, rfl⟩
    exact ⟨hlw e he, hne e he⟩
  unfold pr_rest at hp
  rcases List.mem_append.mp hp with hp | hp
  · rcases List.mem_append.mp hp with hp | hp
    · exact up (pq_out_mem _ _ p hp)
    · split at hp
      · cases hp
      · rcases List.mem_cons.mp hp with rfl | hp
        · exact ⟨⟨by decide, by decide⟩, by decide⟩
        · exact up (pq_out_mem _ _ p hp)
  · unfold pr_priv at hp
    obtain ⟨e, he, hep⟩ := List.mem_map.mp hp
    exact up ⟨e, (List.mem_filter.mp he).1, hep⟩
