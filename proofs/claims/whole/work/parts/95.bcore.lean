/-! good cores: their text, their numbers -/
def pc_gd (k : pc_C) : Prop := ∃ b c, k.2.1 = pb_title b ∧ k.2.2 = pb_caps c ∧ pb_lw k.1 ∧ pb_lw b ∧ pb_lw c ∧ pb_lang k.1 = true ∧ (b = [] ∨ pb_script b = true) ∧ (c = [] ∨ pb_region c = true)
theorem pq_upu : ∀ c, c < 128 → (97 ≤ c ∧ c ≤ 122) → pb_up c = pv_u c ∧ pt_low (pb_up c) = c ∧ pb_isA (pb_up c) = true := by decide +kernel
theorem pq_dig {c : Nat} (h : 48 ≤ c ∧ c ≤ 57) : pv_u c = c ∧ pt_low c = c := by
  unfold pv_u pt_low
  exact ⟨if_neg (by omega), if_neg (by omega)⟩
theorem pq_let {s : List Nat} (hs : pb_lw s) (h : s.countP pb_isL = s.length) : ∀ c ∈ s, 97 ≤ c ∧ c ≤ 122 := by
  rw [List.countP_eq_length] at h
  intro c hc
  have h1 := hs.2 c hc
  have h2 := h c hc
  simp [pb_isL] at h2
  omega
theorem pq_digs {s : List Nat} (hs : pb_lw s) (h : s.countP pb_isL = 0) : ∀ c ∈ s, 48 ≤ c ∧ c ≤ 57 := by
  rw [List.countP_eq_zero] at h
  intro c hc
  have h1 := hs.2 c hc
  have h2 := h c hc
  simp [pb_isL] at h2
  omega
theorem pq_titlel {b : List Nat} (hb : pb_lw b) (h : b = [] ∨ pb_script b = true) : (pb_title b).map pt_low = b := by
  cases b with
  | nil => rfl
  | cons c l =>
    rcases h with h | h
    · cases h
    · simp only [pb_script, Bool.and_eq_true, beq_iff_eq] at h
      have hc := pq_let hb (by rw [h.2, h.1]) c List.mem_cons_self
      have hl : l.map pt_low = l := pb_lwlow ⟨by have := hb.1; simp at this; omega, fun x hx => hb.2 x (List.mem_cons_of_mem _ hx)⟩
      simp only [pb_title, List.map_cons, hl, (pq_upu c (by omega) hc).2.1]
theorem pq_capsl {c : List Nat} (hc : pb_lw c) (h : c = [] ∨ pb_region c = true) : (pb_caps c).map pt_low = c := by
  rcases h with rfl | h
  · rfl
  · unfold pb_caps
    by_cases h0 : c.countP pb_isL = 0
    · rw [if_pos h0, pb_lwlow hc]
    · rw [if_neg h0, List.map_map]
      have h2 : c.countP pb_isL = c.length := by
        simp only [pb_region, Bool.or_eq_true, Bool.and_eq_true, beq_iff_eq] at h
        omega
      have hl := pq_let hc h2
      have : ∀ x ∈ c, (pt_low ∘ pb_up) x = id x := fun x hx => (pq_upu x (by have := hl x hx; omega) (hl x hx)).2.1
      rw [List.map_congr_left this, List.map_id]
theorem pq_isAlow : ∀ c, c < 128 → pb_isA (pt_low c) = pb_isA c := by decide +kernel
theorem pq_allA {s : List Nat} (h : pb_lw (s.map pt_low)) (hs : ∀ c ∈ s, c < 128) : s.all pb_isA = true := by
  have := pb_lwA h
  rw [List.all_eq_true] at this ⊢
  intro c hc
  have h1 := this (pt_low c) (List.mem_map_of_mem hc)
  rw [pq_isAlow c (hs c hc)] at h1
  exact h1
theorem pc_gd_low {k : pc_C} (h : pc_gd k) : pb_lw (k.1.map pt_low) ∧ pb_lw (k.2.1.map pt_low) ∧ pb_lw (k.2.2.map pt_low) := by
  obtain ⟨b, c, e1, e2, h1, h2, h3, h4, h5, h6⟩ := h
  rw [e1, e2, pb_lwlow h1, pq_titlel h2 h5, pq_capsl h3 h6]
  exact ⟨h1, h2, h3⟩
theorem pc_gd_ok {k : pc_C} (h : pc_gd k) : pc_ok k := by
  obtain ⟨b, c, e1, e2, h1, h2, h3, h4, h5, h6⟩ := h
  exact ⟨h1.ok, by rw [e1]; exact pb_title_ok h2, by rw [e2]; exact pb_caps_ok h3⟩
theorem pc_gd_len {k : pc_C} (h : pc_gd k) : (2 ≤ k.1.length ∧ k.1.length ≤ 3) ∧ (k.2.1 = [] ∨ k.2.1.length = 4) ∧ (k.2.2 = [] ∨ (2 ≤ k.2.2.length ∧ k.2.2.length ≤ 3)) := by
  obtain ⟨b, c, e1, e2, h1, h2, h3, h4, h5, h6⟩ := h
  refine ⟨?_, ?_, ?_⟩
  · simp only [pb_lang, Bool.or_eq_true, Bool.and_eq_true, beq_iff_eq] at h4
    omega
  · rw [e1]
    rcases h5 with rfl | h5
    · exact Or.inl rfl
    · right
      rw [pb_title_len]
      simp only [pb_script, Bool.and_eq_true, beq_iff_eq] at h5
      exact h5.1
  · rw [e2]
    rcases h6 with rfl | h6
    · exact Or.inl rfl
    · right
      rw [pb_caps_len]
      simp only [pb_region, Bool.or_eq_true, Bool.and_eq_true, beq_iff_eq] at h6
      omega
theorem pc_gd_vok {k : pc_C} (h : pc_gd k) : pv_ok k.1 ∧ pv_ok k.2.1 ∧ pv_ok k.2.2 := by
  obtain ⟨l1, l2, l3⟩ := pc_gd_low h
  obtain ⟨n1, n2, n3⟩ := pc_gd_len h
  obtain ⟨o1, o2, o3⟩ := pc_gd_ok h
  refine ⟨⟨fun c hc => (o1.2 c hc).2, pq_allA l1 (fun c hc => (o1.2 c hc).2), by omega⟩, ⟨fun c hc => (o2.2 c hc).2, pq_allA l2 (fun c hc => (o2.2 c hc).2), ?_⟩, ⟨fun c hc => (o3.2 c hc).2, pq_allA l3 (fun c hc => (o3.2 c hc).2), ?_⟩⟩
  · rcases n2 with n2 | n2
    · rw [n2]; simp
    · omega
  · rcases n3 with n3 | n3
    · rw [n3]; simp
    · omega
theorem pc_gd_ne {k : pc_C} (h : pc_gd k) : ¬ k.1 = [] := by
  intro z
  have := (pc_gd_len h).1.1
  rw [z] at this
  simp at this
/-- a number stands for one part -/
theorem pc_gd_1 {k m : pc_C} (h : pc_gd k) (h' : pc_gd m) : pv_n k.1 = pv_n m.1 ↔ k.1 = m.1 := by
  obtain ⟨b, c, e1, e2, h1, h2, h3, h4, h5, h6⟩ := h
  obtain ⟨b', c', e1', e2', h1', h2', h3', h4', h5', h6'⟩ := h'
  exact pv_inj h1 h1'
theorem pc_gd_2 {k m : pc_C} (h : pc_gd k) (h' : pc_gd m) : pv_n k.2.1 = pv_n m.2.1 ↔ k.2.1 = m.2.1 := by
  obtain ⟨b, c, e1, e2, h1, h2, h3, h4, h5, h6⟩ := h
  obtain ⟨b', c', e1', e2', h1', h2', h3', h4', h5', h6'⟩ := h'
  constructor
  · intro z
    rw [← pq_nlow k.2.1, ← pq_nlow m.2.1, e1, e1', pq_titlel h2 h5, pq_titlel h2' h5', pv_inj h2 h2'] at z
    rw [e1, e1', z]
  · intro z
    rw [z]
theorem pc_gd_3 {k m : pc_C} (h : pc_gd k) (h' : pc_gd m) : pv_n k.2.2 = pv_n m.2.2 ↔ k.2.2 = m.2.2 := by
  obtain ⟨b, c, e1, e2, h1, h2, h3, h4, h5, h6⟩ := h
  obtain ⟨b', c', e1', e2', h1', h2', h3', h4', h5', h6'⟩ := h'
  constructor
  · intro z
    rw [← pq_nlow k.2.2, ← pq_nlow m.2.2, e2, e2', pq_capsl h3 h6, pq_capsl h3' h6', pv_inj h3 h3'] at z
    rw [e2, e2', z]
  · intro z
    rw [z]
theorem pv_z {s : List Nat} (h : pv_ok s) : pv_n s = 0 ↔ s = [] := by
  constructor
  · intro z
    apply Classical.byContradiction
    intro hn
    have := pv_n_b h.2.1 hn h.2.2
    omega
  · rintro rfl
    rfl
theorem pv_lt31 {s : List Nat} (h : pv_ok s) : pv_n s < 2 ^ 31 := by
  by_cases hn : s = []
  · subst hn; decide
  · have := pv_n_b h.2.1 hn h.2.2
    omega
/-- the text of a core -/
theorem pv_t_low : ∀ (n : Nat) (s : List Nat), pv_t n (s.map pt_low) = pv_t n s
  | _, [] => rfl
  | n, c :: s => by rw [List.map_cons, pv_t, pv_t, pq_low2, pv_t_low (n - 1) s]
theorem pv_t0 : ∀ {s : List Nat}, s.map pt_low = s → pv_t 0 s = s
  | [], _ => rfl
  | c :: s, h => by
    rw [List.map_cons] at h
    obtain ⟨h1, h2⟩ := List.cons.inj h
    rw [pv_t, if_neg (by decide), h1, pv_t0 h2]
theorem pv_tn : ∀ {s : List Nat} (n : Nat), s.length ≤ n → s.map pt_low = s → pv_t n s = s.map pv_u
  | [], n, _, _ => by cases n <;> rfl
  | c :: s, n, hn, h => by
    rw [List.length_cons] at hn
    rw [List.map_cons] at h
    obtain ⟨h1, h2⟩ := List.cons.inj h
    rw [pv_t, if_pos (by omega), h1, List.map_cons, pv_tn (n - 1) (by omega) h2]
theorem pv_title {b : List Nat} (hb : pb_lw b) (h : b = [] ∨ pb_script b = true) : pv_t 1 (pb_title b) = pb_title b := by
  rw [← pv_t_low, pq_titlel hb h]
  cases b with
  | nil => rfl
  | cons c l =>
    rcases h with h | h
    · cases h
    · simp only [pb_script, Bool.and_eq_true, beq_iff_eq] at h
      have hc := pq_let hb (by rw [h.2, h.1]) c List.mem_cons_self
      have hl : l.map pt_low = l := pb_lwlow ⟨by have := hb.1; simp at this; omega, fun x hx => hb.2 x (List.mem_cons_of_mem _ hx)⟩
      have hc2 : pt_low c = c := by unfold pt_low; rw [if_neg (by omega)]
      rw [pv_t, if_pos (by decide), hc2, show 1 - 1 = 0 from rfl, pv_t0 hl, ← (pq_upu c (by omega) hc).1]
      rfl
theorem pv_capst {c : List Nat} (hc : pb_lw c) (h : c = [] ∨ pb_region c = true) : pv_t 3 (pb_caps c) = pb_caps c := by
  rw [← pv_t_low, pq_capsl hc h]
  rcases h with rfl | h
  · rfl
  · have h3 : c.length ≤ 3 := by
      simp only [pb_region, Bool.or_eq_true, Bool.and_eq_true, beq_iff_eq] at h
      omega
    rw [pv_tn 3 h3 (pb_lwlow hc)]
    unfold pb_caps
    by_cases h0 : c.countP pb_isL = 0
    · rw [if_pos h0]
      have hl := pq_digs hc h0
      have : ∀ x ∈ c, pv_u x = id x := fun x hx => (pq_dig (hl x hx)).1
      rw [List.map_congr_left this, List.map_id]
    · rw [if_neg h0]
      have h2 : c.countP pb_isL = c.length := by
        simp only [pb_region, Bool.or_eq_true, Bool.and_eq_true, beq_iff_eq] at h
        omega
      have hl := pq_let hc h2
      exact List.map_congr_left (fun x hx => ((pq_upu x (by have := hl x hx; omega) (hl x hx)).1).symm)
theorem pc_gd_text {k : pc_C} (h : pc_gd k) : pv_sh k.1 k.2.1 k.2.2 = pf_text [] (pc_list k) := by
  have hne := pc_gd_ne h
  obtain ⟨b, c, e1, e2, h1, h2, h3, h4, h5, h6⟩ := h
  have t1 : pv_t 0 k.1 = k.1 := pv_t0 (pb_lwlow h1)
  have t2 : pv_t 1 k.2.1 = k.2.1 := by rw [e1, pv_title h2 h5]
  have t3 : pv_t 3 k.2.2 = k.2.2 := by rw [e2, pv_capst h3 h6]
  unfold pv_sh pc_list
  rw [t1, t2, t3]
  by_cases x : k.2.1 = [] <;> by_cases y : k.2.2 = [] <;> simp [x, y, pf_text, pt_put, hne]
