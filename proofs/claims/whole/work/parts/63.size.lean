/-! how long a form gets, from what is typed -/
theorem pr_role_1 {l : List pr_E} {s : List Nat} {b : Nat} : (¬ pr_role l s b = 0 → ¬ s = []) ∧ (pr_role l s b = 1 → pb_lang s = true) ∧ (pr_role l s b = 3 → pb_region s = true) ∧ (b = 0 → ¬ pr_role l s b = 0 → pr_role l s b = 1) := by
  refine ⟨fun h hs => h ?_, fun h => ?_, fun h => ?_, fun hb h => ?_⟩
  · unfold pr_role
    rw [if_pos hs]
  · unfold pr_role pr_ext pr_front at h
    by_cases hb : b = 0
    · by_cases hl : pb_lang s = true
      · exact hl
      · simp [hb, hl] at h
    · exfalso
      rw [if_neg hb] at h
      revert h
      repeat' split
      all_goals decide
  · unfold pr_role pr_ext pr_front at h
    by_cases hr : pb_region s = true
    · exact hr
    · exfalso
      rw [if_neg (show ¬ (b < 3 ∧ pb_region s = true) from fun z => hr z.2)] at h
      revert h
      repeat' split
      all_goals decide
  · unfold pr_role at h ⊢
    rw [if_pos hb] at h ⊢
    by_cases hs : s = []
    · rw [if_pos hs] at h
      exact absurd rfl h
    · rw [if_neg hs] at h ⊢
      by_cases hl : pb_lang s = true
      · rw [if_pos hl]
      · rw [if_neg hl] at h
        exact absurd rfl h
def pr_good (q : Nat) (rd : List pr_E) : Prop := (∀ e ∈ rd, ¬ e.2 = [] ∧ (e.1 = 1 → pb_lang e.2 = true) ∧ (e.1 = 3 → pb_region e.2 = true)) ∧ (¬ q = 0 → ∃ e ∈ rd, e.1 = 1) ∧ rd.length ≤ 30
theorem pt_cut_len (s : List Nat) : (pt_cut s).length ≤ s.length := by
  unfold pt_cut
  split <;> simp
theorem pr_run_good : ∀ (ss : List (List Nat)) (off q : Nat) (rd rd' : List pr_E), pr_good q rd → (ss = [] → ¬ q = 0) → pr_run ss off q rd = .inr rd' → pr_good 1 rd' ∧ pz_t 1 rd' ≤ pz_t 1 rd + (ss.map (fun s => s.length + 1)).sum := by
  intro ss
  induction ss with
  | nil =>
    intro off q rd rd' h h0 e
    unfold pr_run at e
    split at e
    · cases e
    · cases e
      exact ⟨⟨h.1, fun _ => h.2.1 (h0 rfl), h.2.2⟩, Nat.le_add_right _ _⟩
  | cons s ss ih =>
    intro off q rd rd' h h0 e
    unfold pr_run at e
    split at e
    · cases e
    · rename_i hc
      have hn : ¬ pr_role rd (pt_cut s) q = 0 := fun z => hc (Or.inl z)
      obtain ⟨r1, r2, r3, r4⟩ := pr_role_1 (l := rd) (s := pt_cut s) (b := q)
      have := ih _ _ _ rd' (⟨fun x hx => ?_, fun _ => ?_, ?_⟩) (fun _ => hn) e
      · refine ⟨this.1, Nat.le_trans this.2 ?_⟩
        have hl := pt_cut_len s
        simp [pz_t, pz_w]
        omega
      · rcases List.mem_append.mp hx with hx | hx
        · exact h.1 x hx
        · simp at hx
          rw [hx]
          exact ⟨r1 hn, r2, r3⟩
      · by_cases hq : q = 0
        · exact ⟨_, List.mem_append_right _ List.mem_cons_self, r4 hq hn⟩
        · obtain ⟨x, hx, hx1⟩ := h.2.1 hq
          exact ⟨x, List.mem_append_left _ hx, hx1⟩
      · have : ¬ 30 ≤ rd.length := fun z => hc (Or.inr z)
        simp
        omega
theorem pr_segs_sum : ∀ (l cur : List Nat), ((pr_segs cur l).map (fun s => s.length + 1)).sum = cur.length + l.length + 1 := by
  intro l
  induction l with
  | nil => intro cur; simp [pr_segs]
  | cons c l ih =>
    intro cur
    unfold pr_segs
    split
    · simp [ih]
      omega
    · rw [ih]
      simp
      omega
theorem pr_segs_ne : ∀ (l cur : List Nat), ¬ pr_segs cur l = [] := by
  intro l
  induction l with
  | nil => intro cur; simp [pr_segs]
  | cons c l ih =>
    intro cur
    unfold pr_segs
    split
    · simp
    · exact ih _
theorem pr_cut_err {ty : List Nat} (hty : ty.length ≤ 60) (a b e : Nat) (h : pr_cut ty a b = .inl e) : e ≤ 61 := by
  have key : ∀ (ss : List (List Nat)) (off q : Nat) (rd : List pr_E) (e : Nat), pr_run ss off q rd = .inl e → e ≤ off + (ss.map (fun s => s.length + 1)).sum := by
    intro ss
    induction ss with
    | nil =>
      intro off q rd e he
      unfold pr_run at he
      split at he
      · cases he
        omega
      · cases he
    | cons s ss ih =>
      intro off q rd e he
      unfold pr_run at he
      split at he
      · cases he
        omega
      · have := ih _ _ _ _ he
        simp
        omega
  have h2 := key _ _ _ _ _ h
  rw [pr_segs_sum] at h2
  simp at h2
  omega
theorem pr_cut_good {ty : List Nat} (hty : ty.length ≤ 60) {a b : Nat} {rd : List pr_E} (h : pr_cut ty a b = .inr rd) : pr_good 1 rd ∧ pz_t 1 rd ≤ 61 := by
  have := pr_run_good _ _ _ _ _ ⟨fun e he => (by cases he), fun z => absurd rfl z, by simp⟩ (fun z => absurd z (pr_segs_ne _ _)) h
  refine ⟨this.1, Nat.le_trans this.2 ?_⟩
  rw [pr_segs_sum]
  simp [pz_t]
  omega
theorem pz_s0 (ps : List (List Nat)) : pz_s 0 ps = ps.length := by
  induction ps with
  | nil => rfl
  | cons p ps ih => rw [pz_s_cons, ih]; simp [pz_w]; omega
theorem pz_t0 (l : List pr_E) : pz_t 0 l = l.length := by
  induction l with
  | nil => rfl
  | cons p ps ih =>
    have : pz_t 0 (p :: ps) = pz_w 0 p.2 + pz_t 0 ps := by simp [pz_t]
    rw [this, ih]; simp [pz_w]; omega
theorem pf_text_w (ps : List (List Nat)) : ∀ l, (pf_text l ps).length ≤ l.length + pz_s 1 ps := by
  induction ps with
  | nil => intro l; simp [pf_text]
  | cons p ps ih =>
    intro l
    have h1 := ih (pt_put l p)
    have h2 := pt_put_len l p
    have h3 : pf_text l (p :: ps) = pf_text (pt_put l p) ps := rfl
    rw [h3, pz_s_cons]
    simp only [pz_w]
    omega
theorem pf_text_w1 {ps : List (List Nat)} (h : ¬ ps = []) : (pf_text [] ps).length + 1 ≤ pz_s 1 ps := by
  cases ps with
  | nil => exact absurd rfl h
  | cons p ps =>
    have h1 := pf_text_w ps p
    have h3 : pf_text [] (p :: ps) = pf_text p ps := by
      show pf_text (pt_put [] p) ps = _
      simp [pt_put]
    rw [h3, pz_s_cons]
    simp only [pz_w]
    omega
theorem pb_title_len (s : List Nat) : (pb_title s).length = s.length := by cases s <;> simp [pb_title]
theorem pb_caps_len (s : List Nat) : (pb_caps s).length = s.length := by
  unfold pb_caps
  split <;> simp
theorem pz_form {al : List pa_E} (hal : pa_23 al) {rd : List pr_E} (hg : pr_good 1 rd) (α : Nat) : pz_s α (pr_form al rd) ≤ pz_t α rd + 2 * α := by
  have h0 := pz_all α rd
  have h4 := pz_out α rd 4 rd.length 0
  have h6 := pz_out α rd 6 rd.length 0
  obtain ⟨g1, g2, g3⟩ := hg
  have mem : ∀ q, ¬ pr_part rd q = [] → ∃ e ∈ rd, e.1 = q ∧ pr_part rd q = e.2 := by
    intro q hq
    unfold pr_part at hq ⊢
    cases hf : rd.find? (fun e => decide (e.1 = q)) with
    | none => rw [hf] at hq; exact absurd rfl hq
    | some e =>
      refine ⟨e, List.mem_of_find?_eq_some hf, ?_, rfl⟩
      simpa using List.find?_some hf
  have n1 : ¬ pr_part rd 1 = [] := by
    obtain ⟨e, he, h1⟩ := g2 (by decide)
    unfold pr_part
    cases hf : rd.find? (fun e => decide (e.1 = 1)) with
    | none =>
      have := List.find?_eq_none.mp hf e he
      simp [h1] at this
    | some x => exact (g1 x (List.mem_of_find?_eq_some hf)).1
  have l1 : 2 ≤ (pr_part rd 1).length ∧ (pr_part rd 1).length ≤ 3 := by
    obtain ⟨e, he, h1, h2⟩ := mem 1 n1
    have := (g1 e he).2.1 h1
    simp [pb_lang] at this
    rw [h2]
    omega
  have q1 := (pa_rep_23 hal false al.length (pr_part rd 1)).1 l1
  have w1 : pz_w α (pr_core al rd).1 ≤ pz_a α 1 rd + α := by
    have := pz_part α n1
    simp only [pz_w, pr_core] at this ⊢
    have h5 : α * (pa_rep al false al.length (pr_part rd 1)).length ≤ α * ((pr_part rd 1).length + 1) := Nat.mul_le_mul_left _ (by omega)
    rw [Nat.mul_add] at h5
    omega
  have w2 : pz_s α (if (pr_core al rd).2.1 = [] then [] else [(pr_core al rd).2.1]) ≤ pz_a α 2 rd := by
    by_cases c : (pr_core al rd).2.1 = []
    · rw [if_pos c]; exact Nat.zero_le _
    · rw [if_neg c]
      have hl : (pr_core al rd).2.1.length = (pr_part rd 2).length := pb_title_len _
      have n2 : ¬ pr_part rd 2 = [] := fun z => c (List.length_eq_zero_iff.mp (by rw [hl, z]; rfl))
      have := pz_part α n2
      simp only [pz_s, pz_w, List.map_cons, List.map_nil, List.sum_cons, List.sum_nil, hl] at this ⊢
      omega
  have w3 : pz_s α (if (pr_core al rd).2.2 = [] then [] else [(pr_core al rd).2.2]) ≤ pz_a α 3 rd + α := by
    by_cases c : (pr_core al rd).2.2 = []
    · rw [if_pos c]; exact Nat.zero_le _
    · rw [if_neg c]
      have hl : (pr_core al rd).2.2.length = (pa_rep al true al.length (pr_part rd 3)).length := pb_caps_len _
      have n3 : ¬ pr_part rd 3 = [] := fun z => c (List.length_eq_zero_iff.mp (by rw [hl, (pa_rep_23 hal true al.length (pr_part rd 3)).2 z]; rfl))
      have l3 : 2 ≤ (pr_part rd 3).length ∧ (pr_part rd 3).length ≤ 3 := by
        obtain ⟨e, he, h1, h2⟩ := mem 3 n3
        have := (g1 e he).2.2 h1
        simp [pb_region] at this
        rw [h2]
        omega
      have q3 := (pa_rep_23 hal true al.length (pr_part rd 3)).1 l3
      have := pz_part α n3
      have h5 : α * (pa_rep al true al.length (pr_part rd 3)).length ≤ α * ((pr_part rd 3).length + 1) := Nat.mul_le_mul_left _ (by omega)
      rw [Nat.mul_add] at h5
      simp only [pz_s, pz_w, List.map_cons, List.map_nil, List.sum_cons, List.sum_nil, hl] at this ⊢
      omega
  have w5 : pz_s α (if pr_part rd 5 = [] then [] else [117] :: pr_out rd 6 rd.length 0) ≤ pz_a α 5 rd + pz_S α 6 0 rd := by
    by_cases c : pr_part rd 5 = []
    · rw [if_pos c]; exact Nat.zero_le _
    · rw [if_neg c, pz_s_cons]
      have := pz_part α c
      have hp : 1 ≤ (pr_part rd 5).length := List.length_pos_iff.mpr c
      have h5 : α * 1 ≤ α * (pr_part rd 5).length := Nat.mul_le_mul_left _ hp
      simp only [pz_w, List.length_cons, List.length_nil] at this ⊢
      omega
  unfold pr_form pc_list
  simp only [pz_s_app]
  have e1 : pz_s α [(pr_core al rd).1] = pz_w α (pr_core al rd).1 := by simp [pz_s]
  rw [e1]
  omega
theorem pr_size {ty : List Nat} (hty : ty.length ≤ 60) {al : List pa_E} (hal : pa_23 al) {a b : Nat} {rd : List pr_E} (h : pr_cut ty a b = .inr rd) : (pr_form al rd).length ≤ 30 ∧ (pf_text [] (pr_form al rd)).length ≤ 62 := by
  obtain ⟨g, h1⟩ := pr_cut_good hty h
  have a0 := pz_form hal g 0
  have a1 := pz_form hal g 1
  rw [pz_s0, pz_t0] at a0
  have hn : ¬ pr_form al rd = [] := by
    unfold pr_form pc_list
    simp
  have a2 := pf_text_w1 hn
  have := g.2.2
  exact ⟨by omega, by omega⟩
