/-! how many are chosen -/
def pq_k (g : pq_I) : Nat := pb_e 8 g.1
def pq_c (G : List pq_I) (b : Nat) : Nat := G.countP (fun g => decide (b < pq_k g))
theorem pq_lw_some {b : Nat} {e : pq_I} : ∀ (es : List pq_I) (best : Option pq_I), (∀ x, best = some x → b < pq_k x) → pq_lw b es best = some e → (e ∈ es ∨ best = some e) ∧ b < pq_k e ∧ (∀ x ∈ es, b < pq_k x → pq_k e ≤ pq_k x) ∧ ∀ x, best = some x → pq_k e ≤ pq_k x := by
  intro es
  induction es with
  | nil =>
    intro best hb h
    refine ⟨Or.inr h, hb e h, fun x hx => (by cases hx), fun x hx => ?_⟩
    have h' : best = some e := h
    rw [h'] at hx
    cases hx
    exact Nat.le_refl _
  | cons g es ih =>
    intro best hb h
    rw [pq_lw] at h
    by_cases hc : b < pb_e 8 g.1 ∧ ∀ x, best = some x → pb_e 8 g.1 < pb_e 8 x.1
    · rw [if_pos hc] at h
      obtain ⟨a, c, d, f⟩ := ih (some g) (fun x hx => by cases hx; exact hc.1) h
      have hg := f g rfl
      refine ⟨?_, c, fun x hx hbx => ?_, fun x hx => ?_⟩
      · rcases a with a | a
        · exact Or.inl (List.mem_cons_of_mem _ a)
        · cases a
          exact Or.inl List.mem_cons_self
      · rcases List.mem_cons.mp hx with rfl | hx
        · exact hg
        · exact d x hx hbx
      · have : pq_k g < pq_k x := hc.2 x hx
        omega
    · rw [if_neg hc] at h
      obtain ⟨a, c, d, f⟩ := ih best hb h
      refine ⟨?_, c, fun x hx hbx => ?_, f⟩
      · rcases a with a | a
        · exact Or.inl (List.mem_cons_of_mem _ a)
        · exact Or.inr a
      · rcases List.mem_cons.mp hx with rfl | hx
        · apply Classical.byContradiction
          intro hn
          refine hc ⟨hbx, fun y hy => ?_⟩
          have h1 := f y hy
          have h2 : pq_k x < pq_k y := by omega
          exact h2
        · exact d x hx hbx
theorem pq_lw_none {b : Nat} : ∀ (es : List pq_I) (best : Option pq_I), pq_lw b es best = none → best = none ∧ ∀ x ∈ es, ¬ b < pq_k x := by
  intro es
  induction es with
  | nil => intro best h; exact ⟨h, fun x hx => by cases hx⟩
  | cons g es ih =>
    intro best h
    rw [pq_lw] at h
    by_cases hc : b < pb_e 8 g.1 ∧ ∀ x, best = some x → pb_e 8 g.1 < pb_e 8 x.1
    · rw [if_pos hc] at h
      have := (ih _ h).1
      cases this
    · rw [if_neg hc] at h
      obtain ⟨a, c⟩ := ih _ h
      refine ⟨a, fun x hx => ?_⟩
      rcases List.mem_cons.mp hx with rfl | hx
      · intro hb
        exact hc ⟨hb, fun y hy => by rw [a] at hy; cases hy⟩
      · exact c x hx
theorem pq_cp_add {α : Type} {p q r : α → Bool} (h : ∀ x, p x = true → q x = true ∨ r x = true) : ∀ l : List α, l.countP p ≤ l.countP q + l.countP r
  | [] => by simp
  | x :: l => by
    have ih := pq_cp_add h l
    rw [List.countP_cons, List.countP_cons, List.countP_cons]
    have hx := h x
    cases hp : p x <;> cases hq : q x <;> cases hr : r x <;> simp_all <;> omega
theorem pq_cp_lt {α : Type} {p q : α → Bool} (h : ∀ x, p x = true → q x = true) {e : α} (hq : q e = true) (hp : p e = false) : ∀ l : List α, e ∈ l → l.countP p + 1 ≤ l.countP q
  | [], he => by cases he
  | x :: l, he => by
    rw [List.countP_cons, List.countP_cons]
    have hm : l.countP p ≤ l.countP q := List.countP_mono_left (fun y _ hy => h y hy)
    rcases List.mem_cons.mp he with rfl | he
    · rw [hq, hp]
      simp
      omega
    · have ih := pq_cp_lt h hq hp l he
      have hx := h x
      cases hp' : p x <;> cases hq' : q x <;> simp_all <;> omega
theorem pq_cnt1 {G : List pq_I} (hnd : (G.map pq_k).Nodup) {b : Nat} {e : pq_I} (h : pq_lw b G none = some e) : pq_c G b ≤ pq_c G (pq_k e) + 1 := by
  obtain ⟨-, h2, h3, -⟩ := pq_lw_some G none (fun x hx => by cases hx) h
  have h1 : G.countP (fun g => decide (pq_k g = pq_k e)) ≤ 1 := by
    have := List.nodup_iff_count.mp hnd (pq_k e)
    rw [List.count_eq_countP, List.countP_map] at this
    refine Nat.le_trans (Nat.le_of_eq ?_) this
    congr 1
  have h4 : ∀ l : List pq_I, (∀ x ∈ l, x ∈ G) → l.countP (fun g => decide (b < pq_k g)) ≤ l.countP (fun g => decide (pq_k e < pq_k g)) + l.countP (fun g => decide (pq_k g = pq_k e)) := by
    intro l
    induction l with
    | nil => intro _; simp
    | cons x l ih =>
      intro hl
      have i1 := ih (fun y hy => hl y (List.mem_cons_of_mem _ hy))
      have i2 := h3 x (hl x List.mem_cons_self)
      rw [List.countP_cons, List.countP_cons, List.countP_cons]
      by_cases hb : b < pq_k x
      · have i3 := i2 hb
        by_cases he : pq_k x = pq_k e
        · have hbe : b < pq_k e := h2
          simp [he, hbe]
          omega
        · have : pq_k e < pq_k x := by omega
          simp [hb, he, this]
          omega
      · simp [hb]
        omega
  have := h4 G (fun x hx => hx)
  unfold pq_c
  omega
theorem pq_cnt2 {G : List pq_I} {b : Nat} {e : pq_I} (h : pq_lw b G none = some e) : pq_c G (pq_k e) + 1 ≤ pq_c G b := by
  obtain ⟨h1, h2, h3, -⟩ := pq_lw_some G none (fun x hx => by cases hx) h
  have he : e ∈ G := h1.elim id (fun z => by cases z)
  refine pq_cp_lt (e := e) (fun x hx => ?_) (by simpa using h2) (by simp) G he
  have : pq_k e < pq_k x := by simpa using hx
  simp
  omega
theorem pq_cnt0 {G : List pq_I} {b : Nat} (h : pq_lw b G none = none) : pq_c G b = 0 := by
  have := (pq_lw_none G none h).2
  unfold pq_c
  rw [List.countP_eq_zero]
  intro x hx
  simpa using this x hx
theorem pq_cnt3 {G : List pq_I} {b : Nat} (h : pq_c G b = 0) : pq_lw b G none = none := by
  cases hl : pq_lw b G none with
  | none => rfl
  | some e =>
    have := pq_cnt2 hl
    omega
theorem pq_out_stop (G : List pq_I) : ∀ (n m b : Nat), pq_c G b ≤ n → pq_out G (n + m) b = pq_out G n b := by
  intro n
  induction n with
  | zero =>
    intro m b h
    have := pq_cnt3 (show pq_c G b = 0 by omega)
    cases m with
    | zero => rfl
    | succ m => rw [Nat.zero_add, pq_out, pq_out, this]
  | succ n ih =>
    intro m b h
    rw [show n + 1 + m = (n + m) + 1 by omega, pq_out, pq_out]
    cases hl : pq_lw b G none with
    | none => rfl
    | some e =>
      have := pq_cnt2 hl
      show e.1 :: pq_ty e.2 ++ pq_out G (n + m) (pq_k e) = e.1 :: pq_ty e.2 ++ pq_out G n (pq_k e)
      rw [ih m (pq_k e) (by omega)]
theorem pm_sel_len {G : List pq_I} (hok : ∀ g ∈ G, pb_ok g.1 ∧ ¬ g.1 = []) (hnd : (G.map pq_k).Nodup) : ∀ (n : Nat) (last : Option Nat), n ≤ pq_c G (pq_b (G.map (·.1)) last) → (pm_sel (G.map (·.1)) n last).length = n := by
  intro n
  induction n with
  | zero => intro last _; rfl
  | succ n ih =>
    intro last h
    have hm := pm_la hok last
    rw [pm_sel]
    cases hl : pm_lw (G.map (·.1)) last (G.map (·.1)) 0 none with
    | none =>
      rw [hl] at hm
      have := pq_cnt0 hm.symm
      omega
    | some j =>
      rw [hl] at hm
      have : pq_c G (pq_b (G.map (·.1)) last) ≤ pq_c G (pq_k (G.getD j pq_0)) + 1 := pq_cnt1 hnd hm.symm
      have e : pq_b (G.map (·.1)) (some j) = pq_k (G.getD j pq_0) := by rw [pq_b, pq_mapget]; rfl
      show (pm_sel (G.map (·.1)) n (some j)).length + 1 = n + 1
      rw [ih (some j) (by rw [e]; show n ≤ pq_c G (pq_k (G.getD j pq_0)); omega)]
theorem pq_c0 {G : List pq_I} (hok : ∀ g ∈ G, pb_ok g.1 ∧ ¬ g.1 = []) : pq_c G 0 = G.length := by
  unfold pq_c
  rw [List.countP_eq_length]
  intro g hg
  have := pq_pos8 (hok g hg).1 (hok g hg).2
  exact decide_eq_true this
/-- chosen by the class: chosen by the model -/
theorem pq_all {G : List pq_I} (hok : ∀ g ∈ G, pb_ok g.1 ∧ ¬ g.1 = []) {n : Nat} (hn : G.length ≤ n) : pq_out G n 0 = (pm_sel (G.map (·.1)) G.length none).flatMap (fun j => (G.getD j pq_0).1 :: pq_ty (G.getD j pq_0).2) := by
  have := pq_out_stop G G.length (n - G.length) 0 (by rw [pq_c0 hok]; exact Nat.le_refl _)
  rw [show G.length + (n - G.length) = n by omega] at this
  rw [this, ← pq_sel hok G.length none]
  rfl
theorem pm_lw_lt {ks : List (List Nat)} {last : Option Nat} : ∀ (es : List (List Nat)) (i : Nat) (best : Option Nat), i + es.length = ks.length → (∀ j, best = some j → j < ks.length) → ∀ j, pm_lw ks last es i best = some j → j < ks.length := by
  intro es
  induction es with
  | nil => intro i best _ hb j hj; exact hb j hj
  | cons s es ih =>
    intro i best hl hb j hj
    rw [List.length_cons] at hl
    rw [pm_lw] at hj
    split at hj
    · exact ih (i + 1) (some i) (by omega) (fun k hk => by cases hk; omega) j hj
    · exact ih (i + 1) best (by omega) hb j hj
theorem pm_sel_lt {ks : List (List Nat)} : ∀ (n : Nat) (last : Option Nat), ∀ j ∈ pm_sel ks n last, j < ks.length := by
  intro n
  induction n with
  | zero => intro last j hj; cases hj
  | succ n ih =>
    intro last j hj
    rw [pm_sel] at hj
    cases h : pm_lw ks last ks 0 none with
    | none => rw [h] at hj; cases hj
    | some i =>
      rw [h] at hj
      rcases List.mem_cons.mp hj with rfl | hj
      · exact pm_lw_lt ks 0 none (by omega) (fun k hk => by cases hk) _ h
      · exact ih (some i) j hj
