/-! how long a form gets -/
def pz_w (α : Nat) (s : List Nat) : Nat := α * s.length + 1
def pz_s (α : Nat) (ps : List (List Nat)) : Nat := (ps.map (pz_w α)).sum
def pz_t (α : Nat) (l : List pr_E) : Nat := (l.map (fun e => pz_w α e.2)).sum
def pz_a (α q : Nat) : List pr_E → Nat
  | [] => 0
  | e :: l => (if e.1 = q then pz_w α e.2 else 0) + pz_a α q l
def pz_S (α q b : Nat) : List pr_E → Nat
  | [] => 0
  | e :: l => (if e.1 = q ∧ b < pb_e 8 e.2 then pz_w α e.2 + pz_s α (pr_tw l) else 0) + pz_S α q b l
theorem pz_s_app (α : Nat) (a b : List (List Nat)) : pz_s α (a ++ b) = pz_s α a + pz_s α b := by simp [pz_s]
theorem pz_s_cons (α : Nat) (a : List Nat) (b : List (List Nat)) : pz_s α (a :: b) = pz_w α a + pz_s α b := by simp [pz_s]
theorem pz_S_mono (α q : Nat) {b c : Nat} (h : b ≤ c) : ∀ l, pz_S α q c l ≤ pz_S α q b l
  | [] => Nat.le_refl _
  | e :: l => by
    have ih := pz_S_mono α q h l
    unfold pz_S
    by_cases h1 : e.1 = q ∧ c < pb_e 8 e.2
    · rw [if_pos h1, if_pos ⟨h1.1, by omega⟩]
      omega
    · rw [if_neg h1]
      omega
theorem pz_S_step (α q : Nat) {b c : Nat} : ∀ (l : List pr_E) (j : Nat), j < l.length → (l.getD j pr_0).1 = q → b < pb_e 8 (l.getD j pr_0).2 → pb_e 8 (l.getD j pr_0).2 = c → pz_w α (l.getD j pr_0).2 + pz_s α (pr_tw (l.drop (j + 1))) + pz_S α q c l ≤ pz_S α q b l
  | [], j, h, _, _, _ => by simp at h
  | e :: l, 0, h, h1, h2, h3 => by
    have h1 : e.1 = q := h1
    have h2 : b < pb_e 8 e.2 := h2
    have h3 : pb_e 8 e.2 = c := h3
    have := pz_S_mono α q (show b ≤ c by omega) l
    unfold pz_S
    rw [if_neg (fun z => by have := z.2; omega), if_pos ⟨h1, h2⟩]
    show pz_w α e.2 + pz_s α (pr_tw l) + _ ≤ _
    omega
  | e :: l, j + 1, h, h1, h2, h3 => by
    have ih := pz_S_step α q l j (by simpa using h) h1 h2 h3
    have h4 : pb_e 8 (l.getD j pr_0).2 = c := h3
    have h5 : b < pb_e 8 (l.getD j pr_0).2 := h2
    unfold pz_S
    show pz_w α (l.getD j pr_0).2 + pz_s α (pr_tw (l.drop (j + 1))) + _ ≤ _
    by_cases h6 : e.1 = q ∧ c < pb_e 8 e.2
    · rw [if_pos h6, if_pos ⟨h6.1, by omega⟩]
      omega
    · rw [if_neg h6]
      omega
theorem pr_lw_P {l : List pr_E} {b q : Nat} {j : Nat} : ∀ (es : List pr_E) (i : Nat) (best : Option Nat), es = l.drop i → (∀ j, best = some j → (l.getD j pr_0).1 = q ∧ b < pb_e 8 (l.getD j pr_0).2) → pr_lw l b q es i best = some j → (l.getD j pr_0).1 = q ∧ b < pb_e 8 (l.getD j pr_0).2
  | [], i, best, _, hb, h => hb j h
  | e :: es, i, best, he, hb, h => by
    have hi : i < l.length := by
      rcases Nat.lt_or_ge i l.length with h | h
      · exact h
      · rw [List.drop_eq_nil_of_le h] at he
        cases he
    rw [pb_dropG pr_0 hi] at he
    injection he with he1 he2
    unfold pr_lw at h
    split at h
    · rename_i hc
      exact pr_lw_P es (i + 1) (some i) he2 (fun k hk => by cases hk; rw [← he1]; exact ⟨hc.1, hc.2.1⟩) h
    · exact pr_lw_P es (i + 1) best he2 hb h
theorem pr_la_P {l : List pr_E} {b q j : Nat} (h : pr_la l b q = some j) : (l.getD j pr_0).1 = q ∧ b < pb_e 8 (l.getD j pr_0).2 := pr_lw_P l 0 none rfl (fun j hj => by cases hj) h
theorem pz_out (α : Nat) (l : List pr_E) (q : Nat) : ∀ n b, pz_s α (pr_out l q n b) ≤ pz_S α q b l := by
  intro n
  induction n with
  | zero => intro b; exact Nat.zero_le _
  | succ n ih =>
    intro b
    unfold pr_out
    cases h : pr_la l b q with
    | none => exact Nat.zero_le _
    | some j =>
      obtain ⟨h1, h2⟩ := pr_la_P h
      have h3 := pz_S_step α q (c := pb_e 8 (l.getD j pr_0).2) l j (pr_la_lt h) h1 h2 rfl
      have h4 := ih (pb_e 8 (l.getD j pr_0).2)
      have h5 : pz_s α (pr_tys l j) ≤ pz_s α (pr_tw (l.drop (j + 1))) := by
        unfold pr_tys
        split
        · exact Nat.zero_le _
        · exact Nat.le_refl _
      simp only [List.cons_append, pz_s_cons, pz_s_app]
      omega
theorem pz_all (α : Nat) : ∀ l : List pr_E, pz_a α 1 l + pz_a α 2 l + pz_a α 3 l + pz_a α 5 l + pz_S α 4 0 l + pz_S α 6 0 l + pz_s α (pr_tw l) + pz_s α (pr_priv l) ≤ pz_t α l
  | [] => by simp [pz_a, pz_S, pz_s, pr_tw, pr_priv, pz_t]
  | e :: l => by
    have ih := pz_all α l
    have ht : pz_t α (e :: l) = pz_w α e.2 + pz_t α l := by simp [pz_t]
    have hp : pz_s α (pr_priv (e :: l)) = (if 8 ≤ e.1 then pz_w α e.2 else 0) + pz_s α (pr_priv l) := by
      unfold pr_priv
      by_cases h : 8 ≤ e.1 <;> simp [h, pz_s]
    have hw : pz_s α (pr_tw (e :: l)) = (if e.1 = 7 then pz_w α e.2 + pz_s α (pr_tw l) else 0) := by
      unfold pr_tw
      by_cases h : e.1 = 7 <;> simp [h, pz_s]
    rw [ht, hp, hw]
    unfold pz_a pz_S
    have c4 : (if e.1 = 4 ∧ 0 < pb_e 8 e.2 then pz_w α e.2 + pz_s α (pr_tw l) else 0) ≤ (if e.1 = 4 then pz_w α e.2 + pz_s α (pr_tw l) else 0) := by
      by_cases h : e.1 = 4 ∧ 0 < pb_e 8 e.2
      · rw [if_pos h, if_pos h.1]; exact Nat.le_refl _
      · rw [if_neg h]; exact Nat.zero_le _
    have c6 : (if e.1 = 6 ∧ 0 < pb_e 8 e.2 then pz_w α e.2 + pz_s α (pr_tw l) else 0) ≤ (if e.1 = 6 then pz_w α e.2 + pz_s α (pr_tw l) else 0) := by
      by_cases h : e.1 = 6 ∧ 0 < pb_e 8 e.2
      · rw [if_pos h, if_pos h.1]; exact Nat.le_refl _
      · rw [if_neg h]; exact Nat.zero_le _
    generalize (if e.1 = 4 ∧ 0 < pb_e 8 e.2 then pz_w α e.2 + pz_s α (pr_tw l) else 0) = x4 at c4 ⊢
    generalize (if e.1 = 6 ∧ 0 < pb_e 8 e.2 then pz_w α e.2 + pz_s α (pr_tw l) else 0) = x6 at c6 ⊢
    clear ht hp hw
    obtain ⟨r, v⟩ := e
    simp only at c4 c6 ⊢
    have hr : r = 0 ∨ r = 1 ∨ r = 2 ∨ r = 3 ∨ r = 4 ∨ r = 5 ∨ r = 6 ∨ r = 7 ∨ 8 ≤ r := by omega
    rcases hr with rfl | rfl | rfl | rfl | rfl | rfl | rfl | rfl | hr
    case inr.inr.inr.inr.inr.inr.inr.inr =>
      rw [if_neg (by omega)] at c4 c6
      rw [if_neg (by omega), if_neg (by omega), if_neg (by omega), if_neg (by omega), if_neg (by omega), if_pos hr]
      omega
    all_goals
      simp at c4 c6 ⊢
      omega
theorem pz_part (α : Nat) {q : Nat} : ∀ {l : List pr_E}, ¬ pr_part l q = [] → pz_w α (pr_part l q) ≤ pz_a α q l
  | [], h => absurd rfl h
  | e :: l, h => by
    unfold pz_a
    by_cases c : e.1 = q
    · have : pr_part (e :: l) q = e.2 := by simp [pr_part, c]
      rw [this, if_pos c]
      omega
    · have he : pr_part (e :: l) q = pr_part l q := by simp [pr_part, c]
      rw [he] at h ⊢
      have := pz_part α h
      omega
def pa_23 (al : List pa_E) : Prop := ∀ a ∈ al, (2 ≤ a.2.1.length ∧ a.2.1.length ≤ 3) ∧ 2 ≤ a.2.2.length ∧ a.2.2.length ≤ 3
theorem pa_rep_23 {al : List pa_E} (h : pa_23 al) (r : Bool) : ∀ (n : Nat) (s : List Nat), (2 ≤ s.length ∧ s.length ≤ 3 → 2 ≤ (pa_rep al r n s).length ∧ (pa_rep al r n s).length ≤ 3) ∧ (s = [] → pa_rep al r n s = []) := by
  intro n
  induction n with
  | zero => intro s; exact ⟨fun h => h, fun h => h⟩
  | succ n ih =>
    intro s
    unfold pa_rep
    cases hf : al.find? (pa_m s r) with
    | none => exact ⟨fun h => h, fun h => h⟩
    | some a =>
      have hm := h a (List.mem_of_find?_eq_some hf)
      have he := List.find?_some hf
      simp [pa_m] at he
      refine ⟨fun _ => (ih a.2.2).1 hm.2, fun q => ?_⟩
      rw [he.1, q] at hm
      simp at hm
