/-! choosing the least: the class's numbers and the model's letters -/
theorem pq_ord : ∀ (k : Nat) (s t : List Nat), s.length ≤ k → t.length ≤ k → (∀ c ∈ s, 1 ≤ c ∧ c < 256) → (∀ c ∈ t, 1 ≤ c ∧ c < 256) → (pb_e k s < pb_e k t ↔ pm_lt s t = true) := by
  intro k
  induction k with
  | zero =>
    intro s t hs ht _ _
    have h1 : s = [] := List.eq_nil_of_length_eq_zero (by omega)
    have h2 : t = [] := List.eq_nil_of_length_eq_zero (by omega)
    subst h1 h2
    simp [pb_e, pm_lt]
  | succ k ih =>
    intro s t hs ht cs ct
    cases t with
    | nil => simp [pb_nil, pm_lt]
    | cons y t =>
      have hy := ct y List.mem_cons_self
      have ct' : ∀ c ∈ t, 1 ≤ c ∧ c < 256 := fun c hc => ct c (List.mem_cons_of_mem _ hc)
      have lt' := pb_lt (k := k) (s := t) (fun c hc => (ct' c hc).2)
      have hp : 0 < 256 ^ k := Nat.pow_pos (by decide)
      cases s with
      | nil =>
        have : 1 * 256 ^ k ≤ y * 256 ^ k := Nat.mul_le_mul_right _ hy.1
        simp only [pb_e, pm_lt]
        exact ⟨fun _ => by trivial, fun _ => by omega⟩
      | cons x s =>
        have hx := cs x List.mem_cons_self
        have cs' : ∀ c ∈ s, 1 ≤ c ∧ c < 256 := fun c hc => cs c (List.mem_cons_of_mem _ hc)
        have ls' := pb_lt (k := k) (s := s) (fun c hc => (cs' c hc).2)
        have I := ih s t (by simpa using hs) (by simpa using ht) cs' ct'
        simp only [pb_e, pm_lt]
        by_cases hxy : x = y
        · subst hxy
          rw [if_pos rfl, ← I]
          omega
        · rw [if_neg hxy, decide_eq_true_iff]
          constructor
          · intro h
            apply Classical.byContradiction
            intro hn
            have : (y + 1) * 256 ^ k ≤ x * 256 ^ k := Nat.mul_le_mul_right _ (by omega)
            rw [Nat.add_mul] at this
            omega
          · intro h
            have : (x + 1) * 256 ^ k ≤ y * 256 ^ k := Nat.mul_le_mul_right _ (by omega)
            rw [Nat.add_mul] at this
            omega
theorem pq_ord8 {s t : List Nat} (hs : pb_ok s) (ht : pb_ok t) : pb_e 8 s < pb_e 8 t ↔ pm_lt s t = true := pq_ord 8 s t hs.1 ht.1 (fun c hc => ⟨(hs.2 c hc).1, by have := (hs.2 c hc).2; omega⟩) (fun c hc => ⟨(ht.2 c hc).1, by have := (ht.2 c hc).2; omega⟩)
theorem pq_pos8 {s : List Nat} (hs : pb_ok s) (hne : ¬ s = []) : 0 < pb_e 8 s := by
  have := (pq_ord8 pb_ok0 hs).mpr (by cases s with
    | nil => exact absurd rfl hne
    | cons c l => rfl)
  rw [pb_nil] at this
  exact this
def pq_lw (b : Nat) : List pq_I → Option pq_I → Option pq_I
  | [], best => best
  | e :: es, best => if b < pb_e 8 e.1 ∧ (∀ x, best = some x → pb_e 8 e.1 < pb_e 8 x.1) then pq_lw b es (some e) else pq_lw b es best
def pq_ty (l : List (List Nat)) : List (List Nat) := if l = [pr_true] then [] else l
def pq_out (G : List pq_I) : Nat → Nat → List (List Nat)
  | 0, _ => []
  | n + 1, b => match pq_lw b G none with
    | none => []
    | some e => e.1 :: pq_ty e.2 ++ pq_out G n (pb_e 8 e.1)
def pq_at (l : List pr_E) (j : Nat) : pq_I := ((l.getD j pr_0).2, pr_tw (l.drop (j + 1)))
theorem pq_lw_map {l : List pr_E} {b q : Nat} : ∀ (es : List pr_E) (i : Nat) (best : Option Nat), es = l.drop i → (pr_lw l b q es i best).map (pq_at l) = pq_lw b (pq_g q es) (best.map (pq_at l)) := by
  intro es
  induction es with
  | nil => intro i best _; rfl
  | cons e es ih =>
    intro i best he
    have hi : i < l.length := by
      apply Classical.byContradiction
      intro hn
      rw [List.drop_eq_nil_of_le (by omega)] at he
      cases he
    rw [pb_dropG pr_0 hi] at he
    obtain ⟨h1, h2⟩ := List.cons.inj he
    have e3 : pq_at l i = (e.2, pr_tw es) := by rw [h1, h2]; rfl
    rw [pr_lw, pq_g]
    by_cases hq : e.1 = q
    · rw [if_pos hq, pq_lw]
      have hc : (e.1 = q ∧ b < pb_e 8 e.2 ∧ ∀ j, best = some j → pb_e 8 e.2 < pb_e 8 (l.getD j pr_0).2) ↔ (b < pb_e 8 (e.2, pr_tw es).1 ∧ ∀ x, best.map (pq_at l) = some x → pb_e 8 (e.2, pr_tw es).1 < pb_e 8 x.1) := by
        constructor
        · rintro ⟨-, a, c⟩
          refine ⟨a, fun x hx => ?_⟩
          cases best with
          | none => cases hx
          | some j =>
            cases hx
            exact c j rfl
        · rintro ⟨a, c⟩
          refine ⟨hq, a, fun j hj => ?_⟩
          subst hj
          exact c _ rfl
      by_cases hcc : e.1 = q ∧ b < pb_e 8 e.2 ∧ ∀ j, best = some j → pb_e 8 e.2 < pb_e 8 (l.getD j pr_0).2
      · rw [if_pos hcc, if_pos (hc.mp hcc), ih (i + 1) (some i) h2, Option.map_some, e3]
      · rw [if_neg hcc, if_neg (fun z => hcc (hc.mpr z)), ih (i + 1) best h2]
    · rw [if_neg hq, if_neg (fun z => hq z.1), ih (i + 1) best h2]
theorem pq_la {l : List pr_E} {b q : Nat} : (pr_la l b q).map (pq_at l) = pq_lw b (pq_g q l) none := pq_lw_map l 0 none rfl
theorem pq_out_eq (l : List pr_E) (q : Nat) : ∀ n b, pr_out l q n b = pq_out (pq_g q l) n b := by
  intro n
  induction n with
  | zero => intro b; rfl
  | succ n ih =>
    intro b
    rw [pr_out, pq_out, ← pq_la]
    cases h : pr_la l b q with
    | none => rfl
    | some j =>
      show (l.getD j pr_0).2 :: pr_tys l j ++ pr_out l q n (pb_e 8 (l.getD j pr_0).2) = _
      rw [ih]
      rfl
/-- the model's choice, by places -/
def pm_lw (ks : List (List Nat)) (last : Option Nat) : List (List Nat) → Nat → Option Nat → Option Nat
  | [], _, best => best
  | s :: es, i, best => if (∀ j, last = some j → pm_lt (ks.getD j []) s = true) ∧ (∀ j, best = some j → pm_lt s (ks.getD j []) = true) then pm_lw ks last es (i + 1) (some i) else pm_lw ks last es (i + 1) best
def pm_sel (ks : List (List Nat)) : Nat → Option Nat → List Nat
  | 0, _ => []
  | n + 1, last => match pm_lw ks last ks 0 none with
    | none => []
    | some j => j :: pm_sel ks n (some j)
def pq_0 : pq_I := ([], [])
def pq_b (ks : List (List Nat)) : Option Nat → Nat
  | none => 0
  | some j => pb_e 8 (ks.getD j [])
theorem pq_okk {ks : List (List Nat)} (h : ∀ s ∈ ks, pb_ok s) (j : Nat) : pb_ok (ks.getD j []) := pf_ok_get h j
theorem pq_mapget (G : List pq_I) (j : Nat) : (G.map (·.1)).getD j [] = (G.getD j pq_0).1 := by
  rw [List.getD_eq_getElem?_getD, List.getD_eq_getElem?_getD, List.getElem?_map]
  cases G[j]? <;> rfl
theorem pm_lw_map {G : List pq_I} (hok : ∀ g ∈ G, pb_ok g.1 ∧ ¬ g.1 = []) {last : Option Nat} : ∀ (n i : Nat) (best : Option Nat), i + n = G.length → (pm_lw (G.map (·.1)) last ((G.map (·.1)).drop i) i best).map (fun j => G.getD j pq_0) = pq_lw (pq_b (G.map (·.1)) last) (G.drop i) (best.map (fun j => G.getD j pq_0)) := by
  have hk : ∀ s ∈ G.map (·.1), pb_ok s := by
    intro s hs
    obtain ⟨g, hg, rfl⟩ := List.mem_map.mp hs
    exact (hok g hg).1
  intro n
  induction n with
  | zero =>
    intro i best hi
    rw [List.drop_eq_nil_of_le (by simp; omega), List.drop_eq_nil_of_le (by omega)]
    rfl
  | succ n ih =>
    intro i best hi
    have hil : i < G.length := by omega
    have hgi := hok _ (pb_getG pq_0 hil)
    rw [pb_dropG [] (show i < (G.map (·.1)).length by simp; omega), pb_dropG pq_0 hil, pm_lw, pq_lw, pq_mapget]
    have hc : ((∀ j, last = some j → pm_lt ((G.map (·.1)).getD j []) (G.getD i pq_0).1 = true) ∧ ∀ j, best = some j → pm_lt (G.getD i pq_0).1 ((G.map (·.1)).getD j []) = true) ↔ (pq_b (G.map (·.1)) last < pb_e 8 (G.getD i pq_0).1 ∧ ∀ x, best.map (fun j => G.getD j pq_0) = some x → pb_e 8 (G.getD i pq_0).1 < pb_e 8 x.1) := by
      constructor
      · rintro ⟨a, c⟩
        constructor
        · cases last with
          | none => exact pq_pos8 hgi.1 hgi.2
          | some j => exact (pq_ord8 (pq_okk hk j) hgi.1).mpr (a j rfl)
        · intro x hx
          cases best with
          | none => cases hx
          | some j =>
            cases hx
            have := c j rfl
            rw [← pq_ord8 hgi.1 (pq_okk hk j), pq_mapget] at this
            exact this
      · rintro ⟨a, c⟩
        constructor
        · rintro j rfl
          exact (pq_ord8 (pq_okk hk j) hgi.1).mp a
        · rintro j rfl
          have := c _ rfl
          rw [← pq_ord8 hgi.1 (pq_okk hk j), pq_mapget]
          exact this
    by_cases hcc : (∀ j, last = some j → pm_lt ((G.map (·.1)).getD j []) (G.getD i pq_0).1 = true) ∧ ∀ j, best = some j → pm_lt (G.getD i pq_0).1 ((G.map (·.1)).getD j []) = true
    · rw [if_pos hcc, if_pos (hc.mp hcc), ih (i + 1) (some i) (by omega)]
      rfl
    · rw [if_neg hcc, if_neg (fun z => hcc (hc.mpr z)), ih (i + 1) best (by omega)]
theorem pm_la {G : List pq_I} (hok : ∀ g ∈ G, pb_ok g.1 ∧ ¬ g.1 = []) (last : Option Nat) : (pm_lw (G.map (·.1)) last (G.map (·.1)) 0 none).map (fun j => G.getD j pq_0) = pq_lw (pq_b (G.map (·.1)) last) G none := pm_lw_map hok G.length 0 none (by omega)
theorem pq_sel {G : List pq_I} (hok : ∀ g ∈ G, pb_ok g.1 ∧ ¬ g.1 = []) : ∀ (n : Nat) (last : Option Nat), pq_out G n (pq_b (G.map (·.1)) last) = (pm_sel (G.map (·.1)) n last).flatMap (fun j => (G.getD j pq_0).1 :: pq_ty (G.getD j pq_0).2) := by
  intro n
  induction n with
  | zero => intro last; rfl
  | succ n ih =>
    intro last
    rw [pq_out, pm_sel, ← pm_la hok last]
    cases h : pm_lw (G.map (·.1)) last (G.map (·.1)) 0 none with
    | none => rfl
    | some j =>
      have := ih (some j)
      show (G.getD j pq_0).1 :: pq_ty (G.getD j pq_0).2 ++ pq_out G n (pb_e 8 (G.getD j pq_0).1) = _
      rw [List.flatMap_cons, ← this, pq_b, pq_mapget]
