/-! numbers of parts; aliases as lists and as numbers -/
theorem pb_lwA {s : List Nat} (h : pb_lw s) : s.all pb_isA = true := by
  rw [List.all_eq_true]
  intro c hc
  have := h.2 c hc
  simp [pb_isA, pb_isL, pb_isD]
  omega
theorem pb_lwlow {s : List Nat} (h : pb_lw s) : s.map pt_low = s := by
  have : ∀ c ∈ s, pt_low c = id c := fun c hc => by
    have := h.2 c hc
    unfold pt_low
    rw [if_neg (by omega)]
    rfl
  rw [List.map_congr_left this, List.map_id]
theorem pv_inj0 : ∀ (s t : List Nat), pb_lw s → pb_lw t → s.length = t.length → pv_n s = pv_n t → s = t
  | [], [], _, _, _, _ => rfl
  | [], _ :: _, _, _, h, _ => by simp at h
  | _ :: _, [], _, _, h, _ => by simp at h
  | c :: s, d :: t, hs, ht, hl, h => by
    have hl' : s.length = t.length := by simpa using hl
    have hs' : pb_lw s := ⟨by have := hs.1; simp at this; omega, fun x hx => hs.2 x (List.mem_cons_of_mem _ hx)⟩
    have ht' : pb_lw t := ⟨by have := ht.1; simp at this; omega, fun x hx => ht.2 x (List.mem_cons_of_mem _ hx)⟩
    have b1 := pv_n_lt (pb_lwA hs')
    have b2 := pv_n_lt (pb_lwA ht')
    rw [pv_n_cons, pv_n_cons, ← hl'] at h
    rw [← hl'] at b2
    have hc := hs.2 c List.mem_cons_self
    have hd := ht.2 d List.mem_cons_self
    have e1 : pv_d c = pv_d d := by
      apply Classical.byContradiction
      intro hne
      rcases Nat.lt_or_gt_of_ne hne with hlt | hlt
      · have : (pv_d c + 1) * 37 ^ s.length ≤ pv_d d * 37 ^ s.length := Nat.mul_le_mul_right _ hlt
        rw [Nat.add_mul] at this
        omega
      · have : (pv_d d + 1) * 37 ^ s.length ≤ pv_d c * 37 ^ s.length := Nat.mul_le_mul_right _ hlt
        rw [Nat.add_mul] at this
        omega
    have e2 : pv_n s = pv_n t := by
      rw [e1] at h
      omega
    have hA : ∀ x, ((48 ≤ x ∧ x ≤ 57) ∨ (97 ≤ x ∧ x ≤ 122)) → pv_c (pv_d x) = x := fun x hx => by
      have h1 : pb_isA x = true := by simp [pb_isA, pb_isL, pb_isD]; omega
      rw [pv_cd x (by omega) h1]
      unfold pt_low
      rw [if_neg (by omega)]
    have e3 : c = d := by rw [← hA c hc, ← hA d hd, e1]
    rw [e3, pv_inj0 s t hs' ht' hl' e2]
theorem pv_inj {s t : List Nat} (hs : pb_lw s) (ht : pb_lw t) : pv_n s = pv_n t ↔ s = t := by
  constructor
  · intro h
    refine pv_inj0 s t hs ht ?_ h
    apply Classical.byContradiction
    intro hne
    have key : ∀ s t : List Nat, pb_lw s → pb_lw t → s.length < t.length → pv_n s < pv_n t := fun s t hs ht hlt => by
      have h1 := pv_n_lt (pb_lwA hs)
      have h2 := pv_n_ge (pb_lwA ht) (fun z => by rw [z] at hlt; simp at hlt)
      have h3 : 37 ^ s.length ≤ 37 ^ (t.length - 1) := Nat.pow_le_pow_right (by decide) (by omega)
      omega
    rcases Nat.lt_or_gt_of_ne hne with hlt | hlt
    · have := key s t hs ht hlt
      omega
    · have := key t s ht hs hlt
      omega
  · rintro rfl
    rfl
theorem pv_n00 {s : List Nat} (hs : pb_lw s) : pv_n s = 0 ↔ s = [] := pv_inj (t := []) hs pb_lw0
/-- one replacement -/
def pa_st (al : List pa_E) (r : Bool) (s : List Nat) : List Nat := match al.find? (pa_m s r) with
  | some a => a.2.2
  | none => s
def pa_it (al : List pa_E) (r : Bool) : Nat → List Nat → List Nat
  | 0, s => s
  | n + 1, s => pa_it al r n (pa_st al r s)
theorem pa_it_fix {al : List pa_E} {r : Bool} {s : List Nat} (h : pa_st al r s = s) : ∀ n, pa_it al r n s = s
  | 0 => rfl
  | n + 1 => by rw [pa_it, h, pa_it_fix h n]
theorem pa_rep_it (al : List pa_E) (r : Bool) : ∀ (n : Nat) (s : List Nat), pa_rep al r n s = pa_it al r n s
  | 0, s => rfl
  | n + 1, s => by
    rw [pa_rep, pa_it]
    cases h : al.find? (pa_m s r) with
    | some a =>
      have : pa_st al r s = a.2.2 := by unfold pa_st; rw [h]
      rw [this]
      exact pa_rep_it al r n a.2.2
    | none =>
      have : pa_st al r s = s := by unfold pa_st; rw [h]
      rw [this, pa_it_fix this n]
theorem pa_it_add (al : List pa_E) (r : Bool) : ∀ (n m : Nat) (s : List Nat), pa_it al r (n + m) s = pa_it al r m (pa_it al r n s)
  | 0, m, s => by rw [Nat.zero_add]; rfl
  | n + 1, m, s => by rw [show n + 1 + m = (n + m) + 1 by omega, pa_it, pa_it, pa_it_add al r n m]
theorem pa_it_s (al : List pa_E) (r : Bool) (n : Nat) (s : List Nat) : pa_st al r (pa_it al r n s) = pa_it al r (n + 1) s := by
  rw [pa_it_add al r n 1]
  rfl
/-- no chain of aliases runs in a circle -/
def pa_ac (al : List pa_E) : Prop := ∀ r s, ∃ M, pa_st al r (pa_it al r M s) = pa_it al r M s
theorem pq_pig {α : Type} [DecidableEq α] : ∀ (n : Nat) (m : List α) (g : Nat → α), (∀ i, i < n → g i ∈ m) → (∀ i j, i < j → j < n → ¬ g i = g j) → n ≤ m.length := by
  intro n
  induction n with
  | zero => intro m g _ _; omega
  | succ n ih =>
    intro m g h1 h2
    have hn := h1 n (by omega)
    have := ih (m.erase (g n)) g (fun i hi => (List.mem_erase_of_ne (h2 i n hi (by omega))).mpr (h1 i (by omega))) (fun i j hij hj => h2 i j hij (by omega))
    rw [List.length_erase_of_mem hn] at this
    have hp : 0 < m.length := List.length_pos_of_mem hn
    omega
theorem pa_fix {al : List pa_E} (h : pa_ac al) (r : Bool) (s : List Nat) : pa_st al r (pa_it al r al.length s) = pa_it al r al.length s := by
  apply Classical.byContradiction
  intro hn
  have nf : ∀ i, i < al.length + 1 → ¬ pa_st al r (pa_it al r i s) = pa_it al r i s := by
    intro i hi hf
    apply hn
    have : pa_it al r al.length s = pa_it al r i s := by
      rw [show al.length = i + (al.length - i) by omega, pa_it_add, pa_it_fix hf]
    rw [this, hf]
  have h1 : ∀ i, i < al.length + 1 → pa_it al r i s ∈ al.map (·.2.1) := by
    intro i hi
    have := nf i hi
    unfold pa_st at this
    cases hf : al.find? (pa_m (pa_it al r i s) r) with
    | none => rw [hf] at this; exact absurd rfl this
    | some a =>
      have e := List.find?_some hf
      simp [pa_m] at e
      exact List.mem_map.mpr ⟨a, List.mem_of_find?_eq_some hf, e.1⟩
  have h2 : ∀ i j, i < j → j < al.length + 1 → ¬ pa_it al r i s = pa_it al r j s := by
    intro i j hij hj he
    obtain ⟨M, hM⟩ := h r s
    have per : ∀ k, pa_it al r (i + k * (j - i)) s = pa_it al r i s := by
      intro k
      induction k with
      | zero => rw [Nat.zero_mul, Nat.add_zero]
      | succ k ih =>
        rw [show i + (k + 1) * (j - i) = (i + k * (j - i)) + (j - i) by rw [Nat.add_mul]; omega, pa_it_add, ih, ← pa_it_add, show i + (j - i) = j by omega, he]
    have big : M ≤ i + M * (j - i) := by
      have : M * 1 ≤ M * (j - i) := Nat.mul_le_mul_left _ (by omega)
      omega
    have e1 : pa_it al r (i + M * (j - i)) s = pa_it al r M s := by
      obtain ⟨d, hd⟩ : ∃ d, i + M * (j - i) = M + d := ⟨i + M * (j - i) - M, by omega⟩
      rw [hd, pa_it_add, pa_it_fix hM]
    have e2 : pa_it al r i s = pa_it al r M s := by rw [← per M, e1]
    exact nf i (by omega) (by rw [e2, hM])
  have := pq_pig (al.length + 1) (al.map (·.2.1)) (fun i => pa_it al r i s) h1 h2
  rw [List.length_map] at this
  omega
/-- 9 rounds are as good as any -/
theorem pa_it9 {al : List pa_E} (h : pa_ac al) (h8 : al.length ≤ 8) (r : Bool) (s : List Nat) : pa_it al r 9 s = pa_it al r al.length s := by
  rw [show 9 = al.length + (9 - al.length) by omega, pa_it_add, pa_it_fix (pa_fix h r s)]
/-- each first part stands once -/
def pa_un (al : List pa_E) : Prop := al.Pairwise (fun a b => ¬ (a.1 = b.1 ∧ a.2.1 = b.2.1))
def pa_nm (a : pa_E) : pm_R := (a.1, pv_n a.2.1, pv_n a.2.2)
theorem pa_r1 {r : Bool} {s : List Nat} (hs : pb_lw s) : ∀ (al : List pa_E), pa_lw al → pa_un al → ∀ y, pm_r1 (al.map pa_nm) r (pv_n s) y = match al.find? (pa_m s r) with
    | some a => pv_n a.2.2
    | none => y := by
  intro al
  induction al with
  | nil => intro _ _ y; rfl
  | cons a al ih =>
    intro hl hu y
    have hl' : pa_lw al := fun x hx => hl x (List.mem_cons_of_mem _ hx)
    have hu' : pa_un al := (List.pairwise_cons.mp hu).2
    have ha := hl a List.mem_cons_self
    have I := ih hl' hu'
    unfold pm_r1 at I ⊢
    rw [List.map_cons, List.foldl_cons, I, List.find?_cons]
    by_cases hm : pa_m s r a = true
    · have hm2 : a.2.1 = s ∧ a.1 = r := by simpa [pa_m] using hm
      have hno : al.find? (pa_m s r) = none := by
        rw [List.find?_eq_none]
        intro x hx hxm
        have hx2 : x.2.1 = s ∧ x.1 = r := by simpa [pa_m] using hxm
        exact (List.pairwise_cons.mp hu).1 x hx ⟨by rw [hm2.2, hx2.2], by rw [hm2.1, hx2.1]⟩
      rw [hno, hm]
      show (if (pa_nm a).1 = r ∧ (pa_nm a).2.1 = pv_n s then (pa_nm a).2.2 else y) = pv_n a.2.2
      rw [if_pos ⟨hm2.2, by show pv_n a.2.1 = pv_n s; rw [hm2.1]⟩]
      rfl
    · have hm' : pa_m s r a = false := by simpa using hm
      rw [hm']
      have : ¬ ((pa_nm a).1 = r ∧ (pa_nm a).2.1 = pv_n s) := by
        rintro ⟨h1, h2⟩
        have h2' : pv_n a.2.1 = pv_n s := h2
        rw [pv_inj ha.1 hs] at h2'
        exact hm (by simp [pa_m, h2', show a.1 = r from h1])
      rw [if_neg this]
theorem pa_st_lw {al : List pa_E} (h : pa_lw al) (r : Bool) {s : List Nat} (hs : pb_lw s) : pb_lw (pa_st al r s) := by
  unfold pa_st
  cases hf : al.find? (pa_m s r) with
  | none => exact hs
  | some a => exact (h a (List.mem_of_find?_eq_some hf)).2
theorem pa_rn {al : List pa_E} (hl : pa_lw al) (hu : pa_un al) (r : Bool) : ∀ (n : Nat) (s : List Nat), pb_lw s → pm_rn (al.map pa_nm) r n (pv_n s) = pv_n (pa_it al r n s)
  | 0, s, _ => rfl
  | n + 1, s, hs => by
    have e : pm_r1 (al.map pa_nm) r (pv_n s) (pv_n s) = pv_n (pa_st al r s) := by
      rw [pa_r1 hs al hl hu]
      unfold pa_st
      cases al.find? (pa_m s r) <;> rfl
    rw [pm_rn, pa_it, e, pa_rn hl hu r n _ (pa_st_lw hl r hs)]
/-- what the model replaces is what the class replaces -/
theorem pa_repl9 {al : List pa_E} (hl : pa_lw al) (hu : pa_un al) (hc : pa_ac al) (h8 : al.length ≤ 8) (r : Bool) {s : List Nat} (hs : pb_lw s) : pm_rn (al.map pa_nm) r 9 (pv_n s) = pv_n (pa_rep al r al.length s) := by
  rw [pa_rn hl hu r 9 s hs, pa_it9 hc h8, pa_rep_it]
theorem pa_it_lw {al : List pa_E} (h : pa_lw al) (r : Bool) : ∀ (n : Nat) {s : List Nat}, pb_lw s → pb_lw (pa_it al r n s)
  | 0, _, hs => hs
  | n + 1, _, hs => pa_it_lw h r n (pa_st_lw h r hs)
/-- a first part is what is replaced -/
theorem pa_first {al : List pa_E} (hl : pa_lw al) (hne : ∀ a ∈ al, ¬ a.2.1 = a.2.2) (hc : pa_ac al) (r : Bool) (s : List Nat) : ¬ pa_rep al r al.length s = s ↔ (al.findIdx? (pa_m s r)).isSome = true := by
  rw [pa_rep_it]
  have hfi : (al.findIdx? (pa_m s r)).isSome = (al.find? (pa_m s r)).isSome := by
    rw [pa_find (false, [], [])]
    cases al.findIdx? (pa_m s r) <;> rfl
  rw [hfi]
  constructor
  · intro h
    cases hf : al.find? (pa_m s r) with
    | some a => rfl
    | none =>
      refine absurd (pa_it_fix ?_ _) h
      unfold pa_st
      rw [hf]
  · intro h he
    have hx := pa_fix hc r s
    rw [he] at hx
    cases hf : al.find? (pa_m s r) with
    | none => rw [hf] at h; cases h
    | some a =>
      unfold pa_st at hx
      rw [hf] at hx
      have e := List.find?_some hf
      simp [pa_m] at e
      exact hne a (List.mem_of_find?_eq_some hf) (by rw [e.1]; exact hx.symm)
/-- a further alias -/
theorem pa_st_app {al : List pa_E} {r : Bool} {a b : List Nat} (hno : al.find? (pa_m a r) = none) (r' : Bool) (s : List Nat) : pa_st (al ++ [(r, a, b)]) r' s = if r' = r ∧ s = a then b else pa_st al r' s := by
  unfold pa_st
  rw [List.find?_append]
  by_cases h : r' = r ∧ s = a
  · obtain ⟨rfl, rfl⟩ := h
    rw [if_pos ⟨rfl, rfl⟩, hno]
    simp [pa_m]
  · rw [if_neg h]
    cases hf : al.find? (pa_m s r') with
    | some x => rfl
    | none =>
      have : pa_m s r' (r, a, b) = false := by
        simp only [pa_m]
        rw [Bool.and_eq_false_iff]
        by_cases h1 : a = s
        · right
          simp only [decide_eq_false_iff_not]
          intro h2
          exact h ⟨h2.symm, h1.symm⟩
        · left
          simpa using h1
      simp [this]
theorem pa_it_app {al : List pa_E} {r : Bool} {a b : List Nat} (hno : al.find? (pa_m a r) = none) {r' : Bool} : ∀ (n : Nat) (s : List Nat), (∀ k, k < n → ¬ (r' = r ∧ pa_it al r' k s = a)) → pa_it (al ++ [(r, a, b)]) r' n s = pa_it al r' n s := by
  intro n
  induction n with
  | zero => intro s _; rfl
  | succ n ih =>
    intro s h
    rw [pa_it, pa_it, pa_st_app hno, if_neg (show ¬ (r' = r ∧ s = a) from h 0 (by omega)), ih]
    intro k hk
    exact h (k + 1) (by omega)
theorem pa_ac_app {al : List pa_E} (hc : pa_ac al) {r : Bool} {a b : List Nat} (hno : al.find? (pa_m a r) = none) (hb : ¬ pa_rep al r al.length b = a) : pa_ac (al ++ [(r, a, b)]) := by
  rw [pa_rep_it] at hb
  have sta : pa_st al r a = a := by unfold pa_st; rw [hno]
  have nob : ∀ k, ¬ pa_it al r k b = a := by
    intro k hk
    apply hb
    have f := pa_fix hc r b
    have e1 : pa_it al r (k + al.length) b = a := by rw [pa_it_add, hk, pa_it_fix sta]
    have e2 : pa_it al r (al.length + k) b = pa_it al r al.length b := by rw [pa_it_add, pa_it_fix f]
    rw [← e2, Nat.add_comm, e1]
  intro r' s
  by_cases hr : r' = r
  · subst hr
    have ebn : ∀ n, pa_it (al ++ [(r', a, b)]) r' n b = pa_it al r' n b := fun n => pa_it_app hno n b (fun k _ z => nob k z.2)
    have fixb : pa_st (al ++ [(r', a, b)]) r' (pa_it al r' al.length b) = pa_it al r' al.length b := by
      rw [pa_st_app hno, if_neg (fun z => hb z.2), pa_fix hc r' b]
    by_cases hex : ∃ k, pa_it al r' k s = a
    · -- the least such k
      have least : ∀ k, pa_it al r' k s = a → ∃ j, pa_it al r' j s = a ∧ ∀ i, i < j → ¬ pa_it al r' i s = a := by
        intro k
        induction k using Nat.strongRecOn with
        | _ k ih =>
          intro hk
          by_cases h : ∃ i, i < k ∧ pa_it al r' i s = a
          · obtain ⟨i, hi, hia⟩ := h
            exact ih i hi hia
          · exact ⟨k, hk, fun i hi hia => h ⟨i, hi, hia⟩⟩
      obtain ⟨k, hk⟩ := hex
      obtain ⟨j, hj, hmin⟩ := least k hk
      refine ⟨j + (1 + al.length), ?_⟩
      have e1 : pa_it (al ++ [(r', a, b)]) r' (j + (1 + al.length)) s = pa_it al r' al.length b := by
        rw [pa_it_add, pa_it_app hno j s (fun i hi z => hmin i hi z.2), hj, Nat.add_comm 1, pa_it, pa_st_app hno, if_pos ⟨rfl, rfl⟩, ebn]
      rw [e1, fixb]
    · refine ⟨al.length, ?_⟩
      have e1 : pa_it (al ++ [(r', a, b)]) r' al.length s = pa_it al r' al.length s := pa_it_app hno _ s (fun i hi z => hex ⟨i, z.2⟩)
      rw [e1, pa_st_app hno, if_neg (fun z => hex ⟨_, z.2⟩), pa_fix hc r' s]
  · refine ⟨al.length, ?_⟩
    have e1 : pa_it (al ++ [(r, a, b)]) r' al.length s = pa_it al r' al.length s := pa_it_app hno _ s (fun i hi z => hr z.1)
    rw [e1, pa_st_app hno, if_neg (fun z => hr z.1), pa_fix hc r' s]
