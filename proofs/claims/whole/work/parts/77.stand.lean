/-! the model: one step of cutting -/
abbrev pm_A : Type := (Nat × Nat × Nat) × List (Nat × Nat) × List (Nat × Nat) × Option Nat × Option Nat
def pm_o (o : Option Nat) : Int32 := match o with
  | some p => nI p
  | none => -1
def pm_ps (σ : pu_S) (ty : List Nat) (A : pm_A) : Prop := (σ.1 248 2 = nI A.1.1 ∧ σ.1 248 3 = nI A.1.2.1 ∧ σ.1 248 4 = nI A.1.2.2) ∧ pm_pl σ ty 5 250 251 A.2.1 ∧ pm_pl σ ty 8 252 253 A.2.2.1 ∧ σ.1 248 11 = pm_o A.2.2.2.1 ∧ ∀ p, A.2.2.2.2 = some p → σ.1 248 12 = nI p
def pm_st (ty : List Nat) (A : pm_A) (st a b : Nat) : Option (Nat × pm_A) :=
  if st = 0 then (if pb_lang (pt_cut (pm_seg ty a b)) = true then some (1, ((pv_n (pm_seg ty a b), A.1.2), A.2)) else none)
  else if 5 < st then (if ¬ pt_cut (pm_seg ty a b) = [] then some (7, (A.1, A.2.1, A.2.2.1, A.2.2.2.1, some b)) else none)
  else if st = 1 ∧ pb_script (pt_cut (pm_seg ty a b)) = true then some (2, ((A.1.1, pv_n (pm_seg ty a b), A.1.2.2), A.2))
  else if st ≤ 2 ∧ pb_region (pt_cut (pm_seg ty a b)) = true then some (3, ((A.1.1, A.1.2.1, pv_n (pm_seg ty a b)), A.2))
  else if ¬ st = 4 ∧ pt_cut (pm_seg ty a b) = [120] then some (6, (A.1, A.2.1, A.2.2.1, some a, A.2.2.2.2))
  else if st < 4 then (if pt_cut (pm_seg ty a b) = [117] then some (4, A) else if pb_variant (pt_cut (pm_seg ty a b)) = true ∧ A.2.1.all (fun v => !pm_sm ty a b v) = true then some (3, (A.1, A.2.1 ++ [(a, b)], A.2.2)) else none)
  else if st = 5 ∧ pb_type (pt_cut (pm_seg ty a b)) = true then some (5, (A.1, A.2.1, pm_ext A.2.2.1 b, A.2.2.2))
  else if pb_key (pt_cut (pm_seg ty a b)) = true ∧ A.2.2.1.all (fun v => !pm_km ty a b v) = true then some (5, (A.1, A.2.1, A.2.2.1 ++ [(a, b)], A.2.2.2)) else none
theorem pv_d_b {c : Nat} (h : pb_isA c = true) : 1 ≤ pv_d c ∧ pv_d c ≤ 36 := by
  unfold pv_d
  by_cases hL : pb_isL c = true
  · rw [if_pos hL]
    have := pm_isL' c
    rw [hL] at this
    have := of_decide_eq_true this.symm
    omega
  · rw [if_neg hL]
    unfold pb_isA at h
    simp only [Bool.or_eq_true] at h
    have := h.resolve_left hL
    simp [pb_isD] at this
    omega
theorem pv_fold : ∀ (s : List Nat) (n k : Nat), s.all pb_isA = true → n < 37 ^ k → s.foldl (fun n c => 37 * n + pv_d c) n < 37 ^ (k + s.length) ∧ n ≤ s.foldl (fun n c => 37 * n + pv_d c) n ∧ (¬ s = [] → 1 ≤ s.foldl (fun n c => 37 * n + pv_d c) n)
  | [], n, k, _, h => ⟨h, Nat.le_refl _, fun q => absurd rfl q⟩
  | c :: s, n, k, hA, h => by
    rw [List.all_cons, Bool.and_eq_true] at hA
    have hd := pv_d_b hA.1
    have h2 : 37 * n + pv_d c < 37 ^ (k + 1) := by
      rw [Nat.pow_succ]
      omega
    obtain ⟨i1, i2, i3⟩ := pv_fold s (37 * n + pv_d c) (k + 1) hA.2 h2
    rw [List.foldl_cons, List.length_cons]
    refine ⟨?_, by omega, fun _ => by omega⟩
    rw [show k + (s.length + 1) = k + 1 + s.length by omega]
    exact i1
theorem pv_n_b {s : List Nat} (hA : s.all pb_isA = true) (h1 : ¬ s = []) (h2 : s.length ≤ 4) : 1 ≤ pv_n s ∧ pv_n s < 1874161 := by
  obtain ⟨a, b, c⟩ := pv_fold s 0 0 hA (by decide)
  refine ⟨c h1, Nat.lt_of_lt_of_le a ?_⟩
  rw [Nat.zero_add]
  exact Nat.le_trans (Nat.pow_le_pow_right (by decide) h2) (by decide)
def pm_T (k : Nat) : Prop := (2 ≤ k ∧ k ≤ 5) ∨ k = 8 ∨ k = 11 ∨ k = 12
def pm_S (x : Nat) : Prop := 250 ≤ x ∧ x ≤ 253
section MSA
variable {F : Nat} {σ : pu_S} {ty : List Nat} {A : pm_A}
theorem pm_lang_A {s : List Nat} (hs : ∀ c ∈ s, c < 128) (h : pb_lang (pt_cut s) = true) : s.all pb_isA = true ∧ ¬ s = [] ∧ s.length ≤ 4 := by
  rw [pm_lang_eq hs] at h
  have := of_decide_eq_true h
  refine ⟨pm_LA this.2, fun q => ?_, by omega⟩
  rw [q] at this
  simp at this
theorem pm_script_A {s : List Nat} (hs : ∀ c ∈ s, c < 128) (h : pb_script (pt_cut s) = true) : s.all pb_isA = true := by
  rw [pm_script_eq hs] at h
  exact pm_LA (of_decide_eq_true h).2
theorem pm_region_A {s : List Nat} (hs : ∀ c ∈ s, c < 128) (h : pb_region (pt_cut s) = true) : s.all pb_isA = true := by
  rw [pm_region_eq hs] at h
  rcases of_decide_eq_true h with h | h
  · exact pm_LA h.2
  · exact pm_DA h.2
/-- what a step of cutting must give -/
def pm_go (F : Nat) (σ : pu_S) (ty : List Nat) (x : Option (Int32 × im_W)) (o : Option (Nat × pm_A)) : Prop := ∃ τ, x = some (pm_o (o.map (·.1)), pu_mk τ) ∧ pm_fr pm_S pm_T σ τ ∧ ∀ s A', o = some (s, A') → pm_ps τ ty A'
theorem pm_stand_171 (hp : pm_ty σ ty) (hF : 62 ≤ F) (hA : pm_ps σ ty A) {st : Nat} (hst : st < 8) (h1 : A.2.1.length < 32) (h2 : A.2.2.1.length < 32) (hk2 : ∀ k ∈ A.2.2.1, k.1 + 2 ≤ k.2) (h5 : st = 5 → 1 ≤ A.2.2.1.length) {a b : Nat} (hab : a ≤ b) (hb : b ≤ ty.length) (hlast : ∀ k ∈ A.2.2.1, k.1 ≤ b) : pm_go F σ ty (sh_Model_stand_171 F 248 (nI st) (nI a) (nI b) (pu_mk σ)) (if st < 4 then (if pt_cut (pm_seg ty a b) = [117] then some (4, A) else if pb_variant (pt_cut (pm_seg ty a b)) = true ∧ A.2.1.all (fun v => !pm_sm ty a b v) = true then some (3, (A.1, A.2.1 ++ [(a, b)], A.2.2)) else none)
  else if st = 5 ∧ pb_type (pt_cut (pm_seg ty a b)) = true then some (5, (A.1, A.2.1, pm_ext A.2.2.1 b, A.2.2.2))
  else if pb_key (pt_cut (pm_seg ty a b)) = true ∧ A.2.2.1.all (fun v => !pm_km ty a b v) = true then some (5, (A.1, A.2.1, A.2.2.1 ++ [(a, b)], A.2.2.2)) else none) := by
  obtain ⟨q1, q2, q3, q4, q5⟩ := hA
  have c4 : (4 : Int32) ≤ nI st ↔ 4 ≤ st := nI_leI (a := 4) (by decide) (by omega)
  unfold sh_Model_stand_171 sh_Model_stand_192
  by_cases h4 : st < 4
  · obtain ⟨τ, e, c⟩ := pm_standVariant (F := F) hp hF q2 h1 hab hb
    rw [if_pos h4, if_neg (fun q => by have := c4.mp q; omega), pm_i, Option.bind_some, e, im_b2_s]
    by_cases d1 : pt_cut (pm_seg ty a b) = [117]
    · rw [if_neg (fun q => q.1 d1)] at c
      subst c
      rw [if_pos d1, if_pos d1]
      exact ⟨_, rfl, pm_fr.rf, fun s A' h => by cases h; exact ⟨q1, q2, q3, q4, q5⟩⟩
    · by_cases d2 : pb_variant (pt_cut (pm_seg ty a b)) = true ∧ A.2.1.all (fun v => !pm_sm ty a b v) = true
      · rw [if_pos ⟨d1, d2⟩] at c
        obtain ⟨c1, c2⟩ := c
        rw [if_neg d1, if_pos d2, if_neg d1, if_pos d2]
        have f2 := c2.2
        refine ⟨_, rfl, c2.mono (fun x hx => by unfold pm_S; omega) (fun x hx => by unfold pm_T; omega), fun s A' h => ?_⟩
        cases h
        exact ⟨⟨(f2 2 (by decide)).trans q1.1, (f2 3 (by decide)).trans q1.2.1, (f2 4 (by decide)).trans q1.2.2⟩, c1, q3.fr c2 (by decide) (by omega) (by omega), (f2 11 (by decide)).trans q4, fun p hp => (f2 12 (by decide)).trans (q5 p hp)⟩
      · rw [if_neg (fun q => d2 q.2)] at c
        subst c
        rw [if_neg d1, if_neg d2, if_neg d1, if_neg d2]
        exact ⟨_, rfl, pm_fr.rf, fun s A' h => by cases h⟩
  · obtain ⟨τ, e, c2, c1⟩ := pm_standKeyword (F := F) hp hF q3 hk2 h2 (st := st) (by omega) h5 hab hb hlast
    have f2 := c2.2
    have m2 := c2.mono (S' := pm_S) (T' := pm_T) (fun x hx => by unfold pm_S; omega) (fun x hx => by unfold pm_T; omega)
    rw [if_neg h4, if_pos (c4.mpr (by omega)), pm_i, Option.bind_some, e, im_b2_s]
    by_cases d1 : st = 5 ∧ pb_type (pt_cut (pm_seg ty a b)) = true
    · rw [if_pos d1] at c1
      rw [if_pos (Or.inl d1), if_pos d1]
      refine ⟨_, rfl, m2, fun s A' h => ?_⟩
      cases h
      exact ⟨⟨(f2 2 (by decide)).trans q1.1, (f2 3 (by decide)).trans q1.2.1, (f2 4 (by decide)).trans q1.2.2⟩, q2.fr c2 (by decide) (by omega) (by omega), c1, (f2 11 (by decide)).trans q4, fun p hp => (f2 12 (by decide)).trans (q5 p hp)⟩
    · rw [if_neg d1] at c1
      by_cases d2 : pb_key (pt_cut (pm_seg ty a b)) = true ∧ A.2.2.1.all (fun v => !pm_km ty a b v) = true
      · rw [if_pos d2] at c1
        rw [if_pos (Or.inr d2), if_neg d1, if_pos d2]
        refine ⟨_, rfl, m2, fun s A' h => ?_⟩
        cases h
        exact ⟨⟨(f2 2 (by decide)).trans q1.1, (f2 3 (by decide)).trans q1.2.1, (f2 4 (by decide)).trans q1.2.2⟩, q2.fr c2 (by decide) (by omega) (by omega), c1, (f2 11 (by decide)).trans q4, fun p hp => (f2 12 (by decide)).trans (q5 p hp)⟩
      · rw [if_neg (fun q => by rcases q with q | q <;> contradiction), if_neg d1, if_neg d2]
        exact ⟨_, rfl, m2, fun s A' h => by cases h⟩
end MSA
