/-! pairs, and what they make likely -/
abbrev pp_E : Type := pc_C × pc_C
def pp_0 : pp_E := (([], [], []), ([], [], []))
def pp_sk (p : Nat) : Prop := pu_sk p = some (.inr (4, [p + 1 + 2, p + 2 + 2, 0])) ∧ pu_sk (p + 1) = some (.inl (5, 10)) ∧ pu_sk (p + 2) = some (.inl (5, 10)) ∧ ∀ j, j < 10 → (pu_ref (p + 1) j = some (p + 3 + 6 * j) ∧ pu_ref (p + 2) j = some (p + 6 + 6 * j)) ∧ pf_sk (p + 3 + 6 * j) 3 ∧ pf_sk (p + 6 + 6 * j) 3
theorem pp_sk12 : pp_sk 12 := by
  have r1 : ∀ j, j < 10 → pu_ref (12 + 1) j = some (12 + 3 + 6 * j) := by decide +kernel
  have r2 : ∀ j, j < 10 → pu_ref (12 + 2) j = some (12 + 6 + 6 * j) := by decide +kernel
  have a1 : ∀ j, j < 10 → pu_sk (12 + 3 + 6 * j) = some (.inr (2, [12 + 3 + 6 * j + 1 + 2, 12 + 3 + 6 * j + 2 + 2, 0])) := by decide +kernel
  have a2 : ∀ j, j < 10 → pu_sk (12 + 3 + 6 * j + 1) = some (.inr (1, [1, 1, 1])) := by decide +kernel
  have a3 : ∀ j, j < 10 → pu_sk (12 + 3 + 6 * j + 2) = some (.inl (1, 3)) := by decide +kernel
  have b1 : ∀ j, j < 10 → pu_sk (12 + 6 + 6 * j) = some (.inr (2, [12 + 6 + 6 * j + 1 + 2, 12 + 6 + 6 * j + 2 + 2, 0])) := by decide +kernel
  have b2 : ∀ j, j < 10 → pu_sk (12 + 6 + 6 * j + 1) = some (.inr (1, [1, 1, 1])) := by decide +kernel
  have b3 : ∀ j, j < 10 → pu_sk (12 + 6 + 6 * j + 2) = some (.inl (1, 3)) := by decide +kernel
  exact ⟨by decide +kernel, by decide +kernel, by decide +kernel, fun j hj => ⟨⟨r1 j hj, r2 j hj⟩, ⟨a1 j hj, a2 j hj, a3 j hj, by decide⟩, b1 j hj, b2 j hj, b3 j hj, by decide⟩⟩
theorem pp_sk75 : pp_sk 75 := by
  have r1 : ∀ j, j < 10 → pu_ref (75 + 1) j = some (75 + 3 + 6 * j) := by decide +kernel
  have r2 : ∀ j, j < 10 → pu_ref (75 + 2) j = some (75 + 6 + 6 * j) := by decide +kernel
  have a1 : ∀ j, j < 10 → pu_sk (75 + 3 + 6 * j) = some (.inr (2, [75 + 3 + 6 * j + 1 + 2, 75 + 3 + 6 * j + 2 + 2, 0])) := by decide +kernel
  have a2 : ∀ j, j < 10 → pu_sk (75 + 3 + 6 * j + 1) = some (.inr (1, [1, 1, 1])) := by decide +kernel
  have a3 : ∀ j, j < 10 → pu_sk (75 + 3 + 6 * j + 2) = some (.inl (1, 3)) := by decide +kernel
  have b1 : ∀ j, j < 10 → pu_sk (75 + 6 + 6 * j) = some (.inr (2, [75 + 6 + 6 * j + 1 + 2, 75 + 6 + 6 * j + 2 + 2, 0])) := by decide +kernel
  have b2 : ∀ j, j < 10 → pu_sk (75 + 6 + 6 * j + 1) = some (.inr (1, [1, 1, 1])) := by decide +kernel
  have b3 : ∀ j, j < 10 → pu_sk (75 + 6 + 6 * j + 2) = some (.inl (1, 3)) := by decide +kernel
  exact ⟨by decide +kernel, by decide +kernel, by decide +kernel, fun j hj => ⟨⟨r1 j hj, r2 j hj⟩, ⟨a1 j hj, a2 j hj, a3 j hj, by decide⟩, b1 j hj, b2 j hj, b3 j hj, by decide⟩⟩
def pp_is (σ : pu_S) (p : Nat) (l : List pp_E) : Prop := σ.1 p 2 = nI l.length ∧ l.length ≤ 10 ∧ ∀ i, i < l.length → (pf_is σ (p + 3 + 6 * i) 3 (pc_list (l.getD i pp_0).1) ∧ pc_is σ (p + 3 + 6 * i + 1) (l.getD i pp_0).1) ∧ pf_is σ (p + 6 + 6 * i) 3 (pc_list (l.getD i pp_0).2) ∧ pc_is σ (p + 6 + 6 * i + 1) (l.getD i pp_0).2
theorem pp_is.fr {S : Nat → Prop} {σ τ : pu_S} {p : Nat} {l : List pp_E} (hp : pp_is σ p l) (hf : pu_fr S σ τ) (h : ∀ x, p ≤ x → x < p + 63 → ¬ S x) : pp_is τ p l := by
  refine ⟨(hf p (h p (by omega) (by omega)) 2).1.trans hp.1, hp.2.1, fun i hi => ?_⟩
  have h10 := hp.2.1
  obtain ⟨⟨a, b⟩, c, d⟩ := hp.2.2 i hi
  exact ⟨⟨a.fr hf (h _ (by omega) (by omega)) (h _ (by omega) (by omega)), b.fr hf (h _ (by omega) (by omega))⟩, c.fr hf (h _ (by omega) (by omega)) (h _ (by omega) (by omega)), d.fr hf (h _ (by omega) (by omega))⟩
section PRS
variable {F p : Nat} {σ : pu_S} {l : List pp_E} {k : pc_C}
theorem pp_g0 (hs : pp_sk p) (σ : pu_S) : im_gR (pu_mk σ) 4 p 0 = some (p + 1) := pu_gR hs.1 rfl σ
theorem pp_g1 (hs : pp_sk p) (σ : pu_S) : im_gR (pu_mk σ) 4 p 1 = some (p + 2) := pu_gR hs.1 rfl σ
theorem pp_g2 (hs : pp_sk p) (σ : pu_S) : im_gI (pu_mk σ) 4 p 2 = some (σ.1 p 2) := pu_gI hs.1 rfl σ
theorem pp_p2 (hs : pp_sk p) (σ : pu_S) (v : Int32) : im_pV (pu_mk σ) 4 p 2 (.int v) = some (pu_mk (pu_sI σ p 2 v)) := pu_pI hs.1 rfl σ v
theorem pp_a (hs : pp_sk p) (σ : pu_S) {j : Nat} (hj : j < 10) : im_lR (pu_mk σ) 5 (p + 1) (nI j) = some (p + 3 + 6 * j) := by
  rw [pu_lRn hs.2.1 (by decide) σ hj (by decide), ((hs.2.2.2 j hj).1).1]
theorem pp_b (hs : pp_sk p) (σ : pu_S) {j : Nat} (hj : j < 10) : im_lR (pu_mk σ) 5 (p + 2) (nI j) = some (p + 6 + 6 * j) := by
  rw [pu_lRn hs.2.2.1 (by decide) σ hj (by decide), ((hs.2.2.2 j hj).1).2]
theorem pp_count (hs : pp_sk p) (hp : pp_is σ p l) : sh_Pairs_count F p (pu_mk σ) = some (nI l.length, pu_mk σ) := by
  simp only [sh_Pairs_count, pp_g2 hs, hp.1, Option.bind_some]
theorem pp_isFull (hs : pp_sk p) (hp : pp_is σ p l) : sh_Pairs_isFull F p (pu_mk σ) = some (pb_b (decide (10 ≤ l.length)), pu_mk σ) := by
  have hl := hp.2.1
  have h2 : nI l.length < (10 : Int32) ↔ l.length < 10 := nI_ltI (b := 10) (by omega) (by decide)
  simp only [sh_Pairs_isFull, sh_Pairs_isFull_14, pp_g2 hs, hp.1, Option.bind_some, h2, pb_rz0, pb_rz1]
  by_cases h : l.length < 10
  · have : ¬ 10 ≤ l.length := by omega
    simp [h, this, pb_b]
  · have : 10 ≤ l.length := by omega
    simp [h, this, pb_b]
theorem pc_list_len (k : pc_C) : 1 ≤ (pc_list k).length ∧ (pc_list k).length ≤ 3 := by
  unfold pc_list
  split <;> split <;> simp
theorem pp_append (hF : 5 ≤ F) (hs : pp_sk p) (hp : pp_is σ p l) (hl : l.length < 10) {f g n m : Nat} (hf : pf_sk f n) (hg : pf_sk g m) (hfd : p + 63 ≤ f) (hgd : p + 63 ≤ g) {e : pp_E} (h1 : pf_is σ f n (pc_list e.1)) (h2 : pc_is σ (f + 1) e.1) (h3 : pf_is σ g m (pc_list e.2)) (h4 : pc_is σ (g + 1) e.2) : ∃ τ, sh_Pairs_append F p f g (pu_mk σ) = some (pu_mk τ) ∧ pp_is τ p (l ++ [e]) ∧ pu_fr (fun x => p ≤ x ∧ x < p + 63) σ τ := by
  have hfull : decide (10 ≤ l.length) = false := by simp; omega
  obtain ⟨-, s1, s2⟩ := hs.2.2.2 l.length hl
  have n1 := pc_list_len e.1
  have n2 := pc_list_len e.2
  obtain ⟨σ1, e1, a1, b1, f1⟩ := pf_copyFrom (F := F) (f := p + 3 + 6 * l.length) (n := 3) s1 hf (by omega) h1 h2 (by omega) (by omega)
  obtain ⟨σ2, e2, a2, b2, f2⟩ := pf_copyFrom (F := F) (f := p + 6 + 6 * l.length) (n := 3) s2 hg (by omega) (h3.fr f1 (by omega) (by omega)) (h4.fr f1 (by omega)) (by omega) (by omega)
  have q1 : σ1.1 p 2 = nI l.length := (f1 p (by omega) 2).1.trans hp.1
  have q2 : σ2.1 p 2 = nI l.length := (f2 p (by omega) 2).1.trans q1
  have fr : pu_fr (fun x => p ≤ x ∧ x < p + 63) σ (pu_sI σ2 p 2 (nI (l.length + 1))) := ((f1.mono (T := fun x => p ≤ x ∧ x < p + 63) (fun x hx => by omega)).tr (f2.mono (fun x hx => by omega))).tr (pu_fr.sI (by omega))
  refine ⟨pu_sI σ2 p 2 (nI (l.length + 1)), ?_, ⟨?_, ?_, fun i hi => ?_⟩, fr⟩
  · simp only [sh_Pairs_append, sh_Pairs_append_43, pu_is hs.1, pp_isFull hs hp, hfull, im_b2, Option.bind_some, pb_b, Bool.false_eq_true, if_false, if_true, pp_g0 hs, pp_g1 hs, pp_g2 hs, hp.1, pp_a hs _ hl, pp_b hs _ hl, pu_is s1.1, pu_is s2.1, e1, q1, e2, q2, pp_p2 hs, nI_1]
  · simp [pu_sI]
  · simp
    omega
  · have hi : i < l.length + 1 := by simpa using hi
    have k3 : pu_fr (fun x => x = p) σ2 (pu_sI σ2 p 2 (nI (l.length + 1))) := pu_fr.sI rfl
    by_cases hil : i = l.length
    · subst hil
      have e5 : (l ++ [e]).getD l.length pp_0 = e := by simp
      rw [e5]
      exact ⟨⟨(a1.fr f2 (by omega) (by omega)).fr k3 (by omega) (by omega), (b1.fr f2 (by omega)).fr k3 (by omega)⟩, a2.fr k3 (by omega) (by omega), b2.fr k3 (by omega)⟩
    · have h6 : i < l.length := by omega
      have e5 : (l ++ [e]).getD i pp_0 = l.getD i pp_0 := by
        rw [List.getD_eq_getElem?_getD, List.getElem?_append_left h6, ← List.getD_eq_getElem?_getD]
      rw [e5]
      obtain ⟨⟨x1, x2⟩, x3, x4⟩ := hp.2.2 i h6
      exact ⟨⟨((x1.fr f1 (by omega) (by omega)).fr f2 (by omega) (by omega)).fr k3 (by omega) (by omega), ((x2.fr f1 (by omega)).fr f2 (by omega)).fr k3 (by omega)⟩, ((x3.fr f1 (by omega) (by omega)).fr f2 (by omega) (by omega)).fr k3 (by omega) (by omega), ((x4.fr f1 (by omega)).fr f2 (by omega)).fr k3 (by omega)⟩
theorem pp_formBehind_2 (hF : 5 ≤ F) (hs : pp_sk p) (hp : pp_is σ p l) {g m c : Nat} (hg : pf_sk g m) {qs : List (List Nat)} (hq : pf_is σ g m qs) (hc : c ≤ qs.length) : ∀ (f i : Nat), l.length + 1 ≤ f + i → i ≤ l.length → sh_Pairs_formBehind_2 F f p g (nI c) (nI i) (pu_mk σ) = some (((l.drop i).findIdx? (fun e => decide (pc_list e.1 = qs.take c))).map (fun j => p + 6 + 6 * (i + j)), pu_mk σ) := by
  have hl := hp.2.1
  intro f
  induction f with
  | zero => intro i h1 h2; omega
  | succ f ih =>
    intro i h1 h2
    unfold sh_Pairs_formBehind_2
    have h6 : nI l.length ≤ nI i ↔ l.length ≤ i := nI_leI (by omega) (by omega)
    simp only [pp_g2 hs, hp.1, Option.bind_some, h6]
    by_cases h3 : l.length ≤ i
    · simp [h3, List.drop_eq_nil_of_le h3]
    · have hi : i < l.length := by omega
      obtain ⟨-, s1, s2⟩ := hs.2.2.2 i (by omega)
      obtain ⟨⟨x1, x2⟩, x3, x4⟩ := hp.2.2 i hi
      have n1 := pc_list_len (l.getD i pp_0).1
      simp only [h3, if_false, pp_g0 hs, pp_g1 hs, Option.bind_some, pp_a hs σ (show i < 10 by omega), pp_b hs σ (show i < 10 by omega), pu_is s1.1, pf_isStartOf s1 hg x1 hq hc (show (pc_list (l.getD i pp_0).1).length + 1 ≤ F by omega), im_b2, pb_b0, nI_1]
      rw [pb_dropG pp_0 hi, List.findIdx?_cons]
      by_cases h7 : pc_list (l.getD i pp_0).1 = qs.take c
      · simp only [h7, decide_true, Bool.true_eq_false, if_false, if_true, Option.map_some]
        rfl
      · simp only [h7, decide_false, Bool.false_eq_true, if_false, if_true]
        rw [ih (i + 1) (by omega) (by omega)]
        cases (l.drop (i + 1)).findIdx? (fun e => decide (pc_list e.1 = qs.take c)) with
        | none => rfl
        | some j =>
          simp only [Option.map_some]
          congr 3
          omega
theorem pp_formBehind (hF : 11 ≤ F) (hs : pp_sk p) (hp : pp_is σ p l) {g m c : Nat} (hg : pf_sk g m) {qs : List (List Nat)} (hq : pf_is σ g m qs) (hc : c ≤ qs.length) : sh_Pairs_formBehind F p g (nI c) (pu_mk σ) = some ((l.findIdx? (fun e => decide (pc_list e.1 = qs.take c))).map (fun j => p + 6 + 6 * j), pu_mk σ) := by
  have hl := hp.2.1
  have h := pp_formBehind_2 (F := F) (by omega) hs hp hg hq hc F 0 (by omega) (by omega)
  unfold sh_Pairs_formBehind
  simpa [nI_0] using h
theorem pp_coreBehind_3 (hs : pp_sk p) (hp : pp_is σ p l) {m : pc_C} (hm : pc_ok m) : ∀ (f i : Nat), l.length + 1 ≤ f + i → i ≤ l.length → sh_Pairs_coreBehind_3 F f p (pb_l m.1) (pb_l m.2.1) (pb_l m.2.2) (nI i) (pu_mk σ) = some (((l.drop i).findIdx? (fun e => decide (e.1 = m))).map (fun j => p + 6 + 6 * (i + j) + 1), pu_mk σ) := by
  have hl := hp.2.1
  intro f
  induction f with
  | zero => intro i h1 h2; omega
  | succ f ih =>
    intro i h1 h2
    unfold sh_Pairs_coreBehind_3
    have h6 : nI l.length ≤ nI i ↔ l.length ≤ i := nI_leI (by omega) (by omega)
    simp only [pp_g2 hs, hp.1, Option.bind_some, h6]
    by_cases h3 : l.length ≤ i
    · simp [h3, List.drop_eq_nil_of_le h3]
    · have hi : i < l.length := by omega
      obtain ⟨-, s1, s2⟩ := hs.2.2.2 i (by omega)
      obtain ⟨⟨x1, x2⟩, x3, x4⟩ := hp.2.2 i hi
      simp only [h3, if_false, pp_g0 hs, pp_g1 hs, Option.bind_some, pp_a hs σ (show i < 10 by omega), pp_b hs σ (show i < 10 by omega), pf_g0 s1, pf_g0 s2, pu_is s1.2.1, pc_isMadeOf s1.2.1 x2 hm, im_b2, pb_b0, nI_1]
      rw [pb_dropG pp_0 hi, List.findIdx?_cons]
      by_cases h7 : (l.getD i pp_0).1 = m
      · simp only [h7, decide_true, Bool.true_eq_false, if_false, if_true, Option.map_some]
        rfl
      · simp only [h7, decide_false, Bool.false_eq_true, if_false, if_true]
        rw [ih (i + 1) (by omega) (by omega)]
        cases (l.drop (i + 1)).findIdx? (fun e => decide (e.1 = m)) with
        | none => rfl
        | some j =>
          simp only [Option.map_some]
          congr 3
          omega
theorem pp_coreBehind (hF : 11 ≤ F) (hs : pp_sk p) (hp : pp_is σ p l) {m : pc_C} (hm : pc_ok m) : sh_Pairs_coreBehind F p (pb_l m.1) (pb_l m.2.1) (pb_l m.2.2) (pu_mk σ) = some ((l.findIdx? (fun e => decide (e.1 = m))).map (fun j => p + 6 + 6 * j + 1), pu_mk σ) := by
  have hl := hp.2.1
  have h := pp_coreBehind_3 (F := F) hs hp hm F 0 (by omega) (by omega)
  unfold sh_Pairs_coreBehind
  simpa [nI_0] using h
end PRS
