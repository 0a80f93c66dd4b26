/-! a form within another; a form written; aliases -/
def pf_scan : List (List Nat) → List (List Nat) → Bool
  | _, [] => true
  | [], _ :: _ => false
  | p :: ps, q :: qs => if p = q then pf_scan ps qs else if p.length = 1 then false else pf_scan ps (q :: qs)
theorem pf_scan0 (ps : List (List Nat)) : pf_scan ps [] = true := by cases ps <;> rfl
theorem pb_n1 {k : Nat} (h : k < 65536) : nI k = (1 : Int32) ↔ k = 1 := nI_eq (b := 1) (by omega) (by decide)
section MOR
variable {F f g n m : Nat} {σ : pu_S} {ps qs : List (List Nat)} {k : pc_C}
theorem pf_isWithin_20 (hF : 9 ≤ F) (hf : pf_sk f n) (hg : pf_sk g m) (hp : pf_is σ f n ps) (hq : pf_is σ g m qs) : ∀ (t i j : Nat), ps.length + 1 ≤ t + i → i ≤ ps.length → j ≤ qs.length → sh_Form_isWithin_20 F t f g (nI j) (nI i) (pu_mk σ) = some (pb_b (pf_scan (ps.drop i) (qs.drop j)), pu_mk σ) := by
  have hn := hf.2.2.2
  have hl := hp.2.2.1
  have hm := hg.2.2.2
  have hl2 := hq.2.2.1
  have e76 : ∀ j, j ≤ qs.length → sh_Form_isWithin_76 F g (nI j) (pu_mk σ) = some (pb_b (decide (qs.length ≤ j)), pu_mk σ) := by
    intro j hj
    have h7 : nI j < nI qs.length ↔ j < qs.length := nI_ltI (by omega) (by omega)
    simp only [sh_Form_isWithin_76, sh_Form_isWithin_89, pf_g2 hg, hq.1, Option.bind_some, h7, pb_rz0, pb_rz1]
    by_cases h : j < qs.length
    · have : ¬ qs.length ≤ j := by omega
      simp [h, this, pb_b]
    · have : qs.length ≤ j := by omega
      simp [h, this, pb_b]
  intro t
  induction t with
  | zero => intro i j h1 h2; omega
  | succ t ih =>
    intro i j h1 h2 h3
    unfold sh_Form_isWithin_20
    have h6 : nI ps.length ≤ nI i ↔ ps.length ≤ i := nI_leI (by omega) (by omega)
    have h7 : nI qs.length ≤ nI j ↔ qs.length ≤ j := nI_leI (by omega) (by omega)
    simp only [pf_g2 hf, pf_g2 hg, hp.1, hq.1, Option.bind_some, h6, h7, e76 j h3]
    by_cases h4 : ps.length ≤ i
    · have e1 : ps.drop i = [] := List.drop_eq_nil_of_le h4
      simp only [h4, if_true, e1]
      by_cases h5 : qs.length ≤ j
      · simp [List.drop_eq_nil_of_le h5, pf_scan, h5]
      · rw [pb_dropG [] (show j < qs.length by omega)]
        simp [pf_scan, h5]
    · by_cases h5 : qs.length ≤ j
      · have e2 : qs.drop j = [] := List.drop_eq_nil_of_le h5
        simp [h4, h5, e2, pf_scan0]
      · have hpi := pf_ok_get hp.2.2.2 i
        have hqj := pf_ok_get hq.2.2.2 j
        have h8 := hpi.1
        simp only [h4, h5, if_false, pu_is hf.1, pu_is hg.1, Option.bind_some, pf_at hf hp (show i < 100000 by omega), pf_at hg hq (show j < 100000 by omega), im_b2, lg_cmp_eq, pb_l_inj hpi hqj, sh_Form_isWithin_70, nI_1, pb_lengthOf hF hpi, pb_n1 (show (ps.getD i []).length < 65536 by omega), pb_rz0]
        rw [pb_dropG [] (show i < ps.length by omega), pb_dropG [] (show j < qs.length by omega)]
        simp only [pf_scan]
        by_cases h9 : ps.getD i [] = qs.getD j []
        · simp only [h9, if_true]
          exact ih (i + 1) (j + 1) (by omega) (by omega) (by omega)
        · by_cases h10 : (ps.getD i []).length = 1
          · simp only [h9, h10, if_false, if_true]
            rfl
          · simp only [h9, h10, if_false]
            rw [← pb_dropG [] (show j < qs.length by omega)]
            exact ih (i + 1) j (by omega) (by omega) h3
def pf_within (ps qs : List (List Nat)) : Bool := decide (ps.getD 0 [] = qs.getD 0 []) && pf_scan (ps.drop 1) (qs.drop 1)
theorem pf_isWithin (hF : 9 ≤ F) (hf : pf_sk f n) (hg : pf_sk g m) (hp : pf_is σ f n ps) (hq : pf_is σ g m qs) (h1 : 1 ≤ ps.length) (h2 : 1 ≤ qs.length) (hF2 : ps.length + 1 ≤ F) : sh_Form_isWithin F f g (pu_mk σ) = some (pb_b (pf_within ps qs), pu_mk σ) := by
  have a0 := pf_at (F := F) hf hp (show 0 < 100000 by decide)
  have b0 := pf_at (F := F) hg hq (show 0 < 100000 by decide)
  have key := pf_isWithin_20 hF hf hg hp hq F 1 1 (by omega) h1 h2
  rw [nI_0] at a0 b0
  rw [show nI 1 = (1 : Int32) from rfl] at key
  simp only [sh_Form_isWithin, pu_is hf.1, pu_is hg.1, Option.bind_some, a0, b0, im_b2, lg_cmp_eq, pb_l_inj (pf_ok_get hp.2.2.2 0) (pf_ok_get hq.2.2.2 0), pb_rz0, key]
  by_cases h : ps.getD 0 [] = qs.getD 0 []
  · simp only [h, if_true, pf_within, decide_true, Bool.true_and]
  · simp only [h, if_false, pf_within, decide_false, Bool.false_and]
    rfl
theorem pf_text_app (l : List Nat) (ps qs : List (List Nat)) : pf_text l (ps ++ qs) = pf_text (pf_text l ps) qs := by simp [pf_text]
theorem pf_writeTo_2 {h cap : Nat} (hF : 9 ≤ F) (hT : pt_sk h cap) (hf : pf_sk f n) (h1 : ¬ f = h ∧ ¬ f = h + 1 ∧ ¬ f + 2 = h ∧ ¬ f + 2 = h + 1) : ∀ (t i : Nat) (σ : pu_S) (l : List Nat), ps.length + 1 ≤ t + i → i ≤ ps.length → pf_is σ f n ps → pt_is σ h cap l → (pf_text l (ps.drop i)).length ≤ cap → ∃ τ, sh_Form_writeTo_2 F t f h (nI i) (pu_mk σ) = some (pu_mk τ) ∧ pt_is τ h cap (pf_text l (ps.drop i)) ∧ pu_fr (fun x => x = h ∨ x = h + 1) σ τ := by
  have hn := hf.2.2.2
  intro t
  induction t with
  | zero => intro i σ l h1 h2; omega
  | succ t ih =>
    intro i σ l h2 h3 hp hl hc
    have hpl := hp.2.2.1
    unfold sh_Form_writeTo_2
    have h6 : nI ps.length ≤ nI i ↔ ps.length ≤ i := nI_leI (by omega) (by omega)
    simp only [pf_g2 hf, hp.1, Option.bind_some, h6]
    by_cases h4 : ps.length ≤ i
    · have e1 : ps.drop i = [] := List.drop_eq_nil_of_le h4
      exact ⟨σ, by simp only [h4, if_true], by simpa [e1, pf_text] using hl, pu_fr.rf⟩
    · have hd := pb_dropG [] (show i < ps.length by omega)
      have hc2 : (pf_text (pt_put l (ps.getD i [])) (ps.drop (i + 1))).length ≤ cap := by
        rw [hd] at hc
        exact hc
      obtain ⟨τ, e, x, y⟩ := pt_appendSubtag (F := F) hT hl hF (pf_ok_get hp.2.2.2 i) (Nat.le_trans (pf_text_len _ _) hc2)
      obtain ⟨υ, e2, x2, y2⟩ := ih (i + 1) τ _ (by omega) (by omega) (hp.fr y (by omega) (by omega)) x hc2
      refine ⟨υ, ?_, ?_, y.tr y2⟩
      · simp only [h4, if_false, pu_is hf.1, pu_is hT.1, Option.bind_some, pf_at hf hp (show i < 100000 by omega), im_b2, e, nI_1]
        exact e2
      · rw [hd]
        exact x2
theorem pf_writeTo {h cap : Nat} {l : List Nat} (hF : 9 ≤ F) (hT : pt_sk h cap) (hf : pf_sk f n) (h1 : h + 1 < f) (hp : pf_is σ f n ps) (hl : pt_is σ h cap l) (hc : (pf_text l ps).length ≤ cap) (hF2 : ps.length + 1 ≤ F) : ∃ τ, sh_Form_writeTo F f h (pu_mk σ) = some (pu_mk τ) ∧ pt_is τ h cap (pf_text l ps) ∧ pu_fr (fun x => x = h ∨ x = h + 1) σ τ := by
  obtain ⟨τ, e, x, y⟩ := pf_writeTo_2 (ps := ps) hF hT hf (by omega) F 0 σ l (by omega) (by omega) hp hl (by simpa using hc)
  rw [nI_0] at e
  exact ⟨τ, e, by simpa using x, y⟩
end MOR
/-! aliases -/
abbrev pa_E : Type := Bool × List Nat × List Nat
def pa_is (σ : pu_S) (al : List pa_E) : Prop := σ.1 8 3 = nI al.length ∧ (∀ i, i < al.length → σ.2.2.2 9 i = pb_l (al.getD i (false, [], [])).2.1 ∧ σ.2.2.2 10 i = pb_l (al.getD i (false, [], [])).2.2 ∧ σ.2.2.1 11 i = pb_b (al.getD i (false, [], [])).1) ∧ al.length ≤ 8 ∧ ∀ a ∈ al, pb_ok a.2.1 ∧ pb_ok a.2.2
theorem pa_is.fr {S : Nat → Prop} {σ τ : pu_S} {al : List pa_E} (hp : pa_is σ al) (hf : pu_fr S σ τ) (h : ∀ x, 8 ≤ x → x ≤ 11 → ¬ S x) : pa_is τ al :=
  ⟨(hf 8 (h 8 (by decide) (by decide)) 3).1.trans hp.1, fun i hi => ⟨(hf 9 (h 9 (by decide) (by decide)) i).2.2.2.trans (hp.2.1 i hi).1, (hf 10 (h 10 (by decide) (by decide)) i).2.2.2.trans (hp.2.1 i hi).2.1, (hf 11 (h 11 (by decide) (by decide)) i).2.2.1.trans (hp.2.1 i hi).2.2⟩, hp.2.2⟩
theorem pa_s : pu_sk 8 = some (.inr (0, [11, 12, 13, 0])) := by decide +kernel
theorem pa_s9 : pu_sk 9 = some (.inl (1, 8)) := by decide +kernel
theorem pa_s10 : pu_sk 10 = some (.inl (1, 8)) := by decide +kernel
theorem pa_s11 : pu_sk 11 = some (.inl (3, 8)) := by decide +kernel
section ALI
variable {F : Nat} {σ : pu_S} {al : List pa_E}
theorem pa_g0 (σ : pu_S) : im_gR (pu_mk σ) 0 8 0 = some 9 := pu_gR pa_s rfl σ
theorem pa_g1 (σ : pu_S) : im_gR (pu_mk σ) 0 8 1 = some 10 := pu_gR pa_s rfl σ
theorem pa_g2 (σ : pu_S) : im_gR (pu_mk σ) 0 8 2 = some 11 := pu_gR pa_s rfl σ
theorem pa_g3 (σ : pu_S) : im_gI (pu_mk σ) 0 8 3 = some (σ.1 8 3) := pu_gI pa_s rfl σ
theorem pa_p3 (σ : pu_S) (v : Int32) : im_pV (pu_mk σ) 0 8 3 (.int v) = some (pu_mk (pu_sI σ 8 3 v)) := pu_pI pa_s rfl σ v
theorem pa_count (hp : pa_is σ al) : sh_Aliases_count F 8 (pu_mk σ) = some (nI al.length, pu_mk σ) := by
  simp only [sh_Aliases_count, pa_g3, hp.1, Option.bind_some]
theorem pa_isFull (hp : pa_is σ al) : sh_Aliases_isFull F 8 (pu_mk σ) = some (pb_b (decide (8 ≤ al.length)), pu_mk σ) := by
  have hl := hp.2.2.1
  have h2 : nI al.length < (8 : Int32) ↔ al.length < 8 := nI_ltI (b := 8) (by omega) (by decide)
  simp only [sh_Aliases_isFull, sh_Aliases_isFull_14, pa_g3, hp.1, Option.bind_some, h2, pb_rz0, pb_rz1]
  by_cases h : al.length < 8
  · have : ¬ 8 ≤ al.length := by omega
    simp [h, this, pb_b]
  · have : 8 ≤ al.length := by omega
    simp [h, this, pb_b]
theorem pb_nar (b : Bool) : vp_nar .boolean (pb_b b) = pb_b b := by cases b <;> rfl
theorem pa_append (hp : pa_is σ al) {a : pa_E} (ha : pb_ok a.2.1 ∧ pb_ok a.2.2) (hl : al.length < 8) : ∃ τ, sh_Aliases_append F 8 (pb_l a.2.1) (pb_l a.2.2) (pb_b a.1) (pu_mk σ) = some (pu_mk τ) ∧ pa_is τ (al ++ [a]) ∧ pu_fr (fun x => 8 ≤ x ∧ x ≤ 11) σ τ := by
  have h3 : decide (8 ≤ al.length) = false := by simp; omega
  refine ⟨pu_sI (pu_sA (pu_sB (pu_sB σ 9 al.length (pb_l a.2.1)) 10 al.length (pb_l a.2.2)) 11 al.length (pb_b a.1)) 8 3 (nI (al.length + 1)), ?_, ⟨?_, fun i hi => ?_, ?_, fun x hx => ?_⟩, (((pu_fr.sB (S := fun x => 8 ≤ x ∧ x ≤ 11) (by decide)).tr (pu_fr.sB (by decide))).tr (pu_fr.sA (by decide))).tr (pu_fr.sI (by decide))⟩
  · have e1 : (pu_sB σ 9 al.length (pb_l a.2.1)).1 8 3 = nI al.length := hp.1
    have e2 : (pu_sB (pu_sB σ 9 al.length (pb_l a.2.1)) 10 al.length (pb_l a.2.2)).1 8 3 = nI al.length := hp.1
    have e3 : (pu_sA (pu_sB (pu_sB σ 9 al.length (pb_l a.2.1)) 10 al.length (pb_l a.2.2)) 11 al.length (pb_b a.1)).1 8 3 = nI al.length := hp.1
    simp only [sh_Aliases_append, sh_Aliases_append_48, pu_is pa_s, pa_isFull hp, h3, im_b2, Option.bind_some, pb_b, Bool.false_eq_true, if_false, if_true, pa_g0, pa_g1, pa_g2, pa_g3, hp.1, pu_stLn pa_s9 _ _ hl (by decide), e1, pu_stLn pa_s10 _ _ hl (by decide), e2]
    have e4 := pb_nar a.1
    unfold pb_b at e4
    simp only [e4, pu_stIn pa_s11 (by decide) _ _ hl (by decide), Option.bind_some, pa_g3, pa_p3]
    unfold pb_b at e3
    simp only [e3, nI_1]
  · simp [pu_sI]
  · have hi : i < al.length + 1 := by simpa using hi
    by_cases hil : i = al.length
    · subst hil
      simp [pu_sI, pu_sA, pu_sB]
    · have h6 : i < al.length := by omega
      have h7 := hp.2.1 i h6
      have e : (al ++ [a]).getD i (false, [], []) = al.getD i (false, [], []) := by
        rw [List.getD_eq_getElem?_getD, List.getElem?_append_left h6, ← List.getD_eq_getElem?_getD]
      rw [e]
      simpa [pu_sI, pu_sA, pu_sB, hil] using h7
  · simp
    omega
  · rcases List.mem_append.mp hx with hx | hx
    · exact hp.2.2.2 x hx
    · simp at hx
      rw [hx]
      exact ha
def pa_m (s : List Nat) (r : Bool) (a : pa_E) : Bool := decide (a.2.1 = s) && decide (a.1 = r)
theorem pb_b_inj {a b : Bool} : pb_b a = pb_b b ↔ a = b := by cases a <;> cases b <;> simp [pb_b]
theorem pa_okg {al : List pa_E} (h : ∀ a ∈ al, pb_ok a.2.1 ∧ pb_ok a.2.2) (i : Nat) : pb_ok (al.getD i (false, [], [])).2.1 ∧ pb_ok (al.getD i (false, [], [])).2.2 := by
  by_cases hi : i < al.length
  · exact h _ (pb_getG _ hi)
  · rw [List.getD_eq_getElem?_getD, List.getElem?_eq_none (by omega)]
    exact ⟨pb_ok0, pb_ok0⟩
theorem pa_indexOf_3 (hp : pa_is σ al) {s : List Nat} (hs : pb_ok s) (r : Bool) : ∀ (f k : Nat), al.length + 1 ≤ f + k → k ≤ al.length → sh_Aliases_indexOf_3 F f 8 (pb_l s) (pb_b r) (nI k) (pu_mk σ) = some (match (al.drop k).findIdx? (pa_m s r) with
    | some j => nI (k + j)
    | none => -1, pu_mk σ) := by
  have hl := hp.2.2.1
  intro f
  induction f with
  | zero => intro k h1 h2; omega
  | succ f ih =>
    intro k h1 h2
    unfold sh_Aliases_indexOf_3
    have h6 : nI al.length ≤ nI k ↔ al.length ≤ k := nI_leI (by omega) (by omega)
    simp only [pa_g3, hp.1, Option.bind_some, h6]
    by_cases h3 : al.length ≤ k
    · simp [h3, List.drop_eq_nil_of_le h3]
    · have h3' : k < al.length := by omega
      obtain ⟨v1, v2, v3⟩ := hp.2.1 k h3'
      simp only [h3, if_false, pa_g0, pa_g2, Option.bind_some, pu_lLn pa_s9 σ (show k < 8 by omega) (by decide), pu_lIn pa_s11 (by decide) σ (show k < 8 by omega) (by decide), v1, v3, lg_cmp_eq, pb_l_inj (pa_okg hp.2.2.2 k).1 hs, pb_b_inj, sh_Aliases_indexOf_38, nI_1]
      rw [pb_dropG (false, [], []) h3', List.findIdx?_cons]
      have hrec : some (match Option.map (fun i => i + 1) ((al.drop (k + 1)).findIdx? (pa_m s r)) with
          | some j => nI (k + j)
          | none => -1, pu_mk σ) = sh_Aliases_indexOf_3 F f 8 (pb_l s) (pb_b r) (nI (k + 1)) (pu_mk σ) := by
        rw [ih (k + 1) (by omega) (by omega)]
        cases (al.drop (k + 1)).findIdx? (pa_m s r) with
        | none => rfl
        | some j =>
          simp only [Option.map_some]
          congr 3
          omega
      by_cases a1 : (al.getD k (false, [], [])).2.1 = s
      · by_cases a2 : (al.getD k (false, [], [])).1 = r
        · have e : pa_m s r (al.getD k (false, [], [])) = true := by simp only [pa_m, a1, a2, decide_true, Bool.and_self]
          simp only [a1, a2, if_true, e]
          rfl
        · have e : pa_m s r (al.getD k (false, [], [])) = false := by simp only [pa_m, a2, decide_false, Bool.and_false]
          simp only [a1, a2, if_true, if_false, e, Bool.false_eq_true, hrec]
      · have e : pa_m s r (al.getD k (false, [], [])) = false := by simp only [pa_m, a1, decide_false, Bool.false_and]
        simp only [a1, if_false, e, Bool.false_eq_true, hrec]
theorem pa_indexOf (hp : pa_is σ al) (hF : 9 ≤ F) {s : List Nat} (hs : pb_ok s) (r : Bool) : sh_Aliases_indexOf F 8 (pb_l s) (pb_b r) (pu_mk σ) = some (match al.findIdx? (pa_m s r) with
    | some j => nI j
    | none => -1, pu_mk σ) := by
  have hl := hp.2.2.1
  unfold sh_Aliases_indexOf
  have h := pa_indexOf_3 (F := F) hp hs r F 0 (by omega) (by omega)
  simpa [nI_0] using h
/-- the alias of a subtag, followed some steps -/
def pa_rep (al : List pa_E) (r : Bool) : Nat → List Nat → List Nat
  | 0, s => s
  | n + 1, s => match al.find? (pa_m s r) with
    | some a => pa_rep al r n a.2.2
    | none => s
theorem pa_find {α : Type} {l : List α} {p : α → Bool} (d : α) : l.find? p = (l.findIdx? p).map (fun i => l.getD i d) := by
  induction l with
  | nil => rfl
  | cons a l ih =>
    by_cases h : p a = true
    · simp [List.find?_cons, List.findIdx?_cons, h]
    · have h : p a = false := by simpa using h
      simp only [List.find?_cons, List.findIdx?_cons, h, ih, Bool.false_eq_true, if_false, Option.map_map]
      cases List.findIdx? p l <;> simp
theorem pa_replaced_6 (hp : pa_is σ al) (hF : 9 ≤ F) (r : Bool) : ∀ (f k : Nat) (s : List Nat), pb_ok s → al.length + 1 ≤ f + k → k ≤ al.length → sh_Aliases_replaced_6 F f 8 (pb_b r) (pb_l s) (nI k) (pu_mk σ) = some (pb_l (pa_rep al r (al.length - k) s), pu_mk σ) := by
  have hl := hp.2.2.1
  intro f
  induction f with
  | zero => intro k s _ h1 h2; omega
  | succ f ih =>
    intro k s hs h1 h2
    unfold sh_Aliases_replaced_6
    have h6 : nI al.length ≤ nI k ↔ al.length ≤ k := nI_leI (by omega) (by omega)
    simp only [pa_g3, hp.1, Option.bind_some, h6]
    by_cases h3 : al.length ≤ k
    · have e : al.length - k = 0 := by omega
      simp [h3, e, pa_rep]
    · have e : al.length - k = (al.length - (k + 1)) + 1 := by omega
      simp only [h3, if_false, pu_is pa_s, Option.bind_some, pa_indexOf hp hF hs r, im_b2, e, pa_rep, pa_find (false, [], [])]
      cases hi : al.findIdx? (pa_m s r) with
      | none =>
        have h0 : ¬ (0 : Int32) ≤ -1 := by decide
        simp only [h0, if_false, Option.map_none]
      | some j =>
        have hj : j < al.length := (List.findIdx?_eq_some_iff_getElem.mp hi).1
        have h0 : (0 : Int32) ≤ nI j := nI_pos' (by omega)
        obtain ⟨v1, v2, v3⟩ := hp.2.1 j hj
        simp only [h0, if_true, pa_g1, Option.bind_some, pu_lLn pa_s10 σ (show j < 8 by omega) (by decide), v2, nI_1, Option.map_some]
        exact ih (k + 1) _ (pa_okg hp.2.2.2 j).2 (by omega) (by omega)
theorem pa_replaced (hp : pa_is σ al) (hF : 9 ≤ F) (r : Bool) {s : List Nat} (hs : pb_ok s) : sh_Aliases_replaced F 8 (pb_l s) (pb_b r) (pu_mk σ) = some (pb_l (pa_rep al r al.length s), pu_mk σ) := by
  have hl := hp.2.2.1
  have h := pa_replaced_6 (F := F) hp hF r F 0 s hs (by omega) (by omega)
  rw [nI_0] at h
  unfold sh_Aliases_replaced
  exact h
theorem pa_rep_ok {al : List pa_E} (h : ∀ a ∈ al, pb_ok a.2.1 ∧ pb_ok a.2.2) (r : Bool) : ∀ (n : Nat) (s : List Nat), pb_ok s → pb_ok (pa_rep al r n s) := by
  intro n
  induction n with
  | zero => intro s hs; exact hs
  | succ n ih =>
    intro s hs
    unfold pa_rep
    cases hf : al.find? (pa_m s r) with
    | none => exact hs
    | some a => exact ih _ (h a (List.mem_of_find?_eq_some hf)).2
end ALI
