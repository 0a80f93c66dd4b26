/-! forms: subtags in a row, and a core -/
theorem pb_dropG {α : Type} {s : List α} {i : Nat} (d : α) (h : i < s.length) : s.drop i = s.getD i d :: s.drop (i + 1) := by
  rw [List.drop_eq_getElem_cons h]
  simp [h]
theorem pb_getG {α : Type} {s : List α} {i : Nat} (d : α) (h : i < s.length) : s.getD i d ∈ s := by
  rw [List.getD_eq_getElem?_getD]
  simp [h]
theorem pb_decC {a b : List Nat} {l m : List (List Nat)} : decide (a :: l = b :: m) = (decide (a = b) && decide (l = m)) := by
  by_cases h1 : a = b <;> by_cases h2 : l = m <;> simp [h1, h2]
def pf_sk (f n : Nat) : Prop := pu_sk f = some (.inr (2, [f + 1 + 2, f + 2 + 2, 0])) ∧ pc_sk (f + 1) ∧ pu_sk (f + 2) = some (.inl (1, n)) ∧ n < 1000
def pf_is (σ : pu_S) (f n : Nat) (ps : List (List Nat)) : Prop := σ.1 f 2 = nI ps.length ∧ (∀ i, i < ps.length → σ.2.2.2 (f + 2) i = pb_l (ps.getD i [])) ∧ ps.length ≤ n ∧ ∀ p ∈ ps, pb_ok p
theorem pf_is.fr {S : Nat → Prop} {σ τ : pu_S} {f n : Nat} {ps : List (List Nat)} (hp : pf_is σ f n ps) (hf : pu_fr S σ τ) (h1 : ¬ S f) (h2 : ¬ S (f + 2)) : pf_is τ f n ps :=
  ⟨(hf f h1 2).1.trans hp.1, fun i hi => (hf (f + 2) h2 i).2.2.2.trans (hp.2.1 i hi), hp.2.2⟩
theorem pf_ok_get {ps : List (List Nat)} (h : ∀ p ∈ ps, pb_ok p) (i : Nat) : pb_ok (ps.getD i []) := by
  by_cases hi : i < ps.length
  · exact h _ (pb_getG [] hi)
  · rw [List.getD_eq_getElem?_getD, List.getElem?_eq_none (by omega)]
    exact pb_ok0
section FRM
variable {F f g n : Nat} {σ : pu_S} {ps qs : List (List Nat)} {k : pc_C}
theorem pf_g0 (hf : pf_sk f n) (σ : pu_S) : im_gR (pu_mk σ) 2 f 0 = some (f + 1) := pu_gR hf.1 rfl σ
theorem pf_g1 (hf : pf_sk f n) (σ : pu_S) : im_gR (pu_mk σ) 2 f 1 = some (f + 2) := pu_gR hf.1 rfl σ
theorem pf_g2 (hf : pf_sk f n) (σ : pu_S) : im_gI (pu_mk σ) 2 f 2 = some (σ.1 f 2) := pu_gI hf.1 rfl σ
theorem pf_p2 (hf : pf_sk f n) (σ : pu_S) (v : Int32) : im_pV (pu_mk σ) 2 f 2 (.int v) = some (pu_mk (pu_sI σ f 2 v)) := pu_pI hf.1 rfl σ v
theorem pf_count (hf : pf_sk f n) (hp : pf_is σ f n ps) : sh_Form_count F f (pu_mk σ) = some (nI ps.length, pu_mk σ) := by
  simp only [sh_Form_count, pf_g2 hf, hp.1, Option.bind_some]
theorem pf_at (hf : pf_sk f n) (hp : pf_is σ f n ps) {i : Nat} (hi : i < 100000) : sh_Form_at F f (nI i) (pu_mk σ) = some (pb_l (ps.getD i []), pu_mk σ) := by
  have hn := hf.2.2.2
  have hl := hp.2.2.1
  have h1 : ¬ nI i < 0 := nI_pos (by omega)
  have h2 : nI i < nI ps.length ↔ i < ps.length := nI_ltI (by omega) (by omega)
  simp only [sh_Form_at, sh_Form_at_12, sh_Form_at_22, h1, if_false, pf_g2 hf, hp.1, Option.bind_some, h2, pf_g1 hf]
  by_cases h3 : i < ps.length
  · simp only [h3, if_true, pu_lLn hf.2.2.1 σ (show i < n by omega) (by omega), Option.bind_some, hp.2.1 i h3]
  · have e : ps.getD i [] = [] := by
      rw [List.getD_eq_getElem?_getD, List.getElem?_eq_none (by omega)]
      rfl
    simp only [h3, if_false, e, pb_l0]
theorem pf_atneg (i : Int32) (hi : i < 0) (w : im_W) : sh_Form_at F f i w = some (pb_l [], w) := by
  simp only [sh_Form_at, sh_Form_at_12, sh_Form_at_22, hi, if_true, pb_l0]
theorem pf_isPlain (hf : pf_sk f n) (hp : pf_is σ f n ps) (hk : pc_is σ (f + 1) k) : sh_Form_isPlain F f (pu_mk σ) = some (pb_b (decide (ps.length = pc_n k)), pu_mk σ) := by
  have hn := hf.2.2.2
  have hl := hp.2.2.1
  have h9 : pc_n k ≤ 3 := by unfold pc_n; split <;> split <;> omega
  have h2 : nI ps.length = nI (pc_n k) ↔ ps.length = pc_n k := nI_eq (by omega) (by omega)
  simp only [sh_Form_isPlain, sh_Form_isPlain_19, pf_g2 hf, hp.1, Option.bind_some, pf_g0 hf, pu_is hf.2.1, pc_count hf.2.1 hk, im_b2, h2, pb_rz0, pb_rz1]
  by_cases h : ps.length = pc_n k <;> simp [h, pb_b]
theorem pf_append (hf : pf_sk f n) (hp : pf_is σ f n ps) {s : List Nat} (hs : pb_ok s) (hl : ps.length < n) : ∃ τ, sh_Form_append F f (pb_l s) (pu_mk σ) = some (pu_mk τ) ∧ pf_is τ f n (ps ++ [s]) ∧ pu_fr (fun x => x = f ∨ x = f + 2) σ τ := by
  have hn := hf.2.2.2
  have h2 : Int32.ofNat n ≤ nI ps.length ↔ n ≤ ps.length := nI_leI (by omega) (by omega)
  have h3 : ¬ n ≤ ps.length := by omega
  refine ⟨pu_sI (pu_sB σ (f + 2) ps.length (pb_l s)) f 2 (nI (ps.length + 1)), ?_, ⟨?_, fun i hi => ?_, ?_, fun x hx => ?_⟩, (pu_fr.sB (S := fun x => x = f ∨ x = f + 2) (Or.inr rfl)).tr (pu_fr.sI (Or.inl rfl))⟩
  · have e : (pu_sB σ (f + 2) ps.length (pb_l s)).1 f 2 = nI ps.length := hp.1
    simp only [sh_Form_append, sh_Form_append_32, pf_g2 hf, hp.1, Option.bind_some, pf_g1 hf, pu_ln hf.2.2.1, h2, h3, if_false, pu_stLn hf.2.2.1 σ _ hl (by omega), e, pf_p2 hf, nI_1]
  · simp [pu_sI]
  · have hi : i < ps.length + 1 := by simpa using hi
    by_cases hil : i = ps.length
    · subst hil
      simp [pu_sI, pu_sB]
    · have h6 : i < ps.length := by omega
      have h7 := hp.2.1 i h6
      have e : (ps ++ [s]).getD i [] = ps.getD i [] := by
        rw [List.getD_eq_getElem?_getD, List.getElem?_append_left h6, ← List.getD_eq_getElem?_getD]
      rw [e]
      simpa [pu_sI, pu_sB, hil] using h7
  · simp
    omega
  · rcases List.mem_append.mp hx with hx | hx
    · exact hp.2.2.2 x hx
    · simp at hx
      rw [hx]
      exact hs
theorem pf_zero (hf : pf_sk f n) : pf_is (pu_sI σ f 2 0) f n [] := ⟨by simp [pu_sI, nI_0], fun i hi => by simp at hi, by simp, by simp⟩
theorem pf_begin (hf : pf_sk f n) (hk : pc_ok k) (hn : 3 ≤ n) : ∃ τ, sh_Form_begin F f (pb_l k.1) (pb_l k.2.1) (pb_l k.2.2) (pu_mk σ) = some (pu_mk τ) ∧ pf_is τ f n (pc_list k) ∧ pc_is τ (f + 1) k ∧ pu_fr (fun x => x = f ∨ x = f + 1 ∨ x = f + 2) σ τ := by
  obtain ⟨σ1, e1, c1, f1⟩ := pc_assign (F := F) (σ := σ) hf.2.1 hk
  have c2 : pc_is (pu_sI σ1 f 2 0) (f + 1) k := c1.fr (S := fun x => x = f) (pu_fr.sI rfl) (by omega)
  obtain ⟨σ3, e3, p3, f3⟩ := pf_append (F := F) hf (pf_zero (σ := σ1) hf) hk.1 (by simp; omega)
  have c3 : pc_is σ3 (f + 1) k := c2.fr f3 (by omega)
  have last : ∀ (υ : pu_S) (qs : List (List Nat)), pf_is υ f n qs → pc_is υ (f + 1) k → qs.length + 1 ≤ n → ∃ τ, sh_Form_begin_36 F f (pb_l k.2.2) (pu_mk υ) = some (pu_mk τ) ∧ pf_is τ f n (qs ++ (if k.2.2 = [] then [] else [k.2.2])) ∧ pc_is τ (f + 1) k ∧ pu_fr (fun x => x = f ∨ x = f + 2) υ τ := by
    intro υ qs hq hc hl
    by_cases hr : k.2.2 = []
    · refine ⟨υ, ?_, by simpa [hr] using hq, hc, pu_fr.rf⟩
      simp [sh_Form_begin_36, sh_Form_begin_52, pf_g0 hf, pu_is hf.2.1, pc_hasRegion hf.2.1 hc, im_b2, hr, pb_b]
    · obtain ⟨τ, e, p, fr⟩ := pf_append (F := F) hf hq hk.2.2 (by omega)
      refine ⟨τ, ?_, by simpa [hr] using p, hc.fr fr (by omega), fr⟩
      simp [sh_Form_begin_36, sh_Form_begin_52, pf_g0 hf, pu_is hf.2.1, pu_is hf.1, pc_hasRegion hf.2.1 hc, im_b2, hr, pb_b, e]
  have e0 : sh_Form_begin F f (pb_l k.1) (pb_l k.2.1) (pb_l k.2.2) (pu_mk σ) = (if pb_b (decide (¬ k.2.1 = [])) = 0 then sh_Form_begin_36 F f (pb_l k.2.2) (pu_mk σ3) else (sh_Form_append F f (pb_l k.2.1) (pu_mk σ3)).bind fun w30 => sh_Form_begin_36 F f (pb_l k.2.2) w30) := by
    simp only [sh_Form_begin, pf_g0 hf, pu_is hf.2.1, pu_is hf.1, Option.bind_some, e1, pf_p2 hf, e3, pc_hasScript hf.2.1 c3, im_b2]
  have fr3 : pu_fr (fun x => x = f ∨ x = f + 1 ∨ x = f + 2) σ σ3 := ((f1.mono (T := fun x => x = f ∨ x = f + 1 ∨ x = f + 2) (fun x hx => by omega)).tr (pu_fr.sI (Or.inl rfl))).tr (f3.mono (fun x hx => by omega))
  rw [e0]
  by_cases hs : k.2.1 = []
  · obtain ⟨τ, e, p, c, fr⟩ := last σ3 _ p3 c3 (by simp; omega)
    refine ⟨τ, by simpa [hs, pb_b] using e, by simpa [pc_list, hs] using p, c, fr3.tr (fr.mono (fun x hx => by omega))⟩
  · obtain ⟨σ4, e4, p4, f4⟩ := pf_append (F := F) hf p3 hk.2.1 (by simp; omega)
    obtain ⟨τ, e, p, c, fr⟩ := last σ4 _ p4 (c3.fr f4 (by omega)) (by simp; omega)
    refine ⟨τ, by simpa [hs, pb_b, e4] using e, by simpa [pc_list, hs] using p, c, (fr3.tr (f4.mono (fun x hx => by omega))).tr (fr.mono (fun x hx => by omega))⟩
theorem pf_copyFrom_18 (hf : pf_sk f n) {m : Nat} (hg : pf_sk g m) (hd : ¬ g = f ∧ ¬ g = f + 2 ∧ ¬ g + 2 = f ∧ ¬ g + 2 = f + 2) : ∀ (t i : Nat) (σ : pu_S), qs.length + 1 ≤ t + i → i ≤ qs.length → pf_is σ g m qs → pf_is σ f n (qs.take i) → qs.length ≤ n → ∃ τ, sh_Form_copyFrom_18 F t f g (nI i) (pu_mk σ) = some (pu_mk τ) ∧ pf_is τ f n qs ∧ pu_fr (fun x => x = f ∨ x = f + 2) σ τ := by
  intro t
  induction t with
  | zero => intro i σ h1 h2; omega
  | succ t ih =>
    intro i σ h1 h2 hq hp hn
    have hm := hg.2.2.2
    have hl := hq.2.2.1
    unfold sh_Form_copyFrom_18
    have h6 : nI qs.length ≤ nI i ↔ qs.length ≤ i := nI_leI (by omega) (by omega)
    simp only [pf_g2 hg, hq.1, Option.bind_some, h6]
    by_cases h4 : qs.length ≤ i
    · refine ⟨σ, by simp only [h4, if_true], ?_, pu_fr.rf⟩
      rw [List.take_of_length_le h4] at hp
      exact hp
    · have hle : (qs.take i).length < n := by simp; omega
      obtain ⟨τ, e, p, fr⟩ := pf_append (F := F) hf hp (pf_ok_get hq.2.2.2 i) hle
      have e5 : qs.take i ++ [qs.getD i []] = qs.take (i + 1) := by
        rw [List.take_add_one, List.getD_eq_getElem?_getD]
        simp [show i < qs.length by omega]
      rw [e5] at p
      obtain ⟨υ, e2, p2, fr2⟩ := ih (i + 1) τ (by omega) (by omega) (hq.fr fr (by omega) (by omega)) p hn
      refine ⟨υ, ?_, p2, fr.tr fr2⟩
      simp only [h4, if_false, pu_is hg.1, pu_is hf.1, Option.bind_some, pf_at hg hq (show i < 100000 by omega), im_b2, e, nI_1]
      exact e2
theorem pf_copyFrom (hf : pf_sk f n) {m : Nat} (hg : pf_sk g m) (hd : g + 2 < f ∨ f + 2 < g) (hq : pf_is σ g m qs) (hk : pc_is σ (g + 1) k) (hn : qs.length ≤ n) (hF : qs.length + 1 ≤ F) : ∃ τ, sh_Form_copyFrom F f g (pu_mk σ) = some (pu_mk τ) ∧ pf_is τ f n qs ∧ pc_is τ (f + 1) k ∧ pu_fr (fun x => x = f ∨ x = f + 1 ∨ x = f + 2) σ τ := by
  obtain ⟨σ1, e1, c1, f1⟩ := pc_copyFrom (F := F) hf.2.1 hg.2.1 hk
  have q1 : pf_is σ1 g m qs := hq.fr f1 (by omega) (by omega)
  have q2 : pf_is (pu_sI σ1 f 2 0) g m qs := q1.fr (S := fun x => x = f) (pu_fr.sI rfl) (by omega) (by omega)
  obtain ⟨τ, e, p, fr⟩ := pf_copyFrom_18 (F := F) hf hg (by omega) F 0 (pu_sI σ1 f 2 0) (by omega) (by omega) q2 (by simpa using pf_zero (σ := σ1) hf) hn
  have c2 : pc_is (pu_sI σ1 f 2 0) (f + 1) k := c1.fr (S := fun x => x = f) (pu_fr.sI rfl) (by omega)
  rw [nI_0] at e
  refine ⟨τ, ?_, p, c2.fr fr (by omega), ((f1.mono (T := fun x => x = f ∨ x = f + 1 ∨ x = f + 2) (fun x hx => by omega)).tr (pu_fr.sI (Or.inl rfl))).tr (fr.mono (fun x hx => by omega))⟩
  simp only [sh_Form_copyFrom, pf_g0 hf, pf_g0 hg, pu_is hf.2.1, Option.bind_some, e1, pf_p2 hf]
  exact e
theorem pf_isStartOf_12 (hf : pf_sk f n) {m : Nat} (hg : pf_sk g m) (hp : pf_is σ f n ps) (hq : pf_is σ g m qs) (hle : ps.length ≤ qs.length) : ∀ (t i : Nat), ps.length + 1 ≤ t + i → i ≤ ps.length → sh_Form_isStartOf_12 F t f g (nI i) (pu_mk σ) = some (pb_b (decide (ps.drop i = (qs.drop i).take (ps.length - i))), pu_mk σ) := by
  have hn := hf.2.2.2
  have hl := hp.2.2.1
  have hm := hg.2.2.2
  have hl2 := hq.2.2.1
  intro t
  induction t with
  | zero => intro i h1 h2; omega
  | succ t ih =>
    intro i h1 h2
    unfold sh_Form_isStartOf_12
    have h6 : nI ps.length ≤ nI i ↔ ps.length ≤ i := nI_leI (by omega) (by omega)
    simp only [pf_g2 hf, hp.1, Option.bind_some, h6]
    by_cases h4 : ps.length ≤ i
    · have e1 : ps.drop i = [] := List.drop_eq_nil_of_le h4
      have e2 : ps.length - i = 0 := by omega
      simp [h4, e1, e2, pb_rz1, pb_b]
    · simp only [h4, if_false, pu_is hf.1, pu_is hg.1, Option.bind_some, pf_at hf hp (show i < 100000 by omega), pf_at hg hq (show i < 100000 by omega), im_b2, lg_cmp_eq, pb_l_inj (pf_ok_get hp.2.2.2 i) (pf_ok_get hq.2.2.2 i), nI_1, pb_rz0]
      rw [pb_dropG [] (show i < ps.length by omega), pb_dropG [] (show i < qs.length by omega), show ps.length - i = (ps.length - (i + 1)) + 1 by omega, List.take_succ_cons, pb_decC]
      by_cases h5 : ps.getD i [] = qs.getD i []
      · simp only [h5, if_true, decide_true, Bool.true_and]
        exact ih (i + 1) (by omega) (by omega)
      · simp only [h5, if_false, decide_false, Bool.false_and]
        rfl
theorem pf_isStartOf (hf : pf_sk f n) {m c : Nat} (hg : pf_sk g m) (hp : pf_is σ f n ps) (hq : pf_is σ g m qs) (hc : c ≤ qs.length) (hF : ps.length + 1 ≤ F) : sh_Form_isStartOf F f g (nI c) (pu_mk σ) = some (pb_b (decide (ps = qs.take c)), pu_mk σ) := by
  have hn := hf.2.2.2
  have hl := hp.2.2.1
  have hm := hg.2.2.2
  have hl2 := hq.2.2.1
  have h6 : nI ps.length = nI c ↔ ps.length = c := nI_eq (by omega) (by omega)
  simp only [sh_Form_isStartOf, pf_g2 hf, hp.1, Option.bind_some, h6, pb_rz0]
  by_cases h : ps.length = c
  · have key := pf_isStartOf_12 (F := F) hf hg hp hq (by omega) F 0 (by omega) (by omega)
    rw [nI_0] at key
    simp only [h, if_true]
    rw [key]
    simp [h]
  · have : ¬ ps = qs.take c := fun q => h (by rw [q]; simp; omega)
    simp [h, this, pb_b]
/-- how many subtags truncating leaves -/
def pf_tr (ps : List (List Nat)) (m : Nat) : Nat := if 2 ≤ m ∧ (ps.getD (m - 2) []).length = 1 then m - 2 else m - 1
theorem pf_truncated (hF : 9 ≤ F) (hf : pf_sk f n) (hp : pf_is σ f n ps) {m : Nat} (hm : 1 ≤ m) (hm2 : m < 1000) : sh_Form_truncated F f (nI m) (pu_mk σ) = some (nI (pf_tr ps m), pu_mk σ) := by
  have e1 : nI m - (1 : Int32) = nI (m - 1) := pn_sub (b := 1) hm
  simp only [sh_Form_truncated, sh_Form_truncated_25, pu_is hf.1, Option.bind_some, e1]
  by_cases h : 2 ≤ m
  · have e2 : nI (m - 1) - (1 : Int32) = nI (m - 2) := by rw [show (1 : Int32) = nI 1 from rfl, pn_sub (by omega)]; congr 1
    have hok := pf_ok_get hp.2.2.2 (m - 2)
    have h8 := hok.1
    have h1 : nI (ps.getD (m - 2) []).length = (1 : Int32) ↔ (ps.getD (m - 2) []).length = 1 := nI_eq (b := 1) (by omega) (by decide)
    simp only [e2, pf_at hf hp (show m - 2 < 100000 by omega), im_b2, pb_lengthOf hF hok, h1, pf_tr, h, true_and]
    split <;> rfl
  · have hm1 : m = 1 := by omega
    subst hm1
    have h2 : ¬ nI 0 = (1 : Int32) := by decide
    simp only [pf_atneg (nI (1 - 1) - 1) (by decide), im_b2, pb_lengthOf hF pb_ok0, List.length_nil, h2, if_false]
    rfl
end FRM
