/-! pair -/
def pk_suit (par : Bool) (k1 k2 : pc_C) : Bool := if par then decide (¬ pc_list k1 = pc_list k2) else decide (¬ k2.2.1 = []) && decide (¬ k2.2.2 = [])
def pk_lead (l : List pp_E) (k : pc_C) : Option Nat := l.findIdx? (fun e => decide (pc_list e.1 = pc_list k))
def pk_pair (ty : List Nat) (al : List pa_E) (l : List pp_E) (par : Bool) : Int32 × Option pp_E := match ty.findIdx? (· == 61) with
  | none => (-1, none)
  | some m => match pk_plain ty al 0 m, pk_plain ty al (m + 1) ty.length with
    | some k1, some k2 => if pk_suit par k1 k2 = true then (if 10 ≤ l.length ∨ (pk_lead l k1).isSome = true then (-2, none) else (nI (l.length + 1), some (k1, k2))) else (-1, none)
    | _, _ => (-1, none)
section PAI
variable {F : Nat} {σ : pu_S} {ty sh : List Nat} {al : List pa_E} {lk pa : List pp_E} {tg : List pg_E} {su : List Nat} {pl : Int32}
theorem po_pair_136 (hF : 100 ≤ F) {p : Nat} (hs : pp_sk p) (hp1 : 12 ≤ p) (hp2 : p ≤ 75) {l : List pp_E} (hl : pp_is σ p l) {k1 k2 : pc_C} (h1 : pf_is σ 240 30 (pc_list k1)) (h2 : pc_is σ 241 k1) (h3 : pf_is σ 243 30 (pc_list k2)) (h4 : pc_is σ 244 k2) : ∃ τ, sh_LT_pair_136 F 0 p (pu_mk σ) = some (if 10 ≤ l.length ∨ (pk_lead l k1).isSome = true then -2 else nI (l.length + 1), pu_mk τ) ∧ (if 10 ≤ l.length ∨ (pk_lead l k1).isSome = true then τ = σ else pt_is τ 1 60 [] ∧ pp_is τ p (l ++ [(k1, k2)]) ∧ pu_fr (fun x => x = 1 ∨ x = 2 ∨ (p ≤ x ∧ x < p + 63)) σ τ) := by
  unfold sh_LT_pair_136
  rw [pu_is hs.1, Option.bind_some, pp_isFull hs hl, im_b2_s]
  by_cases c1 : 10 ≤ l.length
  · refine ⟨σ, ?_, ?_⟩
    · rw [if_neg (show ¬ pb_b (decide (10 ≤ l.length)) = 0 by rw [decide_eq_true c1]; decide), if_pos (show 10 ≤ l.length ∨ (pk_lead l k1).isSome = true from Or.inl c1)]
      rfl
    · rw [if_pos (show 10 ≤ l.length ∨ (pk_lead l k1).isSome = true from Or.inl c1)]
  · have e0 := pp_formBehind (F := F) (by omega) hs hl po_f1 h1 (Nat.le_refl _)
    rw [List.take_length] at e0
    rw [if_pos (show pb_b (decide (10 ≤ l.length)) = 0 by rw [decide_eq_false c1]; rfl), po_9, Option.bind_some, Option.bind_some, pu_is po_f1.1, Option.bind_some, pf_count po_f1 h1, im_b2_s, pu_is hs.1, Option.bind_some, e0, im_b2_s]
    cases hq : pk_lead l k1 with
    | some j =>
      refine ⟨σ, ?_, ?_⟩
      · unfold pk_lead at hq
        rw [hq, if_pos (show 10 ≤ l.length ∨ (some j).isSome = true from Or.inr rfl)]
        rfl
      · rw [if_pos (show 10 ≤ l.length ∨ (some j).isSome = true from Or.inr rfl)]
    | none =>
      have nc : ¬ (10 ≤ l.length ∨ (none : Option Nat).isSome = true) := by simp; omega
      obtain ⟨σ1, e1, p1, f1⟩ := pp_append (F := F) (by omega) hs hl (by omega) po_f1 po_f2 (by omega) (by omega) (e := (k1, k2)) h1 h2 h3 h4
      obtain ⟨τ, e2, p2, f2⟩ := pt_clear (F := F) (σ := σ1) pt_typed
      have q2 := p1.fr f2 (fun x h1 h2 => by omega)
      refine ⟨τ, ?_, ?_⟩
      · unfold pk_lead at hq
        rw [hq, if_neg nc]
        simp only [Option.map_none, im_nul]
        rw [po_9, Option.bind_some, po_10, Option.bind_some, pu_is hs.1, Option.bind_some, e1, Option.bind_some, po_0, Option.bind_some, pu_is pt_typed.1, Option.bind_some, e2, Option.bind_some, pu_is hs.1, Option.bind_some, pp_count hs q2, im_b2_s, List.length_append]
        rfl
      · rw [if_neg nc]
        exact ⟨p2, q2, (f1.mono (fun x hx => Or.inr (Or.inr hx))).tr (f2.mono (fun x hx => by omega))⟩
theorem po_pair (hF : 100 ≤ F) (ht : pt_is σ 1 60 ty) (hal : pa_is σ al) (hal2 : pa_lw al) (hk : pp_is σ 12 lk) (ha : pp_is σ 75 pa) (par : Bool) (hfm : ∀ a b rd, pr_cut ty a b = .inr rd → (pr_form al rd).length ≤ 30) (herr : ∀ a b e, b ≤ ty.length → pr_cut ty a b = .inl e → e < 2 ^ 31) : ∃ τ, sh_LT_pair F 0 (pb_b par) (pu_mk σ) = some ((pk_pair ty al (if par then pa else lk) par).1, pu_mk τ) ∧ pu_fr (fun x => x = 1 ∨ x = 2 ∨ (5 ≤ x ∧ x ≤ 7) ∨ ((if par then 75 else 12) ≤ x ∧ x < (if par then 75 else 12) + 63) ∨ (240 ≤ x ∧ x ≤ 245)) σ τ ∧ (match (pk_pair ty al (if par then pa else lk) par).2 with
    | none => pt_is τ 1 60 ty ∧ pp_is τ (if par then 75 else 12) (if par then pa else lk)
    | some e => pt_is τ 1 60 [] ∧ pp_is τ (if par then 75 else 12) ((if par then pa else lk) ++ [e])) := by
  have hl := ht.2.2.1
  have e61 : sh_Text_placeOf F 1 (61 : Int32) (pu_mk σ) = some (match ty.findIdx? (· == 61) with
    | some j => nI j
    | none => -1, pu_mk σ) := pt_placeOf pt_typed ht (by omega) (c := 61) (by decide)
  have hpp : pp_is σ (if par then 75 else 12) (if par then pa else lk) := by cases par <;> assumption
  have hsk : pp_sk (if par then 75 else 12) := by cases par <;> first | exact pp_sk12 | exact pp_sk75
  have hb1 : 12 ≤ (if par then 75 else 12) ∧ (if par then 75 else 12) ≤ 75 := by cases par <;> decide
  generalize hL : (if par then pa else lk) = L at hpp ⊢
  generalize hP : (if par = true then 75 else 12) = P at hpp hsk hb1 ⊢
  unfold sh_LT_pair pk_pair
  rw [po_0, Option.bind_some, pu_is pt_typed.1, Option.bind_some, e61, im_b2_s]
  cases hm : ty.findIdx? (· == 61) with
  | none =>
    refine ⟨σ, ?_, pu_fr.rf, ht, hpp⟩
    rw [if_pos (by decide)]
    rfl
  | some m =>
    have hml : m < ty.length := (List.findIdx?_eq_some_iff_getElem.mp hm).1
    simp only
    obtain ⟨σ1, e1, f1, r1⟩ := po_readPlain (F := F) hF ht hal hal2 po_f1 (by decide) (Nat.zero_le m) (by omega) (hfm 0 m) (fun e => herr 0 m e (by omega))
    have t1 := ht.fr f1 (by omega) (by omega)
    have a1 := hal.fr f1 (fun x h1 h2 => by omega)
    have l1 := hpp.fr f1 (fun x h1 h2 => by omega)
    have F1 := f1.mono (T := fun x => x = 1 ∨ x = 2 ∨ (5 ≤ x ∧ x ≤ 7) ∨ (P ≤ x ∧ x < P + 63) ∨ (240 ≤ x ∧ x ≤ 245)) (fun x hx => by omega)
    rw [nI_0] at e1
    rw [if_neg (nI_pos (show m < 2 ^ 31 by omega)), po_9, Option.bind_some, pu_is po_sk, Option.bind_some, e1, im_b2_s]
    cases hk1 : pk_plain ty al 0 m with
    | none =>
      refine ⟨σ1, ?_, F1, t1, l1⟩
      rw [if_pos (show pb_b (none : Option pc_C).isSome = 0 from rfl)]
      rfl
    | some k1 =>
      obtain ⟨u1, u2⟩ := r1 k1 hk1
      obtain ⟨σ2, e2, f2, r2⟩ := po_readPlain (F := F) hF t1 a1 hal2 po_f2 (by decide) (show m + 1 ≤ ty.length by omega) (Nat.le_refl _) (hfm (m + 1) _) (fun e => herr (m + 1) _ e (by omega))
      have t2 := t1.fr f2 (by omega) (by omega)
      have l2 := l1.fr f2 (fun x h1 h2 => by omega)
      have v1 := u1.fr f2 (by omega) (by omega)
      have v2 := u2.fr f2 (by omega)
      have F2 := F1.tr (f2.mono (fun x hx => by omega))
      rw [Option.isSome_some, if_neg (show ¬ pb_b true = 0 by decide), po_10, Option.bind_some, po_0, Option.bind_some, pu_is pt_typed.1, Option.bind_some, pt_length pt_typed t1, im_b2_s, pu_is po_sk, Option.bind_some, nI_1, e2, im_b2_s]
      cases hk2 : pk_plain ty al (m + 1) ty.length with
      | none =>
        refine ⟨σ2, ?_, F2, t2, l2⟩
        rw [if_pos (show pb_b (none : Option pc_C).isSome = 0 from rfl)]
        rfl
      | some k2 =>
        obtain ⟨w1, w2⟩ := r2 k2 hk2
        rw [Option.isSome_some, if_neg (show ¬ pb_b true = 0 by decide)]
        simp only
        have fin : pk_suit par k1 k2 = true → ∃ τ, sh_LT_pair_114 F 0 (pb_b par) (1 : Int32) (pu_mk σ2) = some ((if 10 ≤ L.length ∨ (pk_lead L k1).isSome = true then ((-2 : Int32), (none : Option pp_E)) else (nI (L.length + 1), some (k1, k2))).1, pu_mk τ) ∧ pu_fr (fun x => x = 1 ∨ x = 2 ∨ (5 ≤ x ∧ x ≤ 7) ∨ (P ≤ x ∧ x < P + 63) ∨ (240 ≤ x ∧ x ≤ 245)) σ τ ∧ (match (if 10 ≤ L.length ∨ (pk_lead L k1).isSome = true then ((-2 : Int32), (none : Option pp_E)) else (nI (L.length + 1), some (k1, k2))).2 with
            | none => pt_is τ 1 60 ty ∧ pp_is τ P L
            | some e => pt_is τ 1 60 [] ∧ pp_is τ P (L ++ [e])) := by
          intro _
          obtain ⟨τ, e3, c3⟩ := po_pair_136 (F := F) hF hsk hb1.1 hb1.2 l2 v1 v2 w1 w2
          have e4 : sh_LT_pair_114 F 0 (pb_b par) (1 : Int32) (pu_mk σ2) = sh_LT_pair_136 F 0 P (pu_mk σ2) := by
            unfold sh_LT_pair_114
            rw [if_neg (show ¬ (1 : Int32) = 0 by decide)]
            subst hP
            cases par
            · rw [if_pos (show pb_b false = 0 from rfl), po_4, Option.bind_some]
              rfl
            · rw [if_neg (show ¬ pb_b true = 0 by decide), po_5, Option.bind_some]
              rfl
          refine ⟨τ, ?_, ?_⟩
          · rw [e4, e3]
            split <;> rfl
          · by_cases c : 10 ≤ L.length ∨ (pk_lead L k1).isSome = true
            · rw [if_pos c] at c3 ⊢
              subst c3
              exact ⟨F2, t2, l2⟩
            · rw [if_neg c] at c3 ⊢
              obtain ⟨c4, c5, c6⟩ := c3
              exact ⟨F2.tr (c6.mono (fun x hx => by omega)), c4, c5⟩
        have bad : pk_suit par k1 k2 = false → ∀ (X : Int32 × Option pp_E), ∃ τ, sh_LT_pair_114 F 0 (pb_b par) (0 : Int32) (pu_mk σ2) = some ((if pk_suit par k1 k2 = true then X else ((-1 : Int32), (none : Option pp_E))).1, pu_mk τ) ∧ pu_fr (fun x => x = 1 ∨ x = 2 ∨ (5 ≤ x ∧ x ≤ 7) ∨ (P ≤ x ∧ x < P + 63) ∨ (240 ≤ x ∧ x ≤ 245)) σ τ ∧ (match (if pk_suit par k1 k2 = true then X else ((-1 : Int32), (none : Option pp_E))).2 with
            | none => pt_is τ 1 60 ty ∧ pp_is τ P L
            | some e => pt_is τ 1 60 [] ∧ pp_is τ P (L ++ [e])) := by
          intro hb X
          rw [hb]
          refine ⟨σ2, ?_, F2, t2, l2⟩
          unfold sh_LT_pair_114
          rw [if_pos rfl]
          rfl
        cases par with
        | false =>
          rw [if_pos (show pb_b false = 0 from rfl), po_10, Option.bind_some, pf_g0 po_f2, Option.bind_some, pu_is po_f2.2.1, Option.bind_some, pc_hasScript po_f2.2.1 w2, im_b2_s]
          by_cases s1 : k2.2.1 = []
          · have hb : pk_suit false k1 k2 = false := by simp [pk_suit, s1]
            rw [if_pos (show pb_b (decide (¬ k2.2.1 = [])) = 0 by rw [pb_b0]; simp [s1])]
            exact bad hb _
          · rw [if_neg (show ¬ pb_b (decide (¬ k2.2.1 = [])) = 0 by rw [pb_b0]; simp [s1]), po_10, Option.bind_some, pf_g0 po_f2, Option.bind_some, pu_is po_f2.2.1, Option.bind_some, pc_hasRegion po_f2.2.1 w2, im_b2_s]
            by_cases s2 : k2.2.2 = []
            · have hb : pk_suit false k1 k2 = false := by simp [pk_suit, s2]
              rw [if_pos (show pb_b (decide (¬ k2.2.2 = [])) = 0 by rw [pb_b0]; simp [s2])]
              exact bad hb _
            · have hg : pk_suit false k1 k2 = true := by simp [pk_suit, s1, s2]
              rw [if_neg (show ¬ pb_b (decide (¬ k2.2.2 = [])) = 0 by rw [pb_b0]; simp [s2]), hg]
              exact fin hg
        | true =>
          have e5 := pf_isStartOf (F := F) po_f1 po_f2 v1 w1 (Nat.le_refl _) (by have := v1.2.2.1; omega)
          rw [List.take_length] at e5
          rw [if_neg (show ¬ pb_b true = 0 by decide), po_9, Option.bind_some, po_10, Option.bind_some, Option.bind_some, pu_is po_f2.1, Option.bind_some, pf_count po_f2 w1, im_b2_s, pu_is po_f1.1, Option.bind_some, e5, im_b2_s]
          by_cases s1 : pc_list k1 = pc_list k2
          · have hb : pk_suit true k1 k2 = false := by simp [pk_suit, s1]
            rw [if_neg (show ¬ pb_b (decide (pc_list k1 = pc_list k2)) = 0 by rw [pb_b0]; simp [s1])]
            exact bad hb _
          · have hg : pk_suit true k1 k2 = true := by simp [pk_suit, s1]
            rw [if_pos (show pb_b (decide (pc_list k1 = pc_list k2)) = 0 by rw [pb_b0]; simp [s1]), hg]
            exact fin hg
end PAI
