/-! alias, read -/
theorem pt_put_len (l s : List Nat) : (pt_put l s).length ≤ l.length + 1 + s.length := by
  unfold pt_put
  split
  · simp
  · simp
    omega
theorem pf_text3 {k : pc_C} (hk : pc_ok k) : (pf_text [] (pc_list k)).length ≤ 62 := by
  have a := hk.1.1
  have b := hk.2.1.1
  have c := hk.2.2.1
  unfold pf_text pc_list
  have p1 := pt_put_len [] k.1
  have p2 := pt_put_len (pt_put [] k.1) k.2.1
  have p3 := pt_put_len (pt_put [] k.1) k.2.2
  have p4 := pt_put_len (pt_put (pt_put [] k.1) k.2.1) k.2.2
  have p0 : ([] : List Nat).length = 0 := rfl
  by_cases h1 : k.2.1 = [] <;> by_cases h2 : k.2.2 = [] <;> simp only [h1, h2, if_true, if_false, List.append_nil, List.cons_append, List.nil_append, List.foldl_cons, List.foldl_nil] <;> omega
def pk_part (r : Bool) (s : List Nat) : Bool := if r = true then pb_region s else pb_lang s
def pk_fixed (tg : List pg_E) (lk pa : List pp_E) : Bool := decide (0 < tg.length ∨ 0 < lk.length ∨ 0 < pa.length)
section ALR
variable {F : Nat} {σ : pu_S} {ty sh : List Nat} {al : List pa_E} {lk pa : List pp_E} {tg : List pg_E} {su : List Nat} {pl : Int32}
theorem po_isAliasPart (hF : 9 ≤ F) {s : List Nat} (hs : pb_ok s) (r : Bool) (w : im_W) : sh_LT_isAliasPart F (pb_l s) (pb_b r) w = some (pb_b (pk_part r s), w) := by
  unfold sh_LT_isAliasPart sh_LT_isAliasPart_15
  cases r with
  | false =>
    rw [if_pos (show pb_b false = 0 from rfl), pb_isLanguage hF hs, im_b2_s, pb_rz]
    rfl
  | true =>
    rw [if_neg (show ¬ pb_b true = 0 by decide), pb_isRegion hF hs, im_b2_s, pb_rz]
    rfl
theorem po_formsAreFixed (hk : pp_is σ 12 lk) (ha : pp_is σ 75 pa) (hp : pk_is σ tg su pl) : sh_LT_formsAreFixed F 0 (pu_mk σ) = some (pb_b (pk_fixed tg lk pa), pu_mk σ) := by
  have hl := hp.2.1
  have hl2 := hk.2.1
  have hl3 := ha.2.1
  have h1 : 0 < nI tg.length ↔ 0 < tg.length := nI_ltI (a := 0) (by decide) (by omega)
  have h2 : 0 < nI lk.length ↔ 0 < lk.length := nI_ltI (a := 0) (by decide) (by omega)
  have h3 : nI pa.length ≤ 0 ↔ pa.length ≤ 0 := nI_leI (b := 0) (by omega) (by decide)
  unfold sh_LT_formsAreFixed sh_LT_formsAreFixed_27 sh_LT_formsAreFixed_32
  rw [po_13, Option.bind_some, hp.1, po_4, Option.bind_some, pu_is pp_sk12.1, Option.bind_some, pp_count pp_sk12 hk, im_b2_s, po_5, Option.bind_some, pu_is pp_sk75.1, Option.bind_some, pp_count pp_sk75 ha, im_b2_s, pb_rz0, pb_rz1]
  simp only [h1, h2, h3, pk_fixed]
  by_cases a : 0 < tg.length
  · simp [a, pb_b]
  · by_cases b : 0 < lk.length
    · simp [a, b, pb_b]
    · by_cases c : pa.length ≤ 0
      · have : ¬ 0 < pa.length := by omega
        simp [a, b, c, this, pb_b]
      · have : 0 < pa.length := by omega
        simp [a, b, c, this, pb_b]
/-- what an alias call answers, and the aliases behind it -/
def pk_alias (ty : List Nat) (al : List pa_E) (fixed r : Bool) : Int32 × Option (List pa_E) :=
  match ty.findIdx? (· == 61) with
  | none => (-1, none)
  | some m =>
    if pk_part r (pt_cut (ty.take m)) = false ∨ pk_part r (pt_cut (ty.drop (m + 1))) = false ∨ pt_cut (ty.take m) = pt_cut (ty.drop (m + 1)) then (-1, none)
    else if fixed = true ∨ 8 ≤ al.length then (-2, none)
    else if (al.findIdx? (pa_m (pt_cut (ty.take m)) r)).isSome = true ∨ pa_rep al r al.length (pt_cut (ty.drop (m + 1))) = pt_cut (ty.take m) then (-3, none)
    else (nI (al.length + 1), some (al ++ [(r, pt_cut (ty.take m), pt_cut (ty.drop (m + 1)))]))
theorem po_alias (hF : 100 ≤ F) (ht : pt_is σ 1 60 ty) (hal : pa_is σ al) (hk : pp_is σ 12 lk) (ha : pp_is σ 75 pa) (hp : pk_is σ tg su pl) (r : Bool) : ∃ τ, sh_LT_alias F 0 (pb_b r) (pu_mk σ) = some ((pk_alias ty al (pk_fixed tg lk pa) r).1, pu_mk τ) ∧ (match (pk_alias ty al (pk_fixed tg lk pa) r).2 with
    | none => τ = σ
    | some al' => pt_is τ 1 60 [] ∧ pa_is τ al' ∧ pu_fr (fun x => x = 1 ∨ x = 2 ∨ (8 ≤ x ∧ x ≤ 11)) σ τ) := by
  have hl := ht.2.2.1
  have e61 : sh_Text_placeOf F 1 (61 : Int32) (pu_mk σ) = some (match ty.findIdx? (· == 61) with
    | some j => nI j
    | none => -1, pu_mk σ) := pt_placeOf pt_typed ht (by omega) (c := 61) (by decide)
  unfold sh_LT_alias sh_LT_alias_69 sh_LT_alias_88 sh_LT_alias_118 pk_alias
  rw [po_0, Option.bind_some, pu_is pt_typed.1, Option.bind_some, e61, im_b2_s]
  cases hm : ty.findIdx? (· == 61) with
  | none =>
    refine ⟨σ, ?_, rfl⟩
    rw [if_neg (by decide)]
  | some m =>
    have hml : m < ty.length := (List.findIdx?_eq_some_iff_getElem.mp hm).1
    have h0 : (0 : Int32) ≤ nI m := nI_pos' (by omega)
    have c1 : sh_Subtag_cutOut F 1 0 (nI m) (pu_mk σ) = some (pb_l (pt_cut (ty.take m)), pu_mk σ) := by
      have := pt_cutOut (F := F) pt_typed ht (by omega) (show 0 ≤ m by omega) (show m ≤ ty.length by omega)
      rw [nI_0] at this
      simpa using this
    have c2 : sh_Subtag_cutOut F 1 (nI (m + 1)) (nI ty.length) (pu_mk σ) = some (pb_l (pt_cut (ty.drop (m + 1))), pu_mk σ) := by
      have := pt_cutOut (F := F) pt_typed ht (by omega) (show m + 1 ≤ ty.length by omega) (show ty.length ≤ ty.length by omega)
      rw [this]
      congr 4
      exact List.take_of_length_le (by simp)
    have o1 := pt_cut_ok (ty.take m)
    have o2 := pt_cut_ok (ty.drop (m + 1))
    simp only
    generalize pt_cut (ty.take m) = s1 at c1 o1 ⊢
    generalize pt_cut (ty.drop (m + 1)) = s2 at c2 o2 ⊢
    rw [if_pos h0, po_0, Option.bind_some, c1, im_b2_s, po_0, Option.bind_some, Option.bind_some, pu_is pt_typed.1, Option.bind_some, pt_length pt_typed ht, im_b2_s, nI_1, c2, im_b2_s, po_isAliasPart (by omega) o1, im_b2_s, po_isAliasPart (by omega) o2, im_b2_s]
    by_cases p1 : pk_part r s1 = false
    · refine ⟨σ, ?_, ?_⟩
      · rw [p1, if_pos (show pb_b false = 0 from rfl), if_pos (Or.inl rfl)]
      · rw [if_pos (Or.inl p1)]
    · have p1 : pk_part r s1 = true := by simpa using p1
      rw [p1, if_neg (show ¬ pb_b true = 0 by decide)]
      by_cases p2 : pk_part r s2 = false
      · refine ⟨σ, ?_, ?_⟩
        · rw [p2, if_pos (show pb_b false = 0 from rfl), if_pos (Or.inr (Or.inl rfl))]
        · rw [if_pos (Or.inr (Or.inl p2))]
      · have p2 : pk_part r s2 = true := by simpa using p2
        have hq : lg_cmp (pb_l s1) (pb_l s2) = 0 ↔ s1 = s2 := (lg_cmp_eq _ _).trans (pb_l_inj o1 o2)
        rw [p2, if_neg (show ¬ pb_b true = 0 by decide)]
        by_cases p3 : s1 = s2
        · refine ⟨σ, ?_, ?_⟩
          · rw [if_pos (hq.mpr p3), if_pos (Or.inr (Or.inr p3))]
          · rw [if_pos (Or.inr (Or.inr p3))]
        · have pn : ¬ (true = false ∨ true = false ∨ s1 = s2) := by simp [p3]
          rw [if_neg (fun q => p3 (hq.mp q)), pu_is po_sk, Option.bind_some, po_formsAreFixed hk ha hp, im_b2_s, po_3, Option.bind_some, pu_is pa_s, Option.bind_some, pa_isFull hal, im_b2_s, if_neg pn]
          by_cases p4 : pk_fixed tg lk pa = true
          · refine ⟨σ, ?_, ?_⟩
            · rw [p4, if_neg (show ¬ pb_b true = 0 by decide), if_pos (Or.inl rfl)]
            · rw [if_pos (Or.inl p4)]
          · have p4 : pk_fixed tg lk pa = false := by simpa using p4
            rw [p4, if_pos (show pb_b false = 0 from rfl)]
            by_cases p5 : 8 ≤ al.length
            · refine ⟨σ, ?_, ?_⟩
              · rw [if_neg (by rw [pb_dist]; exact fun q => q p5), if_pos (Or.inr p5)]
              · rw [if_pos (Or.inr p5)]
            · have pn5 : ¬ (false = true ∨ 8 ≤ al.length) := by simp; omega
              rw [if_pos (by rw [pb_dist]; exact p5), po_3, Option.bind_some, pu_is pa_s, Option.bind_some, pa_indexOf hal (by omega) o1 r, im_b2_s, if_neg pn5]
              cases hfi : al.findIdx? (pa_m s1 r) with
              | some j =>
                have hj : j < al.length := (List.findIdx?_eq_some_iff_getElem.mp hfi).1
                refine ⟨σ, ?_, ?_⟩
                · rw [if_pos (show (0 : Int32) ≤ nI j from nI_pos' (by omega)), if_pos (show (some j).isSome = true ∨ pa_rep al r al.length s2 = s1 from Or.inl rfl)]
                · rw [if_pos (show (some j).isSome = true ∨ pa_rep al r al.length s2 = s1 from Or.inl rfl)]
              | none =>
                have orep := pa_rep_ok hal.2.2.2 r al.length s2 o2
                have hq2 : lg_cmp (pb_l (pa_rep al r al.length s2)) (pb_l s1) = 0 ↔ pa_rep al r al.length s2 = s1 := (lg_cmp_eq _ _).trans (pb_l_inj orep o1)
                rw [if_neg (show ¬ (0 : Int32) ≤ -1 by decide), po_3, Option.bind_some, pu_is pa_s, Option.bind_some, pa_replaced hal (by omega) r o2, im_b2_s]
                by_cases p6 : pa_rep al r al.length s2 = s1
                · refine ⟨σ, ?_, ?_⟩
                  · rw [if_pos (hq2.mpr p6), if_pos (Or.inr p6)]
                  · rw [if_pos (Or.inr p6)]
                · have pn6 : ¬ ((none : Option Nat).isSome = true ∨ pa_rep al r al.length s2 = s1) := by simp [p6]
                  obtain ⟨σ1, e1, a1, f1⟩ := pa_append (F := F) hal (a := (r, s1, s2)) ⟨o1, o2⟩ (by omega)
                  obtain ⟨σ2, e2, t2, f2⟩ := pt_clear (F := F) (σ := σ1) pt_typed
                  have a2 := a1.fr f2 (fun x h1 h2 => by omega)
                  have e1 : sh_Aliases_append F 8 (pb_l s1) (pb_l s2) (pb_b r) (pu_mk σ) = some (pu_mk σ1) := e1
                  refine ⟨σ2, ?_, ?_⟩
                  · rw [if_neg (fun q => p6 (hq2.mp q)), po_3, Option.bind_some, pu_is pa_s, Option.bind_some, e1, Option.bind_some, po_0, Option.bind_some, pu_is pt_typed.1, Option.bind_some, e2, Option.bind_some, po_3, Option.bind_some, pu_is pa_s, Option.bind_some, pa_count a2, im_b2_s, if_neg pn6]
                    simp
                  · rw [if_neg pn6]
                    exact ⟨t2, a2, (f1.mono (fun x hx => by omega)).tr (f2.mono (fun x hx => by omega))⟩
end ALR
