/-! the form of what was cut -/
def pb_lw (s : List Nat) : Prop := s.length ≤ 8 ∧ ∀ c ∈ s, (48 ≤ c ∧ c ≤ 57) ∨ (97 ≤ c ∧ c ≤ 122)
theorem pb_lw.ok {s : List Nat} (h : pb_lw s) : pb_ok s := ⟨h.1, fun c hc => by have := h.2 c hc; omega⟩
theorem pb_lw0 : pb_lw [] := ⟨by simp, by simp⟩
theorem pt_cut_lw (s : List Nat) : pb_lw (pt_cut s) := by
  unfold pt_cut
  split
  · rename_i h
    refine ⟨by simpa using h.2.1, fun c hc => ?_⟩
    obtain ⟨d, hd, rfl⟩ := List.mem_map.mp hc
    have := List.all_eq_true.mp h.2.2 d hd
    simp [pb_isA, pb_isL, pb_isD] at this
    unfold pt_low
    split <;> omega
  · exact pb_lw0
def pb_title (s : List Nat) : List Nat := match s with
  | [] => []
  | c :: l => pb_up c :: l
def pb_caps (s : List Nat) : List Nat := if s.countP pb_isL = 0 then s else s.map pb_up
theorem pb_up_a : ∀ c, c < 128 → (48 ≤ c ∧ c ≤ 57) ∨ (97 ≤ c ∧ c ≤ 122) → 1 ≤ pb_up c ∧ pb_up c < 128 := by decide +kernel
theorem pb_up_ok {c : Nat} (h : (48 ≤ c ∧ c ≤ 57) ∨ (97 ≤ c ∧ c ≤ 122)) : 1 ≤ pb_up c ∧ pb_up c < 128 := pb_up_a c (by omega) h
theorem pb_title_ok {s : List Nat} (h : pb_lw s) : pb_ok (pb_title s) := by
  cases s with
  | nil => exact pb_ok0
  | cons c l =>
    refine ⟨h.1, fun d hd => ?_⟩
    rcases List.mem_cons.mp hd with rfl | hd
    · exact pb_up_ok (h.2 c List.mem_cons_self)
    · exact h.ok.2 d (List.mem_cons_of_mem _ hd)
theorem pb_caps_ok {s : List Nat} (h : pb_lw s) : pb_ok (pb_caps s) := by
  unfold pb_caps
  split
  · exact h.ok
  · refine ⟨by simpa using h.1, fun d hd => ?_⟩
    obtain ⟨c, hc, rfl⟩ := List.mem_map.mp hd
    exact pb_up_ok (h.2 c hc)
theorem pb_titled {F : Nat} {s : List Nat} (h : pb_lw s) (w : im_W) : sh_Subtag_titled F (pb_l s) w = some (pb_l (pb_title s), w) := by
  cases s with
  | nil =>
    have e : pb_l [] &&& (-2305843009213693953 : Int64) = pb_l [] := by decide
    simp only [sh_Subtag_titled, e, pb_title]
  | cons c l => simp only [sh_Subtag_titled, pb_capF h.ok, pb_title]
theorem pb_capitals {F : Nat} (hF : 9 ≤ F) {s : List Nat} (h : pb_lw s) (w : im_W) : sh_Subtag_capitals F (pb_l s) w = some (pb_l (pb_caps s), w) := by
  obtain ⟨h1, h2⟩ := pb_cn s h.ok
  simp only [sh_Subtag_capitals, sh_Subtag_capitals_16, pb_letters hF h.ok, im_b2, pb_n0 h1, pb_capA h.ok, pb_caps]
  split <;> rfl
def pa_lw (al : List pa_E) : Prop := ∀ a ∈ al, pb_lw a.2.1 ∧ pb_lw a.2.2
theorem pa_rep_lw {al : List pa_E} (h : pa_lw al) (r : Bool) : ∀ (n : Nat) (s : List Nat), pb_lw s → pb_lw (pa_rep al r n s) := by
  intro n
  induction n with
  | zero => intro s hs; exact hs
  | succ n ih =>
    intro s hs
    unfold pa_rep
    cases hf : al.find? (pa_m s r) with
    | none => exact hs
    | some a => exact ih _ (h a (List.mem_of_find?_eq_some hf)).2
def pr_lwl (rd : List pr_E) : Prop := ∀ e ∈ rd, pb_lw e.2
theorem pr_part_lw {rd : List pr_E} (h : pr_lwl rd) (q : Nat) : pb_lw (pr_part rd q) := by
  unfold pr_part
  split
  · rename_i e he
    exact h e (List.mem_of_find?_eq_some he)
  · exact pb_lw0
theorem pr_run_lw : ∀ (ss : List (List Nat)) (off q : Nat) (rd rd' : List pr_E), pr_lwl rd → pr_run ss off q rd = .inr rd' → pr_lwl rd' := by
  intro ss
  induction ss with
  | nil =>
    intro off q rd rd' h e
    unfold pr_run at e
    split at e
    · cases e
    · cases e
      exact h
  | cons s ss ih =>
    intro off q rd rd' h e
    unfold pr_run at e
    split at e
    · cases e
    · refine ih _ _ _ rd' (fun x hx => ?_) e
      rcases List.mem_append.mp hx with hx | hx
      · exact h x hx
      · simp at hx
        rw [hx]
        exact pt_cut_lw s
theorem pr_cut_lw {ty : List Nat} {a b : Nat} {rd : List pr_E} (h : pr_cut ty a b = .inr rd) : pr_lwl rd := pr_run_lw _ _ _ [] rd (fun e he => by cases he) h
def pr_core (al : List pa_E) (rd : List pr_E) : pc_C := (pa_rep al false al.length (pr_part rd 1), pb_title (pr_part rd 2), pb_caps (pa_rep al true al.length (pr_part rd 3)))
def pr_form (al : List pa_E) (rd : List pr_E) : List (List Nat) := pc_list (pr_core al rd) ++ pr_out rd 4 rd.length 0 ++ (if pr_part rd 5 = [] then [] else [117] :: pr_out rd 6 rd.length 0) ++ pr_priv rd
section FFM
variable {F r f n : Nat} {σ : pu_S} {rd : List pr_E} {al : List pa_E}
theorem pr_core_ok (hal : pa_lw al) (hrd : pr_lwl rd) : pc_ok (pr_core al rd) :=
  ⟨(pa_rep_lw hal false _ _ (pr_part_lw hrd 1)).ok, pb_title_ok (pr_part_lw hrd 2), pb_caps_ok (pa_rep_lw hal true _ _ (pr_part_lw hrd 3))⟩
theorem pr_fillForm (hF : 40 ≤ F) (hr : pr_sk r) (hf : pf_sk f n) (hd : r + 2 < f) (hfa : 12 ≤ f) (hp : pr_is σ r rd) (hal : pa_is σ al) (hal2 : pa_lw al) (hrd : pr_lwl rd) (hn3 : 3 ≤ n) (hn : (pr_form al rd).length ≤ n) : ∃ τ, sh_Reader_fillForm F r f 8 (pu_mk σ) = some (pu_mk τ) ∧ pf_is τ f n (pr_form al rd) ∧ pc_is τ (f + 1) (pr_core al rd) ∧ pu_fr (fun x => x = f ∨ x = f + 1 ∨ x = f + 2) σ τ := by
  have hn : (pc_list (pr_core al rd)).length + (pr_out rd 4 rd.length 0).length + (if pr_part rd 5 = [] then [] else [117] :: pr_out rd 6 rd.length 0).length + (pr_priv rd).length ≤ n := by
    simpa only [pr_form, List.length_append] using hn
  have a1 : sh_Reader_partWith F r (1 : Int32) (pu_mk σ) = some (pb_l (pr_part rd 1), pu_mk σ) := pr_partWith (show 31 ≤ F by omega) hr hp (q := 1) (by decide)
  have a2 : sh_Reader_partWith F r (2 : Int32) (pu_mk σ) = some (pb_l (pr_part rd 2), pu_mk σ) := pr_partWith (show 31 ≤ F by omega) hr hp (q := 2) (by decide)
  have a3 : sh_Reader_partWith F r (3 : Int32) (pu_mk σ) = some (pb_l (pr_part rd 3), pu_mk σ) := pr_partWith (show 31 ≤ F by omega) hr hp (q := 3) (by decide)
  have b1 : sh_Aliases_replaced F 8 (pb_l (pr_part rd 1)) (0 : Int32) (pu_mk σ) = some (pb_l (pr_core al rd).1, pu_mk σ) := pa_replaced hal (show 9 ≤ F by omega) false (pr_part_lw hrd 1).ok
  have b3 : sh_Aliases_replaced F 8 (pb_l (pr_part rd 3)) (1 : Int32) (pu_mk σ) = some (pb_l (pa_rep al true al.length (pr_part rd 3)), pu_mk σ) := pa_replaced hal (show 9 ≤ F by omega) true (pr_part_lw hrd 3).ok
  have c2 : sh_Subtag_titled F (pb_l (pr_part rd 2)) (pu_mk σ) = some (pb_l (pr_core al rd).2.1, pu_mk σ) := pb_titled (pr_part_lw hrd 2) _
  have c3 : sh_Subtag_capitals F (pb_l (pa_rep al true al.length (pr_part rd 3))) (pu_mk σ) = some (pb_l (pr_core al rd).2.2, pu_mk σ) := pb_capitals (show 9 ≤ F by omega) (pa_rep_lw hal2 true _ _ (pr_part_lw hrd 3)) _
  obtain ⟨σ1, e1, p1, k1, f1⟩ := pf_begin (F := F) (σ := σ) hf (pr_core_ok hal2 hrd) hn3
  have hp1 := hp.fr f1 (by omega) (by omega) (by omega)
  obtain ⟨σ2, e2, p2, f2⟩ := pr_addInOrder (F := F) hF hr hf hd (q := 4) (by decide) hp1 p1 (by omega)
  have e2 : sh_Reader_addInOrder F r f (4 : Int32) (pu_mk σ1) = some (pu_mk σ2) := e2
  have hp2 := hp1.fr f2 (by omega) (by omega) (by omega)
  have k2 := k1.fr f2 (by omega)
  have a5 : sh_Reader_partWith F r (5 : Int32) (pu_mk σ2) = some (pb_l (pr_part rd 5), pu_mk σ2) := pr_partWith (show 31 ≤ F by omega) hr hp2 (q := 5) (by decide)
  have fin : ∀ (υ : pu_S) (qs : List (List Nat)), pr_is υ r rd → pf_is υ f n qs → pc_is υ (f + 1) (pr_core al rd) → qs.length + (pr_priv rd).length ≤ n → ∃ τ, sh_Reader_fillForm_75 F r f (pu_mk υ) = some (pu_mk τ) ∧ pf_is τ f n (qs ++ pr_priv rd) ∧ pc_is τ (f + 1) (pr_core al rd) ∧ pu_fr (fun x => x = f ∨ x = f + 2) υ τ := by
    intro υ qs a b c d
    obtain ⟨τ, e, p, fr⟩ := pr_addPrivate (F := F) hF hr hf hd a b d
    exact ⟨τ, by simp only [sh_Reader_fillForm_75, pu_is hr.1, Option.bind_some, e], p, c.fr fr (by omega), fr⟩
  have e0 : sh_Reader_fillForm F r f 8 (pu_mk σ) = (if lg_cmp (pb_l (pr_part rd 5)) 0 = 0 then sh_Reader_fillForm_75 F r f (pu_mk σ2) else (sh_Form_append F f (pb_l [117]) (pu_mk σ2)).bind fun w65 => (im_is w65 5 r).bind fun u67 => (sh_Reader_addInOrder F r f (6 : Int32) w65).bind fun w71 => sh_Reader_fillForm_75 F r f w71) := by
    unfold sh_Reader_fillForm
    rw [pu_is hr.1, Option.bind_some, a1, im_b2_s, pu_is pa_s, Option.bind_some, b1, im_b2_s, pu_is hr.1, Option.bind_some, a2, im_b2_s, c2, im_b2_s, pu_is hr.1, Option.bind_some, a3, im_b2_s, pu_is pa_s, Option.bind_some, b3, im_b2_s, c3, im_b2_s, pu_is hf.1, Option.bind_some, e1, Option.bind_some, pu_is hr.1, Option.bind_some, e2, Option.bind_some, pu_is hr.1, Option.bind_some, a5, im_b2_s, pu_is hf.1, Option.bind_some, pr_u]
  have fr2 : pu_fr (fun x => x = f ∨ x = f + 1 ∨ x = f + 2) σ σ2 := f1.tr (f2.mono (fun x hx => by omega))
  rw [e0]
  have h5 : lg_cmp (pb_l (pr_part rd 5)) 0 = 0 ↔ pr_part rd 5 = [] := (lg_cmp_eq _ _).trans (pb_l_0 (pr_part_lw hrd 5).ok)
  by_cases h : pr_part rd 5 = []
  · obtain ⟨τ, e, p, k, fr⟩ := fin σ2 _ hp2 p2 k2 (by simp only [h, if_true, List.length_nil] at hn; simp only [List.length_append]; omega)
    refine ⟨τ, ?_, ?_, k, fr2.tr (fr.mono (fun x hx => by omega))⟩
    · rw [if_pos (h5.mpr h)]
      exact e
    · unfold pr_form
      rw [if_pos h, List.append_nil]
      exact p
  · rw [if_neg h] at hn
    simp only [List.length_cons] at hn
    obtain ⟨σ3, e3, p3, f3⟩ := pf_append (F := F) hf p2 pr_uok (by simp only [List.length_append]; omega)
    have hp3 := hp2.fr f3 (by omega) (by omega) (by omega)
    obtain ⟨σ4, e4, p4, f4⟩ := pr_addInOrder (F := F) hF hr hf hd (q := 6) (by decide) hp3 p3 (by simp only [List.length_append, List.length_cons, List.length_nil]; omega)
    have e4 : sh_Reader_addInOrder F r f (6 : Int32) (pu_mk σ3) = some (pu_mk σ4) := e4
    obtain ⟨τ, e, p, k, fr⟩ := fin σ4 _ (hp3.fr f4 (by omega) (by omega) (by omega)) p4 ((k2.fr f3 (by omega)).fr f4 (by omega)) (by simp only [List.length_append, List.length_cons, List.length_nil]; omega)
    refine ⟨τ, ?_, ?_, k, ((fr2.tr (f3.mono (fun x hx => by omega))).tr (f4.mono (fun x hx => by omega))).tr (fr.mono (fun x hx => by omega))⟩
    · rw [if_neg (fun z => h (h5.mp z)), e3, Option.bind_some, pu_is hr.1, Option.bind_some, e4, Option.bind_some]
      exact e
    · unfold pr_form
      rw [if_neg h]
      have e9 : pc_list (pr_core al rd) ++ pr_out rd 4 rd.length 0 ++ [[117]] ++ pr_out rd 6 rd.length 0 ++ pr_priv rd = pc_list (pr_core al rd) ++ pr_out rd 4 rd.length 0 ++ [117] :: pr_out rd 6 rd.length 0 ++ pr_priv rd := by
        simp only [List.append_assoc, List.cons_append, List.nil_append]
      rw [e9] at p
      exact p
end FFM
