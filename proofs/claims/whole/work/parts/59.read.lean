/-! read, pair -/
def pk_read (ty : List Nat) (al : List pa_E) (tg : List pg_E) : Int32 × Option (List pg_E) := match pr_cut ty 0 ty.length with
  | .inl e => (-1000 - nI e, none)
  | .inr rd => match pf_at? tg (pr_form al rd) with
    | some i => (nI i, some tg)
    | none => if 16 ≤ tg.length then (-1, none) else (nI tg.length, some (tg ++ [(pr_form al rd, pr_core al rd, fun _ => none)]))
theorem pc_list_n (k : pc_C) : (pc_list k).length = pc_n k := by
  unfold pc_list pc_n
  by_cases h1 : k.2.1 = [] <;> by_cases h2 : k.2.2 = [] <;> simp [h1, h2]
section REA
variable {F : Nat} {σ : pu_S} {ty sh : List Nat} {al : List pa_E} {lk pa : List pp_E} {tg : List pg_E} {su : List Nat} {pl : Int32}
theorem pk_add (hp : pk_is σ tg su pl) (hl : tg.length < 16) {τ : pu_S} {ps : List (List Nat)} {k : pc_C} (h1 : pf_is τ (144 + 6 * tg.length) 30 ps) (h2 : pc_is τ (144 + 6 * tg.length + 1) k) (hf : pu_fr (fun x => x = 144 + 6 * tg.length ∨ x = 144 + 6 * tg.length + 1 ∨ x = 144 + 6 * tg.length + 2) σ τ) : pk_is (pu_sI τ 0 13 (nI (tg.length + 1))) (tg ++ [(ps, k, fun _ => none)]) su pl := by
  have f2 : pu_fr (fun x => x = 0) τ (pu_sI τ 0 13 (nI (tg.length + 1))) := pu_fr.sI rfl
  have fr : pu_fr (fun x => x = 0 ∨ x = 144 + 6 * tg.length ∨ x = 144 + 6 * tg.length + 1 ∨ x = 144 + 6 * tg.length + 2) σ (pu_sI τ 0 13 (nI (tg.length + 1))) := (hf.mono (fun x hx => Or.inr hx)).tr (f2.mono (fun x hx => Or.inl hx))
  obtain ⟨a, b, c, d, e, f, g, i, j⟩ := hp
  refine ⟨by simp [pu_sI], by simp; omega, fun t ht => ?_, fun t h3 h4 => ?_, ?_, f, fun k hk => (fr 239 (by omega) k).2.2.1.trans (g k hk), fun t ht => ?_, ?_⟩
  · have ht : t < tg.length + 1 := by simpa using ht
    rw [pb_appG ht]
    by_cases htl : t = tg.length
    · subst htl
      rw [if_pos rfl]
      obtain ⟨n1, n2⟩ := d tg.length (by omega) hl
      have hd : decide (tg.length ∈ su) = false := by
        rw [decide_eq_false_iff_not]
        exact fun q => by have := i _ q; omega
      rw [hd]
      refine ⟨h1.fr f2 (by omega) (by omega), h2.fr f2 (by omega), ?_, fun x hx => ⟨?_, fun v hv => by cases hv⟩⟩
      · exact (fr _ (by omega) 3).1.trans n1
      · exact (fr _ (by omega) x).2.2.1.trans (n2 x hx)
    · rw [if_neg htl]
      exact (c t (by omega)).fr fr (fun x h5 h6 => by omega)
  · have h3 : tg.length + 1 ≤ t := by simpa using h3
    exact (d t (by omega) h4).fr fr (fun x h5 h6 => by omega)
  · simp only [pu_sI]
    rw [if_neg (by omega)]
    exact (hf 0 (by omega) 14).1.trans e
  · have := i t ht
    simp
    omega
  · simp only [pu_sI]
    rw [if_neg (by omega)]
    exact (hf 0 (by omega) 15).1.trans j
theorem po_read (hF : 100 ≤ F) (ht : pt_is σ 1 60 ty) (hal : pa_is σ al) (hal2 : pa_lw al) (hp : pk_is σ tg su pl) (hfm : ∀ rd, pr_cut ty 0 ty.length = .inr rd → (pr_form al rd).length ≤ 30) : ∃ τ, sh_LT_read F 0 (pu_mk σ) = some ((pk_read ty al tg).1, pu_mk τ) ∧ pu_fr (fun x => x = 0 ∨ x = 1 ∨ x = 2 ∨ (5 ≤ x ∧ x ≤ 7) ∨ (143 ≤ x ∧ x ≤ 242)) σ τ ∧ (match (pk_read ty al tg).2 with
    | none => pt_is τ 1 60 ty ∧ pk_is τ tg su pl
    | some tg' => pt_is τ 1 60 [] ∧ pk_is τ tg' su pl) := by
  have hl := hp.2.1
  have htl := ht.2.2.1
  have hF2 : ty.length + 3 ≤ F := by omega
  obtain ⟨σ1, v, e1, f1, m1⟩ := pr_cutTag (F := F) (σ := σ) (ty := ty) (a := 0) (by omega) pr_sk5 pt_typed (by decide) (Nat.zero_le _) (Nat.le_refl _) hF2 ht
  rw [nI_0] at e1
  have t1 := ht.fr f1 (by omega) (by omega)
  have a1 := hal.fr f1 (fun x h1 h2 => by omega)
  have p1 := hp.fr f1 (by omega) (fun x h1 h2 => by omega)
  have F1 := f1.mono (T := fun x => x = 0 ∨ x = 1 ∨ x = 2 ∨ (5 ≤ x ∧ x ≤ 7) ∨ (143 ≤ x ∧ x ≤ 242)) (fun x hx => by omega)
  unfold sh_LT_read
  rw [po_2, Option.bind_some, po_0, Option.bind_some, Option.bind_some, pu_is pt_typed.1, Option.bind_some, pt_length pt_typed ht, im_b2_s, pu_is pr_sk5.1, Option.bind_some, e1, im_b2_s]
  unfold pk_read
  cases hcut : pr_cut ty 0 ty.length with
  | inl e =>
    rw [hcut] at m1
    have m1 : v = nI e := m1
    have he : e < 2 ^ 31 := by
      rcases Nat.lt_or_ge e (2 ^ 31) with h | h
      · exact h
      · exfalso
        have key : ∀ (ss : List (List Nat)) (off q : Nat) (rd : List pr_E) (e : Nat), pr_run ss off q rd = .inl e → e ≤ off + (ss.map (fun s => s.length + 1)).sum := by
          intro ss
          induction ss with
          | nil =>
            intro off q rd e he
            unfold pr_run at he
            split at he
            · cases he
              omega
            · cases he
          | cons s ss ih =>
            intro off q rd e he
            unfold pr_run at he
            split at he
            · cases he
              omega
            · have := ih _ _ _ _ he
              simp
              omega
        have key2 : ∀ (l cur : List Nat), ((pr_segs cur l).map (fun s => s.length + 1)).sum = cur.length + l.length + 1 := by
          intro l
          induction l with
          | nil => intro cur; simp [pr_segs]
          | cons c l ih =>
            intro cur
            unfold pr_segs
            split
            · simp [ih]
              omega
            · rw [ih]
              simp
              omega
        have h2 := key _ _ _ _ _ hcut
        rw [key2] at h2
        simp at h2
        omega
    refine ⟨σ1, ?_, F1, t1, p1⟩
    rw [m1, if_neg (nI_pos he)]
  | inr rd =>
    rw [hcut] at m1
    obtain ⟨mv, mr⟩ := m1
    have hrd := pr_cut_lw hcut
    obtain ⟨σ2, e2, fm, k2, f2⟩ := pr_fillForm (F := F) (by omega) pr_sk5 po_f1 (by decide) (by decide) mr a1 hal2 hrd (by decide) (hfm rd hcut)
    have t2 := t1.fr f2 (by omega) (by omega)
    have p2 := p1.fr f2 (by omega) (fun x h1 h2 => by omega)
    have F2 := F1.tr (f2.mono (fun x hx => by omega))
    have clr : ∀ (υ : pu_S) (x : Int32), ∃ τ, sh_LT_read_107 F 0 x (pu_mk υ) = some (x, pu_mk τ) ∧ pt_is τ 1 60 [] ∧ pu_fr (fun k => k = 1 ∨ k = 1 + 1) υ τ := by
      intro υ x
      obtain ⟨τ, e, p, f⟩ := pt_clear (F := F) (σ := υ) pt_typed
      refine ⟨τ, ?_, p, f⟩
      unfold sh_LT_read_107
      rw [po_0, Option.bind_some, pu_is pt_typed.1, Option.bind_some, e, Option.bind_some]
    have e3 := po_tagWithForm (F := F) (by omega) p2 po_f1 fm (Nat.le_refl _)
    rw [List.take_length] at e3
    rw [mv, if_pos (show (-1 : Int32) < 0 by decide), po_2, Option.bind_some, po_9, Option.bind_some, po_3, Option.bind_some, pu_is pr_sk5.1, Option.bind_some, e2, Option.bind_some, po_9, Option.bind_some, Option.bind_some, pu_is po_f1.1, Option.bind_some, pf_count po_f1 fm, im_b2_s, pu_is po_sk, Option.bind_some, e3, im_b2_s]
    simp only
    cases hat : pf_at? tg (pr_form al rd) with
    | some i =>
      have hi := pf_at?_lt hat
      obtain ⟨τ, e, p, f⟩ := clr σ2 (pr_n (some i))
      refine ⟨τ, ?_, F2.tr (f.mono (fun x hx => by omega)), p, p2.fr f (by omega) (fun x h1 h2 => by omega)⟩
      rw [if_pos (show (0 : Int32) ≤ pr_n (some i) from nI_pos' (by omega)), e]
      rfl
    | none =>
      have h16 : nI tg.length < (16 : Int32) ↔ tg.length < 16 := nI_ltI (b := 16) (by omega) (by decide)
      rw [if_neg (show ¬ (0 : Int32) ≤ pr_n none by decide), po_13, Option.bind_some, p2.1]
      by_cases hn : tg.length < 16
      · have hnn : ¬ 16 ≤ tg.length := by omega
        rw [if_pos (h16.mpr hn), Option.bind_some, po_7, Option.bind_some, po_tag hn, Option.bind_some, po_tf hn, Option.bind_some, po_9, Option.bind_some, pu_is (po_forms tg.length hn).1, Option.bind_some]
        have hfl := fm.2.2.1
        obtain ⟨σ3, e4, p4, k4, f4⟩ := pf_copyFrom (F := F) (f := 144 + 6 * tg.length) (po_forms tg.length hn) po_f1 (by omega) fm k2 hfl (by omega)
        have q4 : σ3.1 0 13 = nI tg.length := (f4 0 (by omega) 13).1.trans p2.1
        obtain ⟨τ, e, p, f⟩ := clr (pu_sI σ3 0 13 (nI (tg.length + 1))) (nI tg.length)
        have pk := pk_add p2 hn p4 k4 f4
        simp only [hnn, if_false]
        refine ⟨τ, ?_, ?_, p, pk.fr f (by omega) (fun x h1 h2 => by omega)⟩
        · rw [e4, Option.bind_some, po_13, Option.bind_some, q4, nI_1, po_p13, Option.bind_some, e]
        · exact ((F2.tr (f4.mono (fun x hx => by omega))).tr (pu_fr.sI (Or.inl rfl))).tr (f.mono (fun x hx => by omega))
      · have hnn : 16 ≤ tg.length := by omega
        simp only [hnn, if_true]
        refine ⟨σ2, ?_, F2, t2, p2⟩
        rw [if_neg (fun q => hn (h16.mp q))]
/-! pair -/
def pk_plain (ty : List Nat) (al : List pa_E) (a b : Nat) : Option pc_C := match pr_cut ty a b with
  | .inl _ => none
  | .inr rd => if (pr_form al rd).length = pc_n (pr_core al rd) then some (pr_core al rd) else none
theorem pr_form_plain {rd : List pr_E} (h : (pr_form al rd).length = pc_n (pr_core al rd)) : pr_form al rd = pc_list (pr_core al rd) := by
  unfold pr_form at h ⊢
  rw [List.append_assoc, List.append_assoc, List.length_append, pc_list_n] at h
  have h2 : (pr_out rd 4 rd.length 0 ++ ((if pr_part rd 5 = [] then [] else [117] :: pr_out rd 6 rd.length 0) ++ pr_priv rd)).length = 0 := by omega
  rw [List.append_assoc, List.append_assoc, List.length_eq_zero_iff.mp h2, List.append_nil]
theorem po_readPlain (hF : 100 ≤ F) (ht : pt_is σ 1 60 ty) (hal : pa_is σ al) (hal2 : pa_lw al) {f : Nat} (hf : pf_sk f 30) (hfd : 240 ≤ f) {a b : Nat} (hab : a ≤ b) (hb : b ≤ ty.length) (hfm : ∀ rd, pr_cut ty a b = .inr rd → (pr_form al rd).length ≤ 30) (herr : ∀ e, pr_cut ty a b = .inl e → e < 2 ^ 31) : ∃ τ, sh_LT_readPlain F 0 f (nI a) (nI b) (pu_mk σ) = some (pb_b (pk_plain ty al a b).isSome, pu_mk τ) ∧ pu_fr (fun x => (5 ≤ x ∧ x ≤ 7) ∨ x = f ∨ x = f + 1 ∨ x = f + 2) σ τ ∧ ∀ k, pk_plain ty al a b = some k → pf_is τ f 30 (pc_list k) ∧ pc_is τ (f + 1) k := by
  have htl := ht.2.2.1
  obtain ⟨σ1, v, e1, f1, m1⟩ := pr_cutTag (F := F) (σ := σ) (ty := ty) (a := a) (b := b) (by omega) pr_sk5 pt_typed (by decide) hab hb (by omega) ht
  have a1 := hal.fr f1 (fun x h1 h2 => by omega)
  have F1 := f1.mono (T := fun x => (5 ≤ x ∧ x ≤ 7) ∨ x = f ∨ x = f + 1 ∨ x = f + 2) (fun x hx => by omega)
  unfold sh_LT_readPlain
  rw [po_2, Option.bind_some, po_0, Option.bind_some, pu_is pr_sk5.1, Option.bind_some, e1, im_b2_s]
  unfold pk_plain
  cases hcut : pr_cut ty a b with
  | inl e =>
    rw [hcut] at m1
    have m1 : v = nI e := m1
    refine ⟨σ1, ?_, F1, fun k hk => by cases hk⟩
    rw [m1, if_neg (nI_pos (herr e hcut))]
    exact pb_rz0 _
  | inr rd =>
    rw [hcut] at m1
    obtain ⟨mv, mr⟩ := m1
    have hrd := pr_cut_lw hcut
    obtain ⟨σ2, e2, fm, k2, f2⟩ := pr_fillForm (F := F) (by omega) pr_sk5 hf (by omega) (by omega) mr a1 hal2 hrd (by decide) (hfm rd hcut)
    refine ⟨σ2, ?_, F1.tr (f2.mono (fun x hx => by omega)), ?_⟩
    · rw [mv, if_pos (show (-1 : Int32) < 0 by decide), po_2, Option.bind_some, po_3, Option.bind_some, pu_is pr_sk5.1, Option.bind_some, e2, Option.bind_some, pu_is hf.1, Option.bind_some, pf_isPlain hf fm k2, im_b2_s, pb_rz]
      by_cases hpl : (pr_form al rd).length = pc_n (pr_core al rd)
      · simp [hpl]
      · simp [hpl]
    · intro k hk
      simp only at hk
      split at hk
      · rename_i hpl
        cases hk
        rw [← pr_form_plain hpl]
        exact ⟨fm, k2⟩
      · cases hk
end REA
