/-! filtering: small letters or not -/
def pf_lowv (s : List Nat) : Prop := pb_lw s ∧ (s.length = 1 ∨ 5 ≤ s.length ∨ (s.length = 4 ∧ pb_isD (s.getD 0 0) = true))
def pf_tit (s : List Nat) : Prop := ∃ b, s = pb_title b ∧ pb_lw b ∧ pb_script b = true
def pf_cap (s : List Nat) : Prop := ∃ c, s = pb_caps c ∧ pb_lw c ∧ pb_region c = true
def pf_fr (s : List Nat) : Prop := pf_tit s ∨ pf_cap s ∨ pf_lowv s
def pf_gl : List (List Nat) → Prop
  | [] => True
  | s :: l => pf_fr s ∧ (s.length = 1 → ∀ p ∈ l, pb_lw p) ∧ (¬ s.length = 1 → pf_gl l)
def pf_eqL (p q : List Nat) : Bool := decide (p.map pt_low = q.map pt_low)
def pf_scanL : List (List Nat) → List (List Nat) → Bool
  | _, [] => true
  | [], _ :: _ => false
  | p :: ps, q :: qs => if pf_eqL p q = true then pf_scanL ps qs else if p.length = 1 then false else pf_scanL ps (q :: qs)
theorem pf_scanL0 (ps : List (List Nat)) : pf_scanL ps [] = true := by cases ps <;> rfl
theorem pf_tit_l {s : List Nat} (h : pf_tit s) : s.length = 4 ∧ ∃ c l, s.map pt_low = c :: l ∧ 97 ≤ c := by
  obtain ⟨b, rfl, h1, h2⟩ := h
  rw [pq_titlel h1 (Or.inr h2), pb_title_len]
  have h2' := h2
  simp only [pb_script, Bool.and_eq_true, beq_iff_eq] at h2
  refine ⟨h2.1, ?_⟩
  cases b with
  | nil => cases h2'
  | cons c l => exact ⟨c, l, rfl, (pq_let h1 (by rw [h2.2, h2.1]) c List.mem_cons_self).1⟩
theorem pf_cap_l {s : List Nat} (h : pf_cap s) : 2 ≤ s.length ∧ s.length ≤ 3 := by
  obtain ⟨c, rfl, h1, h2⟩ := h
  rw [pb_caps_len]
  simp only [pb_region, Bool.or_eq_true, Bool.and_eq_true, beq_iff_eq] at h2
  omega
theorem pf_fr_eq {p q : List Nat} (hp : pf_fr p) (hq : pf_fr q) : pf_eqL p q = decide (p = q) := by
  unfold pf_eqL
  refine decide_eq_decide.mpr ⟨fun h => ?_, fun h => by rw [h]⟩
  have hl : p.length = q.length := by
    have := congrArg List.length h
    simpa using this
  have tl : ∀ p q : List Nat, pf_tit p → pf_lowv q → p.map pt_low = q.map pt_low → False := by
    intro p q a b h
    obtain ⟨a1, c, l, a2, a3⟩ := pf_tit_l a
    have hl : p.length = q.length := by
      have := congrArg List.length h
      simpa using this
    have b2 := b.2
    rcases b2 with b2 | b2 | b2
    · omega
    · omega
    · rw [a2, pb_lwlow b.1] at h
      have : q.getD 0 0 = c := by rw [← h]; rfl
      rw [this] at b2
      have := b2.2
      simp [pb_isD] at this
      omega
  have cl : ∀ p q : List Nat, pf_cap p → pf_lowv q → p.length = q.length → False := by
    intro p q a b hl
    have := pf_cap_l a
    have b2 := b.2
    omega
  rcases hp with hp | hp | hp <;> rcases hq with hq | hq | hq
  · obtain ⟨b, rfl, b1, b2⟩ := hp
    obtain ⟨c, rfl, c1, c2⟩ := hq
    rw [pq_titlel b1 (Or.inr b2), pq_titlel c1 (Or.inr c2)] at h
    rw [h]
  · have := (pf_tit_l hp).1
    have := pf_cap_l hq
    omega
  · exact (tl p q hp hq h).elim
  · have := (pf_tit_l hq).1
    have := pf_cap_l hp
    omega
  · obtain ⟨b, rfl, b1, b2⟩ := hp
    obtain ⟨c, rfl, c1, c2⟩ := hq
    rw [pq_capsl b1 (Or.inr b2), pq_capsl c1 (Or.inr c2)] at h
    rw [h]
  · exact (cl p q hp hq hl).elim
  · exact (tl q p hq hp h.symm).elim
  · exact (cl q p hq hp hl.symm).elim
  · rw [pb_lwlow hp.1, pb_lwlow hq.1] at h
    exact h
theorem pf_scan_low : ∀ (ps qs : List (List Nat)), (∀ p ∈ ps, pb_lw p) → (∀ q ∈ qs, pb_lw q) → pf_scanL ps qs = pf_scan ps qs
  | ps, [], _, _ => by rw [pf_scanL0, pf_scan0]
  | [], _ :: _, _, _ => rfl
  | p :: ps, q :: qs, hp, hq => by
    have e : pf_eqL p q = decide (p = q) := by
      unfold pf_eqL
      rw [pb_lwlow (hp p List.mem_cons_self), pb_lwlow (hq q List.mem_cons_self)]
    rw [pf_scanL, pf_scan, e]
    have h1 := pf_scan_low ps qs (fun x hx => hp x (List.mem_cons_of_mem _ hx)) (fun x hx => hq x (List.mem_cons_of_mem _ hx))
    have h2 := pf_scan_low ps (q :: qs) (fun x hx => hp x (List.mem_cons_of_mem _ hx)) hq
    by_cases h : p = q
    · rw [if_pos (decide_eq_true h), if_pos h, h1]
    · rw [if_neg (by simpa using h), if_neg h, h2]
theorem pf_scan_gl : ∀ (ps qs : List (List Nat)), pf_gl ps → pf_gl qs → pf_scanL ps qs = pf_scan ps qs
  | ps, [], _, _ => by rw [pf_scanL0, pf_scan0]
  | [], _ :: _, _, _ => rfl
  | p :: ps, q :: qs, hp, hq => by
    rw [pf_scanL, pf_scan, pf_fr_eq hp.1 hq.1]
    by_cases h : p = q
    · rw [if_pos (decide_eq_true h), if_pos h]
      by_cases h1 : p.length = 1
      · exact pf_scan_low ps qs (hp.2.1 h1) (hq.2.1 (by rw [← h]; exact h1))
      · exact pf_scan_gl ps qs (hp.2.2 h1) (hq.2.2 (by rw [← h]; exact h1))
    · rw [if_neg (by simpa using h), if_neg h]
      by_cases h1 : p.length = 1
      · rw [if_pos h1, if_pos h1]
      · rw [if_neg h1, if_neg h1, pf_scan_gl ps (q :: qs) (hp.2.2 h1) hq]
theorem pf_gl_app : ∀ {a b : List (List Nat)}, (∀ p ∈ a, pf_fr p ∧ ¬ p.length = 1) → pf_gl b → pf_gl (a ++ b)
  | [], b, _, hb => hb
  | p :: a, b, ha, hb => ⟨(ha p List.mem_cons_self).1, fun z => absurd z (ha p List.mem_cons_self).2, fun _ => pf_gl_app (fun x hx => ha x (List.mem_cons_of_mem _ hx)) hb⟩
theorem pf_gl_1 {s : List Nat} {l : List (List Nat)} (hs : pb_lw s) (h1 : s.length = 1) (hl : ∀ p ∈ l, pb_lw p) : pf_gl (s :: l) := ⟨Or.inr (Or.inr ⟨hs, Or.inl h1⟩), fun _ => hl, fun z => absurd h1 z⟩
/-- what else cutting gives: variants, and x before what is private -/
def pq_Y (q : Nat) (rd : List pr_E) : Prop := (∀ e ∈ rd, e.1 = 4 → pb_variant e.2 = true) ∧ (q < 8 → pr_priv rd = []) ∧ (8 ≤ q → ∃ l, pr_priv rd = [120] :: l)
theorem pq_role4 {l : List pr_E} {s : List Nat} {b : Nat} : (pr_role l s b = 4 → pb_variant s = true) ∧ (8 ≤ b → ¬ pr_role l s b = 0 → pr_role l s b = 9) ∧ (b < 8 → 8 ≤ pr_role l s b → s = [120] ∧ pr_role l s b = 8) := by
  refine ⟨fun h => ?_, fun hb h => ?_, fun hb h => ?_⟩
  · unfold pr_role pr_ext pr_front at h
    repeat' split at h
    all_goals first | (exfalso; omega) | (simp_all; done) | skip
  · unfold pr_role at h ⊢
    by_cases hs : s = []
    · rw [if_pos hs] at h
      exact absurd rfl h
    · rw [if_neg hs, if_neg (by omega), if_pos hb]
  · by_cases hs : s = [120]
    · refine ⟨hs, ?_⟩
      subst hs
      unfold pr_role at h ⊢
      rw [if_neg (by decide)] at h ⊢
      by_cases h0 : b = 0
      · rw [if_pos h0] at h
        rw [if_neg (by decide)] at h
        omega
      · rw [if_neg h0, if_neg (by omega), if_pos rfl] at h ⊢
        by_cases h5 : b = 5
        · rw [if_pos h5] at h
          omega
        · rw [if_neg h5]
    · exfalso
      have : pr_role l s b < 8 := by
        unfold pr_role
        by_cases h0 : s = []
        · rw [if_pos h0]; decide
        · rw [if_neg h0]
          by_cases h1 : b = 0
          · rw [if_pos h1]; split <;> decide
          · rw [if_neg h1, if_neg (by omega), if_neg hs]
            split
            · unfold pr_ext
              split
              · split <;> decide
              · split <;> decide
            · unfold pr_front
              split
              · decide
              · split
                · decide
                · split
                  · decide
                  · split <;> decide
      omega
theorem pq_Y1 {rd : List pr_E} {q : Nat} (h : pq_Y q rd) (s : List Nat) (hr : ¬ pr_role rd s q = 0) : pq_Y (pr_role rd s q) (rd ++ [(pr_role rd s q, s)]) := by
  obtain ⟨h1, h2, h3⟩ := h
  refine ⟨fun e he h4 => ?_, fun h8 => ?_, fun h8 => ?_⟩
  · rcases List.mem_append.mp he with he | he
    · exact h1 e he h4
    · rw [List.mem_singleton] at he
      subst he
      exact pq_role4.1 h4
  · have hq : q < 8 := by
      apply Classical.byContradiction
      intro z
      have := pq_role4.2.1 (show 8 ≤ q by omega) hr
      omega
    rw [pq_priv, h2 hq, if_neg (by omega)]
    rfl
  · rw [pq_priv, if_pos h8]
    by_cases hq : q < 8
    · obtain ⟨e1, e2⟩ := pq_role4.2.2 hq h8
      rw [h2 hq]
      exact ⟨[], by rw [e1]; rfl⟩
    · obtain ⟨l, hl⟩ := h3 (by omega)
      rw [hl]
      exact ⟨l ++ [s], rfl⟩
theorem pq_Yrun : ∀ (ss : List (List Nat)) (off q : Nat) (rd rd' : List pr_E), pq_Y q rd → pr_run ss off q rd = .inr rd' → ∃ q', pq_Y q' rd' := by
  intro ss
  induction ss with
  | nil =>
    intro off q rd rd' h e
    rw [pr_run] at e
    split at e
    · cases e
    · cases e
      exact ⟨q, h⟩
  | cons s ss ih =>
    intro off q rd rd' h e
    rw [pr_run] at e
    split at e
    · cases e
    · rename_i hc
      exact ih _ _ _ _ (pq_Y1 h _ (fun z => hc (Or.inl z))) e
theorem pq_Ycut {ty : List Nat} {a b : Nat} {rd : List pr_E} (h : pr_cut ty a b = .inr rd) : ∃ q, pq_Y q rd := pq_Yrun _ _ 0 [] rd ⟨fun e he => (by cases he), fun _ => rfl, fun z => by omega⟩ h
theorem pq_outG : ∀ {G : List pq_I}, (∀ g ∈ G, g.2 = []) → ∀ (n b : Nat) (p : List Nat), p ∈ pq_out G n b → ∃ g ∈ G, g.1 = p := by
  intro G hG n
  induction n with
  | zero => intro b p h; cases h
  | succ n ih =>
    intro b p h
    rw [pq_out] at h
    cases hj : pq_lw b G none with
    | none => rw [hj] at h; cases h
    | some e =>
      rw [hj] at h
      have he : e ∈ G := (pq_lw_some G none (fun x hx => by cases hx) hj).1.elim id (fun z => by cases z)
      have h : p ∈ e.1 :: pq_ty e.2 ++ pq_out G n (pb_e 8 e.1) := h
      rw [hG e he] at h
      rcases List.mem_append.mp h with h | h
      · rcases List.mem_cons.mp h with h | h
        · exact ⟨e, he, h.symm⟩
        · have h : p ∈ ([] : List (List Nat)) := h
          cases h
      · exact ih _ p h
theorem pr_rest_gl {ty : List Nat} (hty : ∀ c ∈ ty, c < 128) (h60 : ty.length ≤ 60) {a b : Nat} (hab : a ≤ b) (hb : b ≤ ty.length) {rd : List pr_E} (h : pr_cut ty a b = .inr rd) : pf_gl (pr_rest rd) := by
  have O := pq_cutall hab hb h60
  rw [h] at O
  have hlw := pr_cut_lw h
  obtain ⟨qy, hY⟩ := pq_Ycut h
  have hne : ∀ e ∈ rd, ¬ e.2 = [] := fun e he => ((pr_cut_good h60 h).1.1 e he).1
  have hg4 : ∀ g ∈ pq_g 4 rd, g.2 = [] := by
    cases hr : pm_run ty b (b + 1 - a) 0 a a pm_A0 with
    | inl e' => rw [hr] at O; exact O.elim
    | inr r =>
      rw [hr] at O
      have O : ¬ (r.1 = 4 ∨ r.1 = 6) ∧ ∃ q, (pq_R ty (b + 1) q rd r.2 ∧ q < 10) ∧ ¬ q = 0 ∧ ¬ q = 5 ∧ ¬ q = 8 := O
      obtain ⟨-, q, ⟨hR, -⟩, -⟩ := O
      rw [hR.2.1]
      intro g hg
      obtain ⟨v, -, rfl⟩ := List.mem_map.mp hg
      rfl
  have hrl := pr_rest_lw hlw hne
  unfold pr_rest at hrl ⊢
  rw [List.append_assoc]
  refine pf_gl_app (fun p hp => ?_) ?_
  · rw [pq_out_eq] at hp
    obtain ⟨g, hg, hgp⟩ := pq_outG hg4 _ _ p hp
    obtain ⟨e, he1, he2, he3, -⟩ := pq_g_mem hg
    have hv := hY.1 e he1 he2
    rw [he3, hgp] at hv
    have hpl : pb_lw p := by rw [← hgp, ← he3]; exact hlw e he1
    simp only [pb_variant, Bool.or_eq_true, Bool.and_eq_true, decide_eq_true_eq, beq_iff_eq] at hv
    refine ⟨Or.inr (Or.inr ⟨hpl, ?_⟩), ?_⟩
    · rcases hv with hv | hv
      · exact Or.inr (Or.inl hv)
      · exact Or.inr (Or.inr hv)
    · omega
  · have tailp : ∀ p ∈ pr_priv rd, pb_lw p := fun p hp => (hrl p (List.mem_append.mpr (Or.inr hp))).1
    by_cases h5 : pr_part rd 5 = []
    · rw [if_pos h5, List.nil_append]
      by_cases h8 : qy < 8
      · rw [hY.2.1 h8]
        trivial
      · obtain ⟨l, hl⟩ := hY.2.2 (by omega)
        rw [hl] at tailp ⊢
        exact pf_gl_1 ⟨by decide, by decide⟩ rfl (fun p hp => tailp p (List.mem_cons_of_mem _ hp))
    · rw [if_neg h5] at hrl ⊢
      rw [List.cons_append]
      refine pf_gl_1 ⟨by decide, by decide⟩ rfl (fun p hp => ?_)
      rcases List.mem_append.mp hp with hp | hp
      · exact (hrl p (List.mem_append.mpr (Or.inl (List.mem_append.mpr (Or.inr (List.mem_cons_of_mem _ hp)))))).1
      · exact tailp p hp
/-- a good tag -/
def pg_gd (e : pg_E) : Prop := pc_gd e.2.1 ∧ (∃ rest, e.1 = pc_list e.2.1 ++ rest) ∧ pf_cl e.1 ∧ pf_gl (e.1.drop 1) ∧ (pf_text [] e.1).length ≤ 62 ∧ e.1.length ≤ 30
theorem pc_gd_gl {k : pc_C} (h : pc_gd k) {rest : List (List Nat)} (hr : pf_gl rest) : pf_gl ((pc_list k ++ rest).drop 1) := by
  have hlen := pc_gd_len h
  obtain ⟨b, c, e1, e2, h1, h2, h3, h4, h5, h6⟩ := h
  have e : (pc_list k ++ rest).drop 1 = (if k.2.1 = [] then [] else [k.2.1]) ++ ((if k.2.2 = [] then [] else [k.2.2]) ++ rest) := by
    unfold pc_list
    simp
  rw [e]
  refine pf_gl_app (fun p hp => ?_) (pf_gl_app (fun p hp => ?_) hr)
  · split at hp
    · cases hp
    · rename_i hn
      rw [List.mem_singleton] at hp
      subst hp
      have hb : ¬ b = [] := fun z => by rw [e1, z] at hn; exact hn rfl
      refine ⟨Or.inl ⟨b, e1, h2, h5.elim (fun z => absurd z hb) id⟩, ?_⟩
      have := hlen.2.1.elim (fun z => absurd z hn) id
      omega
  · split at hp
    · cases hp
    · rename_i hn
      rw [List.mem_singleton] at hp
      subst hp
      have hb : ¬ c = [] := fun z => by rw [e2, z] at hn; exact hn rfl
      refine ⟨Or.inr (Or.inl ⟨c, e2, h3, h6.elim (fun z => absurd z hb) id⟩), ?_⟩
      have := hlen.2.2.elim (fun z => absurd z hn) id
      omega
theorem pg_read {ty : List Nat} (hty : ∀ c ∈ ty, c < 128) (h60 : ty.length ≤ 60) {rd : List pr_E} (h : pr_cut ty 0 ty.length = .inr rd) {al : List pa_E} (hal : pa_gd al) (f : Nat → Option Int32) : pg_gd (pr_form al rd, pr_core al rd, f) := by
  have hcore := pq_core h60 h hal
  have hs := pr_size h60 (pa_gd_23 hal) h
  have hne : ∀ e ∈ rd, ¬ e.2 = [] := fun e he => ((pr_cut_good h60 h).1.1 e he).1
  refine ⟨hcore, ⟨pr_rest rd, pr_form_rest al rd⟩, ?_, ?_, hs.2, hs.1⟩
  · show pf_cl (pr_form al rd)
    rw [pr_form_rest]
    intro p hp
    rcases List.mem_append.mp hp with hp | hp
    · exact pc_gd_cl hcore p hp
    · have := pr_rest_lw (pr_cut_lw h) hne p hp
      exact pf_ok1_lw this.1 this.2
  · show pf_gl ((pr_form al rd).drop 1)
    rw [pr_form_rest]
    exact pc_gd_gl hcore (pr_rest_gl hty h60 (Nat.zero_le _) (Nat.le_refl _) h)
