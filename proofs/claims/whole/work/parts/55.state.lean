/-! the state of the class, as lists -/
abbrev pg_E : Type := List (List Nat) × pc_C × (Nat → Option Int32)
def pg_0 : pg_E := ([], ([], [], []), fun _ => none)
def pk_tag (σ : pu_S) (t : Nat) (e : pg_E) (s : Bool) : Prop := pf_is σ (144 + 6 * t) 30 e.1 ∧ pc_is σ (144 + 6 * t + 1) e.2.1 ∧ σ.1 (143 + 6 * t) 3 = pb_b s ∧ ∀ k, k < 8 → σ.2.2.1 (148 + 6 * t) k = pb_b (e.2.2 k).isSome ∧ ∀ v, e.2.2 k = some v → σ.2.2.1 (147 + 6 * t) k = v
def pk_new (σ : pu_S) (t : Nat) : Prop := σ.1 (143 + 6 * t) 3 = 0 ∧ ∀ k, k < 8 → σ.2.2.1 (148 + 6 * t) k = 0
theorem pk_tag.fr {S : Nat → Prop} {σ τ : pu_S} {t : Nat} {e : pg_E} {s : Bool} (hp : pk_tag σ t e s) (hf : pu_fr S σ τ) (h : ∀ x, 143 + 6 * t ≤ x → x ≤ 148 + 6 * t → ¬ S x) : pk_tag τ t e s :=
  ⟨hp.1.fr hf (h _ (by omega) (by omega)) (h _ (by omega) (by omega)), hp.2.1.fr hf (h _ (by omega) (by omega)), (hf _ (h _ (by omega) (by omega)) 3).1.trans hp.2.2.1, fun k hk => ⟨(hf _ (h _ (by omega) (by omega)) k).2.2.1.trans (hp.2.2.2 k hk).1, fun v hv => (hf _ (h _ (by omega) (by omega)) k).2.2.1.trans ((hp.2.2.2 k hk).2 v hv)⟩⟩
theorem pk_new.fr {S : Nat → Prop} {σ τ : pu_S} {t : Nat} (hp : pk_new σ t) (hf : pu_fr S σ τ) (h : ∀ x, 143 + 6 * t ≤ x → x ≤ 148 + 6 * t → ¬ S x) : pk_new τ t :=
  ⟨(hf _ (h _ (by omega) (by omega)) 3).1.trans hp.1, fun k hk => (hf _ (h _ (by omega) (by omega)) k).2.2.1.trans (hp.2 k hk)⟩
/-- tags, supported tags, the place found -/
def pk_is (σ : pu_S) (tg : List pg_E) (su : List Nat) (pl : Int32) : Prop := σ.1 0 13 = nI tg.length ∧ tg.length ≤ 16 ∧ (∀ t, t < tg.length → pk_tag σ t (tg.getD t pg_0) (decide (t ∈ su))) ∧ (∀ t, tg.length ≤ t → t < 16 → pk_new σ t) ∧ σ.1 0 14 = nI su.length ∧ su.length ≤ 16 ∧ (∀ i, i < su.length → σ.2.2.1 239 i = nI (su.getD i 0)) ∧ (∀ t ∈ su, t < tg.length) ∧ σ.1 0 15 = pl
theorem pk_is.fr {S : Nat → Prop} {σ τ : pu_S} {tg : List pg_E} {su : List Nat} {pl : Int32} (hp : pk_is σ tg su pl) (hf : pu_fr S σ τ) (h0 : ¬ S 0) (h : ∀ x, 143 ≤ x → x ≤ 239 → ¬ S x) : pk_is τ tg su pl := by
  obtain ⟨a, b, c, d, e, f, g, i, j⟩ := hp
  exact ⟨(hf 0 h0 13).1.trans a, b, fun t ht => (c t ht).fr hf (fun x h1 h2 => h x (by omega) (by omega)), fun t h1 h2 => (d t h1 h2).fr hf (fun x h3 h4 => h x (by omega) (by omega)), (hf 0 h0 14).1.trans e, f, fun k hk => (hf 239 (h 239 (by omega) (by omega)) k).2.2.1.trans (g k hk), i, (hf 0 h0 15).1.trans j⟩
def rc_is (σ : pu_S) (ty sh : List Nat) (al : List pa_E) (lk pa : List pp_E) (tg : List pg_E) (su : List Nat) (pl : Int32) : Prop := (pt_is σ 1 60 ty ∧ pt_is σ 3 62 sh ∧ pa_is σ al ∧ pp_is σ 12 lk ∧ pp_is σ 75 pa) ∧ pk_is σ tg su pl
theorem po_sk : pu_sk 0 = some (.inr (8, [3, 5, 7, 10, 14, 77, 140, 144, 241, 242, 245, 248, 249, 0, 0, 0])) := by decide +kernel
theorem po_kn : pu_sk 142 = some (.inl (4, 16)) := by decide +kernel
theorem po_su : pu_sk 239 = some (.inl (0, 16)) := by decide +kernel
theorem po_f1 : pf_sk 240 30 := ⟨by decide +kernel, by unfold pc_sk; decide +kernel, by decide +kernel, by decide⟩
theorem po_f2 : pf_sk 243 30 := ⟨by decide +kernel, by unfold pc_sk; decide +kernel, by decide +kernel, by decide⟩
theorem po_c1 : pc_sk 246 := by unfold pc_sk; decide +kernel
theorem po_c2 : pc_sk 247 := by unfold pc_sk; decide +kernel
theorem po_tags : ∀ t, t < 16 → pu_sk (143 + 6 * t) = some (.inr (6, [144 + 6 * t + 2, 147 + 6 * t + 2, 148 + 6 * t + 2, 0])) := by decide +kernel
theorem po_forms : ∀ t, t < 16 → pf_sk (144 + 6 * t) 30 := by
  have a : ∀ t, t < 16 → pu_sk (144 + 6 * t) = some (.inr (2, [144 + 6 * t + 1 + 2, 144 + 6 * t + 2 + 2, 0])) := by decide +kernel
  have b : ∀ t, t < 16 → pu_sk (144 + 6 * t + 1) = some (.inr (1, [1, 1, 1])) := by decide +kernel
  have c : ∀ t, t < 16 → pu_sk (144 + 6 * t + 2) = some (.inl (1, 30)) := by decide +kernel
  exact fun t ht => ⟨a t ht, b t ht, c t ht, by decide⟩
theorem po_vals : ∀ t, t < 16 → pu_sk (147 + 6 * t) = some (.inl (0, 8)) := by decide +kernel
theorem po_givs : ∀ t, t < 16 → pu_sk (148 + 6 * t) = some (.inl (3, 8)) := by decide +kernel
theorem po_r : ∀ t, t < 16 → pu_ref 142 t = some (143 + 6 * t) := by decide +kernel
section LTS
variable {F : Nat} {σ : pu_S} {ty sh : List Nat} {al : List pa_E} {lk pa : List pp_E} {tg : List pg_E} {su : List Nat} {pl : Int32}
theorem po_0 (σ : pu_S) : im_gR (pu_mk σ) 8 0 0 = some 1 := pu_gR po_sk rfl σ
theorem po_1 (σ : pu_S) : im_gR (pu_mk σ) 8 0 1 = some 3 := pu_gR po_sk rfl σ
theorem po_2 (σ : pu_S) : im_gR (pu_mk σ) 8 0 2 = some 5 := pu_gR po_sk rfl σ
theorem po_3 (σ : pu_S) : im_gR (pu_mk σ) 8 0 3 = some 8 := pu_gR po_sk rfl σ
theorem po_4 (σ : pu_S) : im_gR (pu_mk σ) 8 0 4 = some 12 := pu_gR po_sk rfl σ
theorem po_5 (σ : pu_S) : im_gR (pu_mk σ) 8 0 5 = some 75 := pu_gR po_sk rfl σ
theorem po_6 (σ : pu_S) : im_gR (pu_mk σ) 8 0 6 = some 138 := pu_gR po_sk rfl σ
theorem po_7 (σ : pu_S) : im_gR (pu_mk σ) 8 0 7 = some 142 := pu_gR po_sk rfl σ
theorem po_8 (σ : pu_S) : im_gR (pu_mk σ) 8 0 8 = some 239 := pu_gR po_sk rfl σ
theorem po_9 (σ : pu_S) : im_gR (pu_mk σ) 8 0 9 = some 240 := pu_gR po_sk rfl σ
theorem po_10 (σ : pu_S) : im_gR (pu_mk σ) 8 0 10 = some 243 := pu_gR po_sk rfl σ
theorem po_11 (σ : pu_S) : im_gR (pu_mk σ) 8 0 11 = some 246 := pu_gR po_sk rfl σ
theorem po_12 (σ : pu_S) : im_gR (pu_mk σ) 8 0 12 = some 247 := pu_gR po_sk rfl σ
theorem po_13 (σ : pu_S) : im_gI (pu_mk σ) 8 0 13 = some (σ.1 0 13) := pu_gI po_sk rfl σ
theorem po_14 (σ : pu_S) : im_gI (pu_mk σ) 8 0 14 = some (σ.1 0 14) := pu_gI po_sk rfl σ
theorem po_15 (σ : pu_S) : im_gI (pu_mk σ) 8 0 15 = some (σ.1 0 15) := pu_gI po_sk rfl σ
theorem po_p13 (σ : pu_S) (v : Int32) : im_pV (pu_mk σ) 8 0 13 (.int v) = some (pu_mk (pu_sI σ 0 13 v)) := pu_pI po_sk rfl σ v
theorem po_p14 (σ : pu_S) (v : Int32) : im_pV (pu_mk σ) 8 0 14 (.int v) = some (pu_mk (pu_sI σ 0 14 v)) := pu_pI po_sk rfl σ v
theorem po_p15 (σ : pu_S) (v : Int32) : im_pV (pu_mk σ) 8 0 15 (.int v) = some (pu_mk (pu_sI σ 0 15 v)) := pu_pI po_sk rfl σ v
theorem po_tag {t : Nat} (ht : t < 16) (σ : pu_S) : im_lR (pu_mk σ) 4 142 (nI t) = some (143 + 6 * t) := by
  rw [pu_lRn po_kn (by decide) σ ht (by decide), po_r t ht]
theorem po_tf {t : Nat} (ht : t < 16) (σ : pu_S) : im_gR (pu_mk σ) 6 (143 + 6 * t) 0 = some (144 + 6 * t) := pu_gR (po_tags t ht) rfl σ
theorem po_tv {t : Nat} (ht : t < 16) (σ : pu_S) : im_gR (pu_mk σ) 6 (143 + 6 * t) 1 = some (147 + 6 * t) := pu_gR (po_tags t ht) rfl σ
theorem po_tg {t : Nat} (ht : t < 16) (σ : pu_S) : im_gR (pu_mk σ) 6 (143 + 6 * t) 2 = some (148 + 6 * t) := pu_gR (po_tags t ht) rfl σ
theorem po_ts {t : Nat} (ht : t < 16) (σ : pu_S) : im_gI (pu_mk σ) 6 (143 + 6 * t) 3 = some (σ.1 (143 + 6 * t) 3) := pu_gI (po_tags t ht) rfl σ
theorem po_tp {t : Nat} (ht : t < 16) (σ : pu_S) (v : Int32) : im_pV (pu_mk σ) 6 (143 + 6 * t) 3 (.int v) = some (pu_mk (pu_sI σ (143 + 6 * t) 3 v)) := pu_pI (po_tags t ht) rfl σ v
/-- an int is a number, or below 0 -/
theorem pn_case (x : Int32) : x < 0 ∨ ∃ k, k < 2 ^ 31 ∧ x = nI k := by
  by_cases h : x < 0
  · exact Or.inl h
  · exact Or.inr (nI_of h)
def pk_t (tg : List pg_E) (x : Int32) : Bool := decide (¬ x < 0 ∧ x.toNatClampNeg < tg.length)
theorem po_isTag (hp : pk_is σ tg su pl) (x : Int32) : sh_LT_isTag F 0 x (pu_mk σ) = some (pb_b (pk_t tg x), pu_mk σ) := by
  have hl := hp.2.1
  unfold sh_LT_isTag sh_LT_isTag_16 sh_LT_isTag_17
  rcases pn_case x with h | ⟨k, hk, rfl⟩
  · have e : pk_t tg x = false := by simp [pk_t, h]
    rw [if_pos h, e]
    exact pb_rz0 _
  · have h0 : ¬ nI k < 0 := nI_pos hk
    have h6 : nI tg.length ≤ nI k ↔ tg.length ≤ k := nI_leI (by omega) hk
    rw [if_neg h0, po_13, Option.bind_some, hp.1]
    by_cases h1 : tg.length ≤ k
    · have e : pk_t tg (nI k) = false := by simp [pk_t, nI_clamp hk, h0]; omega
      rw [if_pos (h6.mpr h1), e]
      exact pb_rz0 _
    · have e : pk_t tg (nI k) = true := by simp [pk_t, nI_clamp hk, h0]; omega
      rw [if_neg (fun q => h1 (h6.mp q)), e]
      exact pb_rz1 _
theorem pk_t_s {x : Int32} (h : pk_t tg x = true) : ∃ t, t < tg.length ∧ x = nI t := by
  simp only [pk_t, decide_eq_true_eq] at h
  obtain ⟨k, hk, rfl⟩ := nI_of h.1
  rw [nI_clamp hk] at h
  exact ⟨k, h.2, rfl⟩
def pk_k (x : Int32) : Bool := decide (¬ x < 0 ∧ x.toNatClampNeg < 8)
theorem po_isKey (x : Int32) (w : im_W) : sh_LT_isKey F x w = some (pb_b (pk_k x), w) := by
  unfold sh_LT_isKey sh_LT_isKey_14 sh_LT_isKey_15
  rcases pn_case x with h | ⟨k, hk, rfl⟩
  · have e : pk_k x = false := by simp [pk_k, h]
    rw [if_pos h, e]
    exact pb_rz0 _
  · have h0 : ¬ nI k < 0 := nI_pos hk
    have h6 : (8 : Int32) ≤ nI k ↔ 8 ≤ k := nI_leI (a := 8) (by decide) hk
    rw [if_neg h0]
    by_cases h1 : 8 ≤ k
    · have e : pk_k (nI k) = false := by simp [pk_k, nI_clamp hk, h0]; omega
      rw [if_pos (h6.mpr h1), e]
      exact pb_rz0 _
    · have e : pk_k (nI k) = true := by simp [pk_k, nI_clamp hk, h0]; omega
      rw [if_neg (fun q => h1 (h6.mp q)), e]
      exact pb_rz1 _
theorem pk_k_s {x : Int32} (h : pk_k x = true) : ∃ t, t < 8 ∧ x = nI t := by
  simp only [pk_k, decide_eq_true_eq] at h
  obtain ⟨k, hk, rfl⟩ := nI_of h.1
  rw [nI_clamp hk] at h
  exact ⟨k, h.2, rfl⟩
theorem po_tagsN (hp : pk_is σ tg su pl) : sh_LT_tags F 0 (pu_mk σ) = some (nI tg.length, pu_mk σ) := by
  unfold sh_LT_tags
  rw [po_13, Option.bind_some, hp.1]
theorem po_found (hp : pk_is σ tg su pl) : sh_LT_found F 0 (pu_mk σ) = some (pl, pu_mk σ) := by
  unfold sh_LT_found
  rw [po_15, Option.bind_some, hp.2.2.2.2.2.2.2.2]
theorem po_shown (hs : pt_is σ 3 62 sh) (x : Int32) : sh_LT_shown F 0 x (pu_mk σ) = some (nI (if ¬ x < 0 ∧ x.toNatClampNeg < sh.length then sh.getD x.toNatClampNeg 0 else 32), pu_mk σ) := by
  have hl := hs.2.2.1
  unfold sh_LT_shown
  rw [po_1, Option.bind_some, pu_is pt_shown.1, Option.bind_some]
  rcases pn_case x with h | ⟨k, hk, rfl⟩
  · rw [pt_atneg x h, im_b2_s, if_neg (fun q => q.1 h)]
    exact pb_rc (k := 32) (by decide) _
  · have h0 : ¬ nI k < 0 := nI_pos hk
    rw [nI_clamp hk]
    by_cases hb : k < 100000
    · rw [pt_at pt_shown hs hb, im_b2_s]
      have e : (¬ nI k < 0 ∧ k < sh.length) ↔ k < sh.length := by simp [h0]
      by_cases h1 : k < sh.length
      · rw [if_pos h1, if_pos (e.mpr h1)]
        exact pb_rc (pb_getlt hs.2.2.2 k) _
      · rw [if_neg h1, if_neg (fun q => h1 q.2)]
        exact pb_rc (k := 32) (by decide) _
    · have h2 : ¬ nI k < nI sh.length := fun q => by
        have := (nI_ltI hk (show sh.length < 2 ^ 31 by omega)).mp q
        omega
      have e1 : sh_Text_at F 3 (nI k) (pu_mk σ) = some (nI 32, pu_mk σ) := by
        unfold sh_Text_at sh_Text_at_12 sh_Text_at_23
        rw [if_neg h0, pt_g1 pt_shown, Option.bind_some, hs.1, if_neg h2]
        exact pb_rc (k := 32) (by decide) _
      rw [e1, im_b2_s, if_neg (fun q => by have := q.2; omega)]
      exact pb_rc (k := 32) (by decide) _
def ty_ok (c : Nat) : Bool := pb_isL c || pb_isD c || pb_isC c || c == 61
theorem po_type (h : pt_is σ 1 60 ty) {c : Nat} (hc : c < 65536) : ∃ τ, sh_LT_type F 0 (nI c) (pu_mk σ) = some (pb_b (ty_ok c && decide (ty.length < 60)), pu_mk τ) ∧ pt_is τ 1 60 (if ty_ok c = true ∧ ty.length < 60 then ty ++ [c] else ty) ∧ pu_fr (fun x => x = 1 ∨ x = 2) σ τ := by
  have key : ∀ b : Bool, ∃ τ, sh_LT_type_32 F 0 (nI c) (pb_b b) (pu_mk σ) = some (pb_b (b && decide (ty.length < 60)), pu_mk τ) ∧ pt_is τ 1 60 (if b = true ∧ ty.length < 60 then ty ++ [c] else ty) ∧ pu_fr (fun x => x = 1 ∨ x = 2) σ τ := by
    intro b
    cases b with
    | false =>
      refine ⟨σ, ?_, by simpa using h, pu_fr.rf⟩
      unfold sh_LT_type_32 sh_LT_type_47
      rw [if_pos (show pb_b false = 0 from rfl)]
      exact pb_rz0 _
    | true =>
      unfold sh_LT_type_32 sh_LT_type_47
      rw [if_neg (by decide), po_0, Option.bind_some, pu_is pt_typed.1, Option.bind_some, pt_full pt_typed h, im_b2_s]
      by_cases hl : ty.length < 60
      · obtain ⟨τ, e, p, f⟩ := pt_append (F := F) pt_typed h hc hl
        have hd : decide (60 ≤ ty.length) = false := by simp; omega
        refine ⟨τ, ?_, by simpa [hl] using p, f⟩
        rw [hd, if_pos (show pb_b false = 0 from rfl), po_0, Option.bind_some, pu_is pt_typed.1, Option.bind_some, e, Option.bind_some]
        simp [hl, pb_rz1, pb_b]
      · have hd : decide (60 ≤ ty.length) = true := by simp; omega
        refine ⟨σ, ?_, by simpa [hl] using h, pu_fr.rf⟩
        rw [hd, if_neg (by decide)]
        simp [hl, pb_rz0, pb_b]
  have e61 : nI c = (61 : Int32) ↔ c = 61 := pb_eqn hc (b := 61) (by decide)
  have e0 : sh_LT_type F 0 (nI c) (pu_mk σ) = sh_LT_type_32 F 0 (nI c) (pb_b (ty_ok c)) (pu_mk σ) := by
    unfold sh_LT_type sh_LT_type_27
    rw [pb_isLetter hc, im_b2_s, pb_isDigit hc, im_b2_s, pb_isCut hc, im_b2_s]
    by_cases a : pb_isL c = true
    · simp only [ty_ok, a, Bool.true_or]
      rfl
    · have a : pb_isL c = false := by simpa using a
      by_cases b : pb_isD c = true
      · simp only [ty_ok, a, b, Bool.true_or, Bool.false_or]
        rfl
      · have b : pb_isD c = false := by simpa using b
        by_cases d : pb_isC c = true
        · simp only [ty_ok, a, b, d, Bool.true_or, Bool.false_or]
          rfl
        · have d : pb_isC c = false := by simpa using d
          by_cases e : c = 61
          · subst e
            rfl
          · have e' : (c == 61) = false := by simpa using e
            have e2 : ¬ nI c = (61 : Int32) := fun q => e (e61.mp q)
            rw [a, b, d]
            simp only [ty_ok, a, b, d, e', Bool.or_false]
            rw [if_pos (by rfl), if_pos (by rfl), if_pos (by rfl), if_neg e2]
            rfl
  rw [e0]
  exact key (ty_ok c)
theorem po_wipe : ∃ τ, sh_LT_wipe F 0 (pu_mk σ) = some (pu_mk τ) ∧ pt_is τ 1 60 [] ∧ pu_fr (fun x => x = 1 ∨ x = 2) σ τ := by
  obtain ⟨τ, e, p, f⟩ := pt_clear (F := F) (σ := σ) pt_typed
  refine ⟨τ, ?_, p, f⟩
  unfold sh_LT_wipe
  rw [po_0, Option.bind_some, pu_is pt_typed.1, Option.bind_some, e, Option.bind_some]
end LTS
