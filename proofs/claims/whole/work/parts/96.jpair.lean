/-! the model: pair -/
theorem pq_run61 : ∀ (ss : List (List Nat)) (off q : Nat) (rd rd' : List pr_E), pr_run ss off q rd = .inr rd' → ∀ s ∈ ss, ¬ pt_cut s = [] := by
  intro ss
  induction ss with
  | nil => intro _ _ _ _ _ s hs; cases hs
  | cons t ss ih =>
    intro off q rd rd' e s hs
    rw [pr_run] at e
    split at e
    · cases e
    · rename_i hc
      rcases List.mem_cons.mp hs with rfl | hs
      · intro z
        apply hc
        left
        unfold pr_role
        rw [if_pos z]
      · exact ih _ _ _ _ e s hs
theorem pq_segs61 : ∀ (l cur : List Nat), (61 ∈ l ∨ 61 ∈ cur) → ∃ s ∈ pr_segs cur l, 61 ∈ s
  | [], cur, h => ⟨cur, by rw [pr_segs]; exact List.mem_singleton.mpr rfl, h.elim (fun z => by cases z) id⟩
  | c :: l, cur, h => by
    rw [pr_segs]
    split
    · rename_i hc
      rcases h with h | h
      · rcases List.mem_cons.mp h with h | h
        · rw [← h] at hc
          exact absurd hc (by decide)
        · obtain ⟨s, hs, h61⟩ := pq_segs61 l [] (Or.inl h)
          exact ⟨s, List.mem_cons_of_mem _ hs, h61⟩
      · exact ⟨cur, List.mem_cons_self, h⟩
    · refine pq_segs61 l (cur ++ [c]) ?_
      rcases h with h | h
      · rcases List.mem_cons.mp h with h | h
        · right
          rw [← h]
          simp
        · exact Or.inl h
      · right
        exact List.mem_append.mpr (Or.inl h)
theorem pr_cut61 {ty : List Nat} {a b : Nat} (h : 61 ∈ (ty.drop a).take (b - a)) {rd : List pr_E} : ¬ pr_cut ty a b = .inr rd := by
  intro e
  obtain ⟨s, hs, h61⟩ := pq_segs61 _ [] (Or.inl h)
  have := pq_run61 _ _ _ _ _ e s hs
  have h2 := (pq_cut_in this).2.2
  rw [List.all_eq_true] at h2
  have := h2 61 h61
  revert this
  decide
theorem pk_pair_eq (ty : List Nat) (al : List pa_E) (l : List pp_E) (par : Bool) : pk_pair ty al l par = match pk_sgn ty with
    | none => (-1, none)
    | some m => match pk_plain ty al 0 m, pk_plain ty al (m + 1) ty.length with
      | some k1, some k2 => if pk_suit par k1 k2 = true then (if 10 ≤ l.length ∨ (pk_lead l k1).isSome = true then (-2, none) else (nI (l.length + 1), some (k1, k2))) else (-1, none)
      | _, _ => (-1, none) := by
  cases hf : ty.findIdx? (· == 61) with
  | none =>
    have e : pk_sgn ty = none := by unfold pk_sgn; rw [hf]
    unfold pk_pair
    rw [hf, e]
  | some m =>
    by_cases h : (ty.drop (m + 1)).any (· == 61) = true
    · have e : pk_sgn ty = none := by unfold pk_sgn; rw [hf]; exact if_pos h
      have hn : pk_plain ty al (m + 1) ty.length = none := by
        have h61 : 61 ∈ (ty.drop (m + 1)).take (ty.length - (m + 1)) := by
          rw [List.take_of_length_le (by simp)]
          rw [List.any_eq_true] at h
          obtain ⟨c, hc, hcc⟩ := h
          have : c = 61 := by simpa using hcc
          rw [← this]
          exact hc
        unfold pk_plain
        cases hc : pr_cut ty (m + 1) ty.length with
        | inl _ => rfl
        | inr rd => exact absurd hc (pr_cut61 h61)
      unfold pk_pair
      rw [hf, e]
      dsimp only
      rw [hn]
      cases pk_plain ty al 0 m <;> rfl
    · have e : pk_sgn ty = some m := by unfold pk_sgn; rw [hf]; exact if_neg h
      unfold pk_pair
      rw [hf, e]
      dsimp only
      cases pk_plain ty al 0 m <;> cases pk_plain ty al (m + 1) ty.length <;> rfl
theorem pm_pd_add {σ : pu_S} {d : Nat} (hd : d < 2) {l : List pp_E} (h : pm_pd σ d l) (h10 : l.length < 10) {e : pp_E} : pm_pd (pu_sA (pu_sA (pu_sA (pu_sA (pu_sA (pu_sA (pu_sA σ 260 (10 * d + l.length) (nI (pv_n e.1.1))) 261 (10 * d + l.length) (nI (pv_n e.1.2.1))) 262 (10 * d + l.length) (nI (pv_n e.1.2.2))) 263 (10 * d + l.length) (nI (pv_n e.2.1))) 264 (10 * d + l.length) (nI (pv_n e.2.2.1))) 265 (10 * d + l.length) (nI (pv_n e.2.2.2))) 259 d (nI (l.length + 1))) d (l ++ [e]) := by
  refine ⟨by simp [pu_sA], by simp; omega, fun i hi => ?_⟩
  have hi : i < l.length + 1 := by simpa using hi
  rw [pb_appG hi]
  by_cases hil : i = l.length
  · subst hil
    rw [if_pos rfl]
    refine ⟨⟨?_, ?_, ?_⟩, ?_, ?_, ?_⟩ <;> simp [pu_sA]
  · rw [if_neg hil]
    have hx : ¬ 10 * d + i = 10 * d + l.length := by omega
    obtain ⟨⟨a, b, c⟩, a', b', c'⟩ := h.2.2 i (by omega)
    refine ⟨⟨?_, ?_, ?_⟩, ?_, ?_, ?_⟩ <;> simp [pu_sA, hil] <;> (first | exact (by simpa using a) | exact (by simpa using b) | exact (by simpa using c) | exact (by simpa using a') | exact (by simpa using b') | exact (by simpa using c'))
theorem pm_pd_oth {σ : pu_S} {d d' p : Nat} (hd : ¬ d' = d) (hp : 10 * d ≤ p ∧ p < 10 * d + 10) {l : List pp_E} (h : pm_pd σ d' l) {v0 v1 v2 v3 v4 v5 v6 : Int32} : pm_pd (pu_sA (pu_sA (pu_sA (pu_sA (pu_sA (pu_sA (pu_sA σ 260 p v0) 261 p v1) 262 p v2) 263 p v3) 264 p v4) 265 p v5) 259 d v6) d' l := by
  have h10 := h.2.1
  refine ⟨by simp [pu_sA, hd]; exact h.1, h.2.1, fun i hi => ?_⟩
  have hx : ¬ 10 * d' + i = p := by omega
  obtain ⟨⟨a, b, c⟩, a', b', c'⟩ := h.2.2 i hi
  refine ⟨⟨?_, ?_, ?_⟩, ?_, ?_, ?_⟩ <;> simp [pu_sA, hx] <;> (first | exact (by simpa using a) | exact (by simpa using b) | exact (by simpa using c) | exact (by simpa using a') | exact (by simpa using b') | exact (by simpa using c'))
section MPA
variable {F : Nat} {σ τ : pu_S} {ty sh : List Nat} {al : List pa_E} {lk pa : List pp_E} {tg : List pg_E} {su : List Nat} {pl : Int32}
theorem pm_plain {A : pm_A} (hA : pm_ps σ ty A) (h60 : ty.length ≤ 60) (hpr : ∀ f, A.2.2.2.1 = some f → ∃ t, A.2.2.2.2 = some t ∧ f ≤ t ∧ t ≤ ty.length) : sh_Model_plain F 248 (pu_mk σ) = some (pb_b (decide (A.2.1 = [] ∧ A.2.2.1 = [] ∧ A.2.2.2.1 = none)), pu_mk σ) := by
  obtain ⟨-, q2, q3, q4, -⟩ := hA
  have v3 := q2.2.2.1
  have k3 := q3.2.2.1
  have z : ∀ l : List (Nat × Nat), l.length ≤ 32 → (nI l.length = (0 : Int32) ↔ l = []) := fun l hl => by
    have := nI_eq (a := l.length) (b := 0) (by omega) (by decide)
    rw [nI_0] at this
    rw [this]
    exact List.length_eq_zero_iff
  unfold sh_Model_plain sh_Model_plain_25 sh_Model_plain_26
  rw [pm_5, Option.bind_some, q2.1]
  by_cases h1 : A.2.1 = []
  · rw [if_pos ((z _ v3).mpr h1), pm_8, Option.bind_some, q3.1]
    by_cases h2 : A.2.2.1 = []
    · rw [if_pos ((z _ k3).mpr h2), pm_11, Option.bind_some, q4]
      cases h3 : A.2.2.2.1 with
      | none =>
        rw [if_neg (show ¬ (0 : Int32) ≤ pm_o none by decide), pb_rz1, decide_eq_true ⟨h1, h2, rfl⟩]; rfl
      | some f =>
        obtain ⟨t, -, h4, h5⟩ := hpr f h3
        rw [if_pos (show (0 : Int32) ≤ pm_o (some f) from nI_pos' (by omega)), pb_rz0, decide_eq_false (fun z => by cases z.2.2)]; rfl
    · rw [if_neg (fun y => h2 ((z _ k3).mp y)), pb_rz0, decide_eq_false (fun z => h2 z.2.1)]; rfl
  · rw [if_neg (fun y => h1 ((z _ v3).mp y)), pb_rz0, decide_eq_false (fun z => h1 z.1)]; rfl
/-- cutting a part for a pair: the core, or nothing -/
theorem pm_cutplain (hF : 100 ≤ F) (hp : pm_ty σ ty) (hm : pm_al σ (al.map pa_nm)) (hal : pa_gd al) {a b : Nat} (hab : a ≤ b) (hb : b ≤ ty.length) : ∃ τ v, sh_Model_parse F 248 (nI a) (nI b) (pu_mk σ) = some (v, pu_mk τ) ∧ pm_fr pm_S pm_T σ τ ∧ ((∃ k, pk_plain ty al a b = some k ∧ pc_gd k ∧ v = -1 ∧ sh_Model_plain F 248 (pu_mk τ) = some (pb_b true, pu_mk τ) ∧ τ.1 248 2 = nI (pv_n k.1) ∧ τ.1 248 3 = nI (pv_n k.2.1) ∧ τ.1 248 4 = nI (pv_n k.2.2)) ∨ (pk_plain ty al a b = none ∧ ((0 : Int32) ≤ v ∨ (v = -1 ∧ sh_Model_plain F 248 (pu_mk τ) = some (pb_b false, pu_mk τ))))) := by
  have h60 := hp.2.2.1
  obtain ⟨τ, v, e, f, m⟩ := pm_cutting hF hp hm hal hab hb
  refine ⟨τ, v, e, f, ?_⟩
  unfold pk_plain
  cases hc : pr_cut ty a b with
  | inl e =>
    rw [hc] at m
    have m : v = nI (e + a) := m
    have := pr_cut_err h60 _ _ _ hc
    right
    exact ⟨rfl, Or.inl (by rw [m]; exact nI_pos' (by omega))⟩
  | inr rd =>
    rw [hc] at m
    have m : v = -1 ∧ ∃ A, pm_ps τ ty A ∧ pm_rd ty al rd A := m
    obtain ⟨mv, A, hA, h1, -, -, -, h5, -, h7⟩ := m
    have hpl := pm_plain (F := F) hA h60 h5
    dsimp only
    by_cases hq : (pr_form al rd).length = pc_n (pr_core al rd)
    · left
      have q := hA.1
      rw [h1] at q
      rw [decide_eq_true (show A.2.1 = [] ∧ A.2.2.1 = [] ∧ A.2.2.2.1 = none from h7.mpr hq)] at hpl
      exact ⟨_, if_pos hq, pq_core h60 hc hal, mv, hpl, q.1, q.2.1, q.2.2⟩
    · right
      rw [decide_eq_false (show ¬ (A.2.1 = [] ∧ A.2.2.1 = [] ∧ A.2.2.2.1 = none) from fun z => hq (h7.mp z))] at hpl
      exact ⟨if_neg hq, Or.inr ⟨mv, hpl⟩⟩
theorem pk_lead_ld {l : List pp_E} (hg : pp_gd l) {k : pc_C} (hk : pc_gd k) : pk_lead l k = pm_ld l k := by
  unfold pk_lead pm_ld
  induction l with
  | nil => rfl
  | cons e l ih =>
    rw [List.findIdx?_cons, List.findIdx?_cons, ih (fun x hx => hg x (List.mem_cons_of_mem _ hx))]
    have := pc_list_inj (hg e List.mem_cons_self).1 hk
    by_cases h : e.1 = k
    · rw [decide_eq_true h, decide_eq_true (this.mpr h)]
    · rw [decide_eq_false h, decide_eq_false (fun z => h (this.mp z))]
theorem pm_pair (hF : 100 ≤ F) (R : rm_is σ ty sh al lk pa tg su pl) (hal : pa_gd al) (hlk : pp_gd lk) (hpa : pp_gd pa) (par : Bool) : ∃ τ, sh_Model_pair F 248 (pb_b par) (pu_mk σ) = some ((pk_pair ty al (if par then pa else lk) par).1, pu_mk τ) ∧ pu_fr (fun x => 248 ≤ x) σ τ ∧ (match (pk_pair ty al (if par then pa else lk) par).2 with
    | none => rm_is τ ty sh al lk pa tg su pl
    | some e => (pc_gd e.1 ∧ pc_gd e.2) ∧ rm_is τ [] sh al (if par then lk else lk ++ [e]) (if par then pa ++ [e] else pa) tg su pl) := by
  have h60 := R.1.2.2.1
  have SX : ∀ {σ τ : pu_S}, pm_fr pm_S pm_T σ τ → pm_fr pm_X pm_Z σ τ ∧ pu_fr (fun x => 248 ≤ x) σ τ := fun h => ⟨h.XZ (fun x h => by unfold pm_S at h; omega) pm_TZ, pm_frX_hi h (fun x h => by unfold pm_S at h; omega)⟩
  rw [pk_pair_eq]
  unfold sh_Model_pair sh_Model_pair_25 sh_Model_pair_112
  rw [pm_i, Option.bind_some, pm_equalSign' R.1 (by omega), im_b2_s]
  cases hq : pk_sgn ty with
  | none =>
    rw [if_pos (show pm_o none < 0 by decide)]
    exact ⟨σ, rfl, pu_fr.rf, R⟩
  | some m =>
    obtain ⟨-, hml⟩ := pk_sgn_some hq
    dsimp only
    rw [if_neg (pm_o_neg (by omega)), show pm_o (some m) = nI m from rfl]
    obtain ⟨τ1, v1, e1, f1, c1⟩ := pm_cutplain hF R.1 R.2.2.1 hal (Nat.zero_le m) (show m ≤ ty.length by omega)
    obtain ⟨x1, y1⟩ := SX f1
    have R1 := R.fr x1
    rw [nI_0] at e1
    rw [pm_i, Option.bind_some, e1, im_b2_s]
    rcases c1 with ⟨k1, p1, g1, w1, l1, n1, n2, n3⟩ | ⟨p1, c1⟩
    · rw [w1, if_neg (show ¬ (0 : Int32) ≤ -1 by decide), pm_i, Option.bind_some, l1, im_b2_s, if_neg (show ¬ pb_b true = 0 by decide), pm_2, Option.bind_some, n1, pm_3, Option.bind_some, n2, pm_4, Option.bind_some, n3, pm_0, Option.bind_some, R1.1.1, pm_i, Option.bind_some, nI_1]
      obtain ⟨τ2, v2, e2, f2, c2⟩ := pm_cutplain hF R1.1 R1.2.2.1 hal (show m + 1 ≤ ty.length by omega) (Nat.le_refl _)
      obtain ⟨x2, y2⟩ := SX f2
      have R2 := R1.fr x2
      have y12 := y1.tr y2
      rw [e2, im_b2_s]
      rcases c2 with ⟨k2, p2, g2, w2, l2, r1, r2, r3⟩ | ⟨p2, c2⟩
      · rw [w2, if_neg (show ¬ (0 : Int32) ≤ -1 by decide), pm_i, Option.bind_some, l2, im_b2_s, if_neg (show ¬ pb_b true = 0 by decide), p1, p2]
        dsimp only
        -- the end, for a pair that suits
        have main : ∀ (d : Nat), d < 2 → ∀ l : List pp_E, pm_pd τ2 d l → pp_gd l → ∃ τ, sh_Model_pair_123 F 248 (nI (pv_n k1.1)) (nI (pv_n k1.2.1)) (nI (pv_n k1.2.2)) (nI d) (pu_mk τ2) = some (if 10 ≤ l.length ∨ (pk_lead l k1).isSome = true then -2 else nI (l.length + 1), pu_mk τ) ∧ (if 10 ≤ l.length ∨ (pk_lead l k1).isSome = true then τ = τ2 else l.length < 10 ∧ τ = pu_sI (pu_sA (pu_sA (pu_sA (pu_sA (pu_sA (pu_sA (pu_sA τ2 260 (10 * d + l.length) (nI (pv_n k1.1))) 261 (10 * d + l.length) (nI (pv_n k1.2.1))) 262 (10 * d + l.length) (nI (pv_n k1.2.2))) 263 (10 * d + l.length) (nI (pv_n k2.1))) 264 (10 * d + l.length) (nI (pv_n k2.2.1))) 265 (10 * d + l.length) (nI (pv_n k2.2.2))) 259 d (nI (l.length + 1))) 248 0 0) := by
          intro d hd l hl hgl
          have h10 := hl.2.1
          have L := pm_leads (F := F) (by omega) hd g1 hl hgl
          rw [pk_lead_ld hgl g1]
          have k10 : nI l.length = (10 : Int32) ↔ l.length = 10 := nI_eq (b := 10) (by omega) (by decide)
          have ix : (10 : Int32) * nI d + nI l.length = nI (10 * d + l.length) := by
            rw [show (10 : Int32) * nI d = nI (10 * d) from pn_mul 10 d, nI_add]
          unfold sh_Model_pair_123 sh_Model_pair_151
          rw [pm_i, Option.bind_some, L, im_b2_s]
          cases hld : pm_ld l k1 with
          | some i =>
            have hi := pm_ld_lt hld
            have hc : 10 ≤ l.length ∨ (some i).isSome = true := Or.inr rfl
            rw [if_pos (show (0 : Int32) ≤ pm_od d (some i) from nI_pos' (by omega))]
            exact ⟨τ2, by rw [if_pos hc], by rw [if_pos hc]⟩
          | none =>
            rw [if_neg (show ¬ (0 : Int32) ≤ pm_od d none by show ¬ (0 : Int32) ≤ -1; decide), pm_21, Option.bind_some, pm_l259 τ2 hd, Option.bind_some, hl.1]
            by_cases hf : l.length = 10
            · have hc : 10 ≤ l.length ∨ (none : Option Nat).isSome = true := Or.inl (by omega)
              rw [if_pos (k10.mpr hf)]
              exact ⟨τ2, by rw [if_pos hc], by rw [if_pos hc]⟩
            · have hno : ¬ (10 ≤ l.length ∨ (none : Option Nat).isSome = true) := fun z => z.elim (by omega) (by decide)
              rw [if_neg (fun z => hf (k10.mp z))]
              have hp20 : 10 * d + l.length < 20 := by omega
              refine ⟨_, ?_, by rw [if_neg hno]; exact ⟨by omega, rfl⟩⟩
              rw [if_neg hno]
              have o : ∀ (ρ : pu_S) (x j : Nat) (v : Int32), ¬ x = 259 → (pu_sA ρ x j v).2.2.1 259 d = ρ.2.2.1 259 d := fun ρ x j v hx => by
                simp [pu_sA]
                intro z
                exact absurd z.symm hx
              have s6 : (pu_sA (pu_sA (pu_sA (pu_sA (pu_sA (pu_sA τ2 260 (10 * d + l.length) (nI (pv_n k1.1))) 261 (10 * d + l.length) (nI (pv_n k1.2.1))) 262 (10 * d + l.length) (nI (pv_n k1.2.2))) 263 (10 * d + l.length) (nI (pv_n k2.1))) 264 (10 * d + l.length) (nI (pv_n k2.2.1))) 265 (10 * d + l.length) (nI (pv_n k2.2.2))).2.2.1 259 d = nI l.length := by
                rw [o _ _ _ _ (by decide), o _ _ _ _ (by decide), o _ _ _ _ (by decide), o _ _ _ _ (by decide), o _ _ _ _ (by decide), o _ _ _ _ (by decide)]
                exact hl.1
              rw [Option.bind_some, pm_l259 τ2 hd, Option.bind_some, hl.1, ix, pm_22, Option.bind_some, pm_t260 _ _ hp20, Option.bind_some, pm_23, Option.bind_some, pm_t261 _ _ hp20, Option.bind_some, pm_24, Option.bind_some, pm_t262 _ _ hp20, Option.bind_some, pm_25, Option.bind_some, pm_2, Option.bind_some, show (pu_sA (pu_sA (pu_sA τ2 260 (10 * d + l.length) (nI (pv_n k1.1))) 261 (10 * d + l.length) (nI (pv_n k1.2.1))) 262 (10 * d + l.length) (nI (pv_n k1.2.2))).1 248 2 = nI (pv_n k2.1) from r1, pm_t263 _ _ hp20, Option.bind_some, pm_26, Option.bind_some, pm_3, Option.bind_some, show (pu_sA (pu_sA (pu_sA (pu_sA τ2 260 (10 * d + l.length) (nI (pv_n k1.1))) 261 (10 * d + l.length) (nI (pv_n k1.2.1))) 262 (10 * d + l.length) (nI (pv_n k1.2.2))) 263 (10 * d + l.length) (nI (pv_n k2.1))).1 248 3 = nI (pv_n k2.2.1) from r2, pm_t264 _ _ hp20, Option.bind_some, pm_27, Option.bind_some, pm_4, Option.bind_some, show (pu_sA (pu_sA (pu_sA (pu_sA (pu_sA τ2 260 (10 * d + l.length) (nI (pv_n k1.1))) 261 (10 * d + l.length) (nI (pv_n k1.2.1))) 262 (10 * d + l.length) (nI (pv_n k1.2.2))) 263 (10 * d + l.length) (nI (pv_n k2.1))) 264 (10 * d + l.length) (nI (pv_n k2.2.1))).1 248 4 = nI (pv_n k2.2.2) from r3, pm_t265 _ _ hp20, Option.bind_some, pm_21, Option.bind_some, pm_l259 _ hd, Option.bind_some, s6, nI_1, pm_t259 _ _ hd, Option.bind_some, pm_p0, Option.bind_some, pm_21, Option.bind_some, pm_l259 _ hd, Option.bind_some]
              congr 2
              simp [pu_sI, pu_sA]
        have fin : ∀ (d : Nat) (l : List pp_E), d < 2 → l.length < 10 → pm_fr (fun x => 259 ≤ x ∧ x ≤ 265) (fun k => k = 0) τ2 (pu_sI (pu_sA (pu_sA (pu_sA (pu_sA (pu_sA (pu_sA (pu_sA τ2 260 (10 * d + l.length) (nI (pv_n k1.1))) 261 (10 * d + l.length) (nI (pv_n k1.2.1))) 262 (10 * d + l.length) (nI (pv_n k1.2.2))) 263 (10 * d + l.length) (nI (pv_n k2.1))) 264 (10 * d + l.length) (nI (pv_n k2.2.1))) 265 (10 * d + l.length) (nI (pv_n k2.2.2))) 259 d (nI (l.length + 1))) 248 0 0) := fun d l _ _ => (((((((pm_fr.aA (pm_fr.rf (S := fun x => 259 ≤ x ∧ x ≤ 265) (T := fun k => k = 0)) (x := 260) (by decide) _ _).aA (x := 261) (by decide) _ _).aA (x := 262) (by decide) _ _).aA (x := 263) (by decide) _ _).aA (x := 264) (by decide) _ _).aA (x := 265) (by decide) _ _).aA (x := 259) (by decide) _ _).aI rfl _
        have back : ∀ (ρ : pu_S) (f : pm_fr (fun x => 259 ≤ x ∧ x ≤ 265) (fun k => k = 0) τ2 ρ) (lk' pa' : List pp_E), pm_pd ρ 0 lk' → pm_pd ρ 1 pa' → ρ.1 248 0 = 0 → rm_is ρ [] sh al lk' pa' tg su pl := by
          intro ρ f lk' pa' h0 h1 hz
          obtain ⟨a, b, c, -, -, f', g, i⟩ := R2
          exact ⟨⟨by rw [hz]; exact nI_0.symm, fun i hi => (by simp at hi), by simp, by simp⟩, b.fr f (by decide) (by decide), c.fr f (by decide) (fun x _ _ z => by omega), h0, h1, f'.fr f (by decide) (fun x _ _ z => by omega), g.fr f (by decide) (by decide), (f.2 43 (by decide)).trans i⟩
        have sI0 : ∀ (ρ : pu_S) (d : Nat) (l : List pp_E), pm_pd ρ d l → pm_pd (pu_sI ρ 248 0 0) d l := fun ρ d l h => h.fr (S := fun _ => False) (T := fun k => k = 0) (pm_fr.sI rfl) (fun _ _ _ z => z)
        cases par with
        | false =>
          obtain ⟨τ, e3, m3⟩ := main 0 (by decide) lk R2.2.2.2.1 hlk
          rw [nI_0] at e3
          show ∃ τ, _ = some ((if pk_suit false k1 k2 = true then (if 10 ≤ lk.length ∨ (pk_lead lk k1).isSome = true then ((-2 : Int32), (none : Option pp_E)) else (nI (lk.length + 1), some (k1, k2))) else (-1, none)).1, pu_mk τ) ∧ pu_fr (fun x => 248 ≤ x) σ τ ∧ (match (if pk_suit false k1 k2 = true then (if 10 ≤ lk.length ∨ (pk_lead lk k1).isSome = true then ((-2 : Int32), (none : Option pp_E)) else (nI (lk.length + 1), some (k1, k2))) else (-1, none)).2 with
            | none => rm_is τ ty sh al lk pa tg su pl
            | some e => (pc_gd e.1 ∧ pc_gd e.2) ∧ rm_is τ [] sh al (lk ++ [e]) pa tg su pl)
          obtain ⟨o1, o2, o3⟩ := pc_gd_vok g2
          have suit : pk_suit false k1 k2 = true ↔ ¬ k2.2.1 = [] ∧ ¬ k2.2.2 = [] := by
            unfold pk_suit
            simp
          rw [if_pos (show pb_b false = 0 from rfl), pm_3, Option.bind_some, r2]
          by_cases z2 : k2.2.1 = []
          · rw [if_pos ((pv_zz o2).mpr z2), if_neg (show ¬ pk_suit false k1 k2 = true from fun z => (suit.mp z).1 z2)]
            exact ⟨τ2, rfl, y12, R2⟩
          rw [if_neg (fun z => z2 ((pv_zz o2).mp z)), pm_4, Option.bind_some, r3]
          by_cases z3 : k2.2.2 = []
          · rw [if_pos ((pv_zz o3).mpr z3), if_neg (show ¬ pk_suit false k1 k2 = true from fun z => (suit.mp z).2 z3)]
            exact ⟨τ2, rfl, y12, R2⟩
          rw [if_neg (fun z => z3 ((pv_zz o3).mp z)), if_pos (suit.mpr ⟨z2, z3⟩)]
          unfold sh_Model_pair_114
          rw [if_pos (show pb_b false = 0 from rfl), e3]
          by_cases hc : 10 ≤ lk.length ∨ (pk_lead lk k1).isSome = true
          · rw [if_pos hc] at m3
            rw [if_pos hc, if_pos hc, m3]
            exact ⟨τ2, rfl, y12, R2⟩
          · rw [if_neg hc] at m3
            rw [if_neg hc, if_neg hc]
            obtain ⟨hlt, m3⟩ := m3
            have ff := fin 0 lk (by decide) hlt
            rw [← m3] at ff
            refine ⟨τ, rfl, y12.tr (pm_frX_hi ff (fun x h => by omega)), ⟨g1, g2⟩, back τ ff _ _ ?_ ?_ ?_⟩
            · rw [m3]
              exact sI0 _ _ _ (pm_pd_add (by decide) R2.2.2.2.1 hlt (e := (k1, k2)))
            · rw [m3]
              exact sI0 _ _ _ (pm_pd_oth (by decide) ⟨by omega, by omega⟩ R2.2.2.2.2.1)
            · rw [m3]
              simp [pu_sI]
        | true =>
          obtain ⟨τ, e3, m3⟩ := main 1 (by decide) pa R2.2.2.2.2.1 hpa
          show ∃ τ, _ = some ((if pk_suit true k1 k2 = true then (if 10 ≤ pa.length ∨ (pk_lead pa k1).isSome = true then ((-2 : Int32), (none : Option pp_E)) else (nI (pa.length + 1), some (k1, k2))) else (-1, none)).1, pu_mk τ) ∧ pu_fr (fun x => 248 ≤ x) σ τ ∧ (match (if pk_suit true k1 k2 = true then (if 10 ≤ pa.length ∨ (pk_lead pa k1).isSome = true then ((-2 : Int32), (none : Option pp_E)) else (nI (pa.length + 1), some (k1, k2))) else (-1, none)).2 with
            | none => rm_is τ ty sh al lk pa tg su pl
            | some e => (pc_gd e.1 ∧ pc_gd e.2) ∧ rm_is τ [] sh al lk (pa ++ [e]) tg su pl)
          have suit : pk_suit true k1 k2 = true ↔ ¬ k1 = k2 := by
            unfold pk_suit
            simp [pc_list_inj g1 g2]
          obtain ⟨a1, a2, a3⟩ := pc_gd_31 g1
          obtain ⟨b1, b2, b3⟩ := pc_gd_31 g2
          have E := pc_gd_eq g1 g2
          have go : ¬ k1 = k2 → ∃ τ, sh_Model_pair_114 F 248 (pb_b true) (nI (pv_n k1.1)) (nI (pv_n k1.2.1)) (nI (pv_n k1.2.2)) (pu_mk τ2) = some ((if pk_suit true k1 k2 = true then (if 10 ≤ pa.length ∨ (pk_lead pa k1).isSome = true then ((-2 : Int32), (none : Option pp_E)) else (nI (pa.length + 1), some (k1, k2))) else (-1, none)).1, pu_mk τ) ∧ pu_fr (fun x => 248 ≤ x) σ τ ∧ (match (if pk_suit true k1 k2 = true then (if 10 ≤ pa.length ∨ (pk_lead pa k1).isSome = true then ((-2 : Int32), (none : Option pp_E)) else (nI (pa.length + 1), some (k1, k2))) else (-1, none)).2 with
              | none => rm_is τ ty sh al lk pa tg su pl
              | some e => (pc_gd e.1 ∧ pc_gd e.2) ∧ rm_is τ [] sh al lk (pa ++ [e]) tg su pl) := by
            intro hne
            unfold sh_Model_pair_114
            rw [if_neg (show ¬ pb_b true = 0 by decide), show (1 : Int32) = nI 1 from rfl, e3, if_pos (suit.mpr hne)]
            by_cases hc : 10 ≤ pa.length ∨ (pk_lead pa k1).isSome = true
            · rw [if_pos hc] at m3
              rw [if_pos hc, if_pos hc, m3]
              exact ⟨τ2, rfl, y12, R2⟩
            · rw [if_neg hc] at m3
              rw [if_neg hc, if_neg hc]
              obtain ⟨hlt, m3⟩ := m3
              have ff := fin 1 pa (by decide) hlt
              rw [← m3] at ff
              refine ⟨τ, rfl, y12.tr (pm_frX_hi ff (fun x h => by omega)), ⟨g1, g2⟩, back τ ff _ _ ?_ ?_ ?_⟩
              · rw [m3]
                exact sI0 _ _ _ (pm_pd_oth (by decide) ⟨by omega, by omega⟩ R2.2.2.2.1)
              · rw [m3]
                exact sI0 _ _ _ (pm_pd_add (by decide) R2.2.2.2.2.1 hlt (e := (k1, k2)))
              · rw [m3]
                simp [pu_sI]
          rw [if_neg (show ¬ pb_b true = 0 by decide), pm_2, Option.bind_some, r1]
          by_cases z1 : pv_n k1.1 = pv_n k2.1
          · rw [if_pos ((nI_eq a1 b1).mpr z1), pm_3, Option.bind_some, r2]
            by_cases z2 : pv_n k1.2.1 = pv_n k2.2.1
            · rw [if_pos ((nI_eq a2 b2).mpr z2), pm_4, Option.bind_some, r3]
              by_cases z3 : pv_n k1.2.2 = pv_n k2.2.2
              · rw [if_pos ((nI_eq a3 b3).mpr z3), if_neg (show ¬ pk_suit true k1 k2 = true from fun z => suit.mp z (E.mp ⟨z1, z2, z3⟩))]
                exact ⟨τ2, rfl, y12, R2⟩
              · rw [if_neg (fun z => z3 ((nI_eq a3 b3).mp z))]
                exact go (fun z => z3 (E.mpr z).2.2)
            · rw [if_neg (fun z => z2 ((nI_eq a2 b2).mp z))]
              exact go (fun z => z2 (E.mpr z).2.1)
          · rw [if_neg (fun z => z1 ((nI_eq a1 b1).mp z))]
            exact go (fun z => z1 (E.mpr z).1)
      · rw [p1, p2]
        dsimp only
        rcases c2 with c2 | ⟨c2, c3⟩
        · rw [if_pos c2]
          exact ⟨τ2, rfl, y12, R2⟩
        · rw [c2, if_neg (show ¬ (0 : Int32) ≤ -1 by decide), pm_i, Option.bind_some, c3, im_b2_s, if_pos (show pb_b false = 0 from rfl)]
          exact ⟨τ2, rfl, y12, R2⟩
    · rw [p1]
      dsimp only
      rcases c1 with c1 | ⟨c1, c3⟩
      · rw [if_pos c1]
        exact ⟨τ1, rfl, y1, R1⟩
      · rw [c1, if_neg (show ¬ (0 : Int32) ≤ -1 by decide), pm_i, Option.bind_some, c3, im_b2_s, if_pos (show pb_b false = 0 from rfl)]
        exact ⟨τ1, rfl, y1, R1⟩
end MPA
