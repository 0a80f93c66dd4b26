/-! support, put, get -/
theorem pb_setG {α : Type} {l : List α} {t i : Nat} {d x : α} (ht : t < l.length) : (l.set t x).getD i d = if i = t then x else l.getD i d := by
  rw [List.getD_eq_getElem?_getD, List.getD_eq_getElem?_getD]
  by_cases h : i = t
  · subst h
    rw [List.getElem?_set_self ht, if_pos rfl]
    rfl
  · rw [List.getElem?_set_ne (fun q => h q.symm), if_neg h]
theorem pb_appG {α : Type} {l : List α} {i : Nat} {d x : α} (hi : i < l.length + 1) : (l ++ [x]).getD i d = if i = l.length then x else l.getD i d := by
  by_cases h : i = l.length
  · subst h
    simp
  · rw [if_neg h, List.getD_eq_getElem?_getD, List.getElem?_append_left (by omega), ← List.getD_eq_getElem?_getD]
def pk_up (e : pg_E) (k : Nat) (v : Int32) : pg_E := (e.1, e.2.1, fun j => if j = k then some v else e.2.2 j)
section PUT
variable {F : Nat} {σ : pu_S} {lk pa : List pp_E} {tg : List pg_E} {su : List Nat} {pl : Int32}
theorem po_support (hp : pk_is σ tg su pl) (x : Int32) : ∃ τ, sh_LT_support F 0 x (pu_mk σ) = some (pb_b (pk_t tg x && !decide (x.toNatClampNeg ∈ su) && decide (su.length < 16)), pu_mk τ) ∧ pk_is τ tg (if pk_t tg x = true ∧ ¬ x.toNatClampNeg ∈ su ∧ su.length < 16 then su ++ [x.toNatClampNeg] else su) pl ∧ pu_fr (fun x => x = 0 ∨ (143 ≤ x ∧ x ≤ 239)) σ τ := by
  have hl := hp.2.1
  have hsl := hp.2.2.2.2.2.1
  unfold sh_LT_support sh_LT_support_29
  rw [pu_is po_sk, Option.bind_some, po_isTag hp, im_b2_s]
  by_cases h : pk_t tg x = true
  · rw [if_neg (by rw [h]; decide)]
    obtain ⟨t, ht, rfl⟩ := pk_t_s h
    have ht16 : t < 16 := by omega
    obtain ⟨x1, x2, x3, x4⟩ := hp.2.2.1 t ht
    rw [po_7, Option.bind_some, po_tag ht16, Option.bind_some, po_ts ht16, Option.bind_some, x3, nI_clamp (by omega)]
    by_cases hs : t ∈ su
    · refine ⟨σ, ?_, ?_, pu_fr.rf⟩
      · rw [if_neg (by rw [pb_dist]; exact fun q => q hs), h]
        simp [hs, pb_rz0, pb_b]
      · rw [if_neg (fun q => q.2.1 hs)]
        exact hp
    · rw [if_pos (by rw [pb_dist]; exact hs), po_14, Option.bind_some, hp.2.2.2.2.1]
      have h16 : nI su.length < (16 : Int32) ↔ su.length < 16 := nI_ltI (b := 16) (by omega) (by decide)
      by_cases hn : su.length < 16
      · refine ⟨pu_sI (pu_sA (pu_sI σ (143 + 6 * t) 3 1) 239 su.length (nI t)) 0 14 (nI (su.length + 1)), ?_, ?_, ?_⟩
        · have e1 : (pu_sI σ (143 + 6 * t) 3 1).1 0 14 = nI su.length := by
            simp only [pu_sI]
            rw [if_neg (by omega)]
            exact hp.2.2.2.2.1
          have e2 : (pu_sA (pu_sI σ (143 + 6 * t) 3 1) 239 su.length (nI t)).1 0 14 = nI su.length := e1
          have ez : im_z 1 = some () := by decide
          rw [if_pos (h16.mpr hn), Option.bind_some, po_tag ht16, Option.bind_some, ez, Option.bind_some, po_tp ht16, Option.bind_some, po_8, Option.bind_some, po_14, Option.bind_some, e1, pu_stIn po_su (by decide) _ _ hn (by decide), Option.bind_some, po_14, Option.bind_some, e2, nI_1, po_p14, Option.bind_some, pb_rz1, h]
          simp [hs, hn, pb_b]
        · rw [if_pos ⟨h, hs, hn⟩]
          refine ⟨?_, hl, fun s hsl2 => ?_, fun s h1 h2 => ?_, ?_, by simp; omega, fun i hi => ?_, fun s hmem => ?_, ?_⟩
          · simp only [pu_sI, pu_sA]
            rw [if_neg (by omega), if_neg (by omega)]
            exact hp.1
          · have fr : pu_fr (fun x => x = 0 ∨ x = 239 ∨ x = 143 + 6 * t) σ (pu_sI (pu_sA (pu_sI σ (143 + 6 * t) 3 1) 239 su.length (nI t)) 0 14 (nI (su.length + 1))) := ((pu_fr.sI (S := fun x => x = 0 ∨ x = 239 ∨ x = 143 + 6 * t) (by omega)).tr (pu_fr.sA (by omega))).tr (pu_fr.sI (by omega))
            by_cases hst : s = t
            · subst hst
              have hd : decide (s ∈ su ++ [s]) = true := by simp
              rw [hd]
              refine ⟨x1.fr fr (by omega) (by omega), x2.fr fr (by omega), ?_, fun k hk => ?_⟩
              · simp only [pu_sI, pu_sA]
                rw [if_neg (by omega), if_pos (by simp)]
                rfl
              · exact ⟨(fr _ (by omega) k).2.2.1.trans (x4 k hk).1, fun v hv => (fr _ (by omega) k).2.2.1.trans ((x4 k hk).2 v hv)⟩
            · have hd : decide (s ∈ su ++ [t]) = decide (s ∈ su) := by simp [hst]
              rw [hd]
              exact (hp.2.2.1 s hsl2).fr fr (fun x h1 h2 => by omega)
          · have fr : pu_fr (fun x => x = 0 ∨ x = 239 ∨ x = 143 + 6 * t) σ (pu_sI (pu_sA (pu_sI σ (143 + 6 * t) 3 1) 239 su.length (nI t)) 0 14 (nI (su.length + 1))) := ((pu_fr.sI (S := fun x => x = 0 ∨ x = 239 ∨ x = 143 + 6 * t) (by omega)).tr (pu_fr.sA (by omega))).tr (pu_fr.sI (by omega))
            exact (hp.2.2.2.1 s h1 h2).fr fr (fun x h1 h2 => by omega)
          · simp [pu_sI]
          · have hi : i < su.length + 1 := by simpa using hi
            rw [pb_appG hi]
            simp only [pu_sI, pu_sA]
            by_cases hil : i = su.length
            · rw [if_pos hil, if_pos (by simp [hil])]
            · rw [if_neg hil, if_neg (fun q => hil q.2)]
              exact hp.2.2.2.2.2.2.1 i (by omega)
          · rcases List.mem_append.mp hmem with hmem | hmem
            · exact hp.2.2.2.2.2.2.2.1 s hmem
            · simp at hmem
              omega
          · simp only [pu_sI, pu_sA]
            rw [if_neg (by omega), if_neg (by omega)]
            exact hp.2.2.2.2.2.2.2.2
        · exact ((pu_fr.sI (S := fun x => x = 0 ∨ (143 ≤ x ∧ x ≤ 239)) (by omega)).tr (pu_fr.sA (by omega))).tr (pu_fr.sI (by omega))
      · refine ⟨σ, ?_, ?_, pu_fr.rf⟩
        · rw [if_neg (fun q => hn (h16.mp q)), h]
          simp [hn, pb_rz0, pb_b]
        · rw [if_neg (fun q => hn q.2.2)]
          exact hp
  · have h' : pk_t tg x = false := by simpa using h
    refine ⟨σ, ?_, ?_, pu_fr.rf⟩
    · rw [if_pos (by rw [h']; rfl), h', Bool.false_and, Bool.false_and]
      exact pb_rz0 _
    · rw [if_neg (fun q => h q.1)]
      exact hp
theorem po_give (hp : pk_is σ tg su pl) {t k : Nat} (ht : t < tg.length) (hk : k < 8) (v : Int32) : ∃ τ, sh_Tag_give F (143 + 6 * t) (nI k) v (pu_mk σ) = some (pu_mk τ) ∧ pk_is τ (tg.set t (pk_up (tg.getD t pg_0) k v)) su pl ∧ pu_fr (fun x => 143 ≤ x ∧ x ≤ 239) σ τ := by
  have hl := hp.2.1
  have ht16 : t < 16 := by omega
  have hkk : pk_k (nI k) = true := by
    simp only [pk_k, nI_clamp (show k < 2 ^ 31 by omega), decide_eq_true_eq]
    exact ⟨nI_pos (by omega), hk⟩
  have fr : pu_fr (fun x => x = 147 + 6 * t ∨ x = 148 + 6 * t) σ (pu_sA (pu_sA σ (147 + 6 * t) k v) (148 + 6 * t) k 1) := (pu_fr.sA (S := fun x => x = 147 + 6 * t ∨ x = 148 + 6 * t) (by omega)).tr (pu_fr.sA (by omega))
  refine ⟨pu_sA (pu_sA σ (147 + 6 * t) k v) (148 + 6 * t) k 1, ?_, ?_, fr.mono (fun x hx => by omega)⟩
  · unfold sh_Tag_give sh_Tag_give_21
    rw [po_isKey, im_b2_s, hkk, if_neg (by decide), po_tv ht16, Option.bind_some, pu_stIn (po_vals t ht16) (by decide) _ _ hk (by decide), Option.bind_some, po_tg ht16, Option.bind_some, show vp_nar .boolean (1 : Int32) = 1 from rfl, pu_stIn (po_givs t ht16) (by decide) _ _ hk (by decide), Option.bind_some]
  · obtain ⟨x1, x2, x3, x4⟩ := hp.2.2.1 t ht
    refine ⟨by rw [List.length_set]; exact hp.1, by rw [List.length_set]; exact hl, fun s hs => ?_, fun s h1 h2 => ?_, hp.2.2.2.2.1, hp.2.2.2.2.2.1, fun i hi => ?_, fun s hmem => by rw [List.length_set]; exact hp.2.2.2.2.2.2.2.1 s hmem, hp.2.2.2.2.2.2.2.2⟩
    · rw [List.length_set] at hs
      rw [pb_setG ht]
      by_cases hst : s = t
      · subst hst
        rw [if_pos rfl]
        refine ⟨x1.fr fr (by omega) (by omega), x2.fr fr (by omega), x3, fun j hj => ⟨?_, fun u hu => ?_⟩⟩
        · simp only [pu_sA, pk_up]
          by_cases hjk : j = k
          · rw [if_pos ⟨trivial, hjk⟩, if_pos hjk]
            rfl
          · rw [if_neg (fun q => hjk q.2), if_neg (by omega), if_neg hjk]
            exact (x4 j hj).1
        · simp only [pu_sA, pk_up] at hu ⊢
          rw [if_neg (by omega)]
          by_cases hjk : j = k
          · rw [if_pos hjk] at hu
            rw [if_pos ⟨trivial, hjk⟩]
            exact Option.some.inj hu
          · rw [if_neg hjk] at hu
            rw [if_neg (fun q => hjk q.2)]
            exact (x4 j hj).2 u hu
      · rw [if_neg hst]
        exact (hp.2.2.1 s hs).fr fr (fun x h1 h2 => by omega)
    · rw [List.length_set] at h1
      exact (hp.2.2.2.1 s h1 h2).fr fr (fun x h1 h2 => by omega)
    · exact (fr 239 (by omega) i).2.2.1.trans (hp.2.2.2.2.2.2.1 i hi)
theorem po_put (hp : pk_is σ tg su pl) (x y v : Int32) : ∃ τ, sh_LT_put F 0 x y v (pu_mk σ) = some (pb_b (pk_t tg x && pk_k y), pu_mk τ) ∧ pk_is τ (if pk_t tg x = true ∧ pk_k y = true then tg.set x.toNatClampNeg (pk_up (tg.getD x.toNatClampNeg pg_0) y.toNatClampNeg v) else tg) su pl ∧ pu_fr (fun x => 143 ≤ x ∧ x ≤ 239) σ τ := by
  have hl := hp.2.1
  unfold sh_LT_put sh_LT_put_15
  rw [pu_is po_sk, Option.bind_some, po_isTag hp, im_b2_s, po_isKey, im_b2_s]
  by_cases h : pk_t tg x = true
  · by_cases h2 : pk_k y = true
    · obtain ⟨t, ht, rfl⟩ := pk_t_s h
      obtain ⟨k, hk, rfl⟩ := pk_k_s h2
      obtain ⟨τ, e, p, f⟩ := po_give (F := F) hp ht hk v
      refine ⟨τ, ?_, ?_, f⟩
      · rw [h, h2, if_neg (by decide), if_neg (by decide), po_7, Option.bind_some, po_tag (show t < 16 by omega), Option.bind_some, pu_is (po_tags t (by omega)), Option.bind_some, e, Option.bind_some]
        exact pb_rz1 _
      · rw [if_pos ⟨h, h2⟩, nI_clamp (by omega), nI_clamp (by omega)]
        exact p
    · have h' : pk_k y = false := by simpa using h2
      refine ⟨σ, ?_, ?_, pu_fr.rf⟩
      · rw [h, h', if_neg (by decide), if_pos (show pb_b false = 0 from rfl)]
        exact pb_rz0 _
      · rw [if_neg (fun q => h2 q.2)]
        exact hp
  · have h' : pk_t tg x = false := by simpa using h
    refine ⟨σ, ?_, ?_, pu_fr.rf⟩
    · rw [h', if_pos (show pb_b false = 0 from rfl)]
      exact pb_rz0 _
    · rw [if_neg (fun q => h q.1)]
      exact hp
theorem po_hasValue (hp : pk_is σ tg su pl) {t k : Nat} (ht : t < tg.length) (hk : k < 8) : sh_Tag_hasValue F (143 + 6 * t) (nI k) (pu_mk σ) = some (pb_b ((tg.getD t pg_0).2.2 k).isSome, pu_mk σ) := by
  have hl := hp.2.1
  have ht16 : t < 16 := by omega
  have hkk : pk_k (nI k) = true := by
    simp only [pk_k, nI_clamp (show k < 2 ^ 31 by omega), decide_eq_true_eq]
    exact ⟨nI_pos (by omega), hk⟩
  obtain ⟨x1, x2, x3, x4⟩ := hp.2.2.1 t ht
  unfold sh_Tag_hasValue sh_Tag_hasValue_20 sh_Tag_hasValue_21
  rw [po_isKey, im_b2_s, hkk, if_neg (by decide), po_tg ht16, Option.bind_some, pu_lIn (po_givs t ht16) (by decide) σ hk (by decide), Option.bind_some, (x4 k hk).1]
  cases ((tg.getD t pg_0).2.2 k).isSome with
  | false => exact pb_rz0 _
  | true => exact pb_rz1 _
theorem po_valueOf (hp : pk_is σ tg su pl) {t k : Nat} (ht : t < tg.length) (hk : k < 8) {v : Int32} (hv : (tg.getD t pg_0).2.2 k = some v) : sh_Tag_valueOf F (143 + 6 * t) (nI k) (pu_mk σ) = some (v, pu_mk σ) := by
  have hl := hp.2.1
  have ht16 : t < 16 := by omega
  have hkk : pk_k (nI k) = true := by
    simp only [pk_k, nI_clamp (show k < 2 ^ 31 by omega), decide_eq_true_eq]
    exact ⟨nI_pos (by omega), hk⟩
  obtain ⟨x1, x2, x3, x4⟩ := hp.2.2.1 t ht
  unfold sh_Tag_valueOf sh_Tag_valueOf_17
  rw [po_isKey, im_b2_s, hkk, if_neg (by decide), po_tv ht16, Option.bind_some, pu_lIn (po_vals t ht16) (by decide) σ hk (by decide), Option.bind_some, (x4 k hk).2 v hv]
/-! get -/
def pk_next (pa : List pp_E) (cur : List (List Nat)) : List (List Nat) := match pa.findIdx? (fun e => decide (pc_list e.1 = cur)) with
  | some i => pc_list (pa.getD i pp_0).2
  | none => pf_cutl cur
def pk_get (tg : List pg_E) (pa : List pp_E) (k : Nat) : Nat → List (List Nat) → Nat → Int32 × Nat
  | 0, _, _ => (0, 0)
  | n + 1, cur, place => if cur = [] then (0, 0) else match (pf_at? tg cur).bind (fun i => (tg.getD i pg_0).2.2 k) with
    | some v => (v, place)
    | none => pk_get tg pa k n (pk_next pa cur) (place + 1)
theorem pk_place (hp : pk_is σ tg su pl) (v : Int32) : pk_is (pu_sI σ 0 15 v) tg su v := by
  have fr : pu_fr (fun x => x = 0) σ (pu_sI σ 0 15 v) := pu_fr.sI rfl
  obtain ⟨a, b, c, d, e, f, g, i, j⟩ := hp
  refine ⟨?_, b, fun t ht => (c t ht).fr fr (fun x h1 h2 => by omega), fun t h1 h2 => (d t h1 h2).fr fr (fun x h3 h4 => by omega), ?_, f, fun k hk => (fr 239 (by omega) k).2.2.1.trans (g k hk), i, by simp [pu_sI]⟩
  · simp only [pu_sI]
    rw [if_neg (by omega)]
    exact a
  · simp only [pu_sI]
    rw [if_neg (by omega)]
    exact e
theorem po_get_41 (hF : 40 ≤ F) {k : Nat} (hk : k < 8) : ∀ (f n g m c : Nat) (qs : List (List Nat)), 14 ≤ f + n → 1 ≤ n → n ≤ 13 → pf_sk g m → pf_is σ g m qs → c ≤ qs.length → pp_is σ 75 pa → pk_is σ tg su 0 → ∃ τ, sh_LT_get_41 F f 0 (nI k) g (nI c) (nI n) (pu_mk σ) = some ((pk_get tg pa k (13 - n) (qs.take c) n).1, pu_mk τ) ∧ pk_is τ tg su (nI (pk_get tg pa k (13 - n) (qs.take c) n).2) ∧ pu_fr (fun x => x = 0) σ τ := by
  intro f
  induction f with
  | zero => intro n g m c qs h1 h2; omega
  | succ f ih =>
    intro n g m c qs h1 h2 h3 hg hq hc hpa hp
    have hl := hp.2.1
    have hql := hq.2.2.1
    have hm := hg.2.2.2
    have h6 : (12 : Int32) < nI n ↔ 12 < n := nI_ltI (a := 12) (by decide) (by omega)
    have h7 : nI c ≤ 0 ↔ c ≤ 0 := nI_leI (b := 0) (by omega) (by decide)
    unfold sh_LT_get_41 sh_LT_get_143
    by_cases h4 : 12 < n
    · refine ⟨σ, ?_, ?_, pu_fr.rf⟩
      · rw [if_pos (h6.mpr h4), show 13 - n = 0 by omega]
        rfl
      · rw [show 13 - n = 0 by omega]
        exact hp
    · rw [if_neg (fun q => h4 (h6.mp q)), show 13 - n = (13 - (n + 1)) + 1 by omega]
      by_cases h5 : c ≤ 0
      · have e : qs.take c = [] := by rw [show c = 0 by omega]; rfl
        refine ⟨σ, ?_, ?_, pu_fr.rf⟩
        · rw [if_pos (h7.mpr h5)]
          simp [pk_get, e]
        · simpa [pk_get, e, nI_0] using hp
      · have ne : ¬ qs.take c = [] := by
          intro q
          have h9 := congrArg List.length q
          rw [List.length_take, List.length_nil] at h9
          omega
        have e99 : ∃ τ, sh_LT_get_99 F (sh_LT_get_41 F f) 0 (nI k) g (nI c) (nI n) (pu_mk σ) = some ((pk_get tg pa k (13 - (n + 1)) (pk_next pa (qs.take c)) (n + 1)).1, pu_mk τ) ∧ pk_is τ tg su (nI (pk_get tg pa k (13 - (n + 1)) (pk_next pa (qs.take c)) (n + 1)).2) ∧ pu_fr (fun x => x = 0) σ τ := by
          unfold sh_LT_get_99 sh_LT_get_137
          rw [po_5, Option.bind_some, pu_is pp_sk75.1, Option.bind_some, pp_formBehind (by omega) pp_sk75 hpa hg hq hc, im_b2_s, nI_1]
          unfold pk_next
          cases hfi : pa.findIdx? (fun e => decide (pc_list e.1 = qs.take c)) with
          | none =>
            have := pf_tr_lt qs (show 1 ≤ c by omega)
            obtain ⟨τ, e, p, fr⟩ := ih (n + 1) g m (pf_tr qs c) qs (by omega) (by omega) (by omega) hg hq (by omega) hpa hp
            refine ⟨τ, ?_, ?_, fr⟩
            · show (im_is (pu_mk σ) 2 g).bind _ = _
              rw [pu_is hg.1, Option.bind_some, pf_truncated (by omega) hg hq (show 1 ≤ c by omega) (by omega), im_b2_s, e, pf_cutl_take hc (by omega)]
            · rw [pf_cutl_take hc (by omega)]
              exact p
          | some i =>
            have hi : i < pa.length := (List.findIdx?_eq_some_iff_getElem.mp hfi).1
            have h10 := hpa.2.1
            have s2 := (pp_sk75.2.2.2 i (by omega)).2.2
            have q2 := (hpa.2.2 i hi).2.1
            obtain ⟨τ, e, p, fr⟩ := ih (n + 1) _ 3 (pc_list (pa.getD i pp_0).2).length _ (by omega) (by omega) (by omega) s2 q2 (by omega) hpa hp
            rw [List.take_length] at e p
            refine ⟨τ, ?_, p, fr⟩
            show (im_is (pu_mk σ) 2 (75 + 6 + 6 * i)).bind _ = _
            rw [pu_is s2.1, Option.bind_some, pf_count s2 q2, im_b2_s, e]
        rw [if_neg (fun q => h5 (h7.mp q)), pu_is po_sk, Option.bind_some, po_tagWithForm hF hp hg hq hc, im_b2_s]
        unfold pk_get
        rw [if_neg ne]
        cases hat : pf_at? tg (qs.take c) with
        | none =>
          have hn : pr_n (none : Option Nat) < 0 := by decide
          rw [if_pos hn]
          exact e99
        | some j =>
          have hj := pf_at?_lt hat
          have hn : ¬ pr_n (some j) < 0 := nI_pos (by omega)
          have et : ∀ υ, im_lR (pu_mk υ) 4 142 (pr_n (some j)) = some (143 + 6 * j) := fun υ => po_tag (by omega) υ
          rw [if_neg hn, po_7, Option.bind_some, et, Option.bind_some, pu_is (po_tags j (by omega)), Option.bind_some, po_hasValue hp hj hk, im_b2_s]
          simp only [Option.bind_some]
          cases hv : (tg.getD j pg_0).2.2 k with
          | none =>
            rw [if_pos (show pb_b (none : Option Int32).isSome = 0 from rfl)]
            exact e99
          | some v =>
            have hp2 := pk_place hp (nI n)
            refine ⟨pu_sI σ 0 15 (nI n), ?_, hp2, pu_fr.sI rfl⟩
            rw [if_neg (show ¬ pb_b (some v).isSome = 0 by simp [pb_b]), po_p15, Option.bind_some, po_7, Option.bind_some, et, Option.bind_some, pu_is (po_tags j (by omega)), Option.bind_some, po_valueOf hp2 hj hk hv, im_b2_s]
theorem po_get (hF : 40 ≤ F) (hpa : pp_is σ 75 pa) (hp : pk_is σ tg su pl) (x y : Int32) : ∃ τ, sh_LT_get F 0 x y (pu_mk σ) = some (if pk_t tg x = true ∧ pk_k y = true then (pk_get tg pa y.toNatClampNeg 12 (tg.getD x.toNatClampNeg pg_0).1 1).1 else 0, pu_mk τ) ∧ pk_is τ tg su (if pk_t tg x = true ∧ pk_k y = true then nI (pk_get tg pa y.toNatClampNeg 12 (tg.getD x.toNatClampNeg pg_0).1 1).2 else 0) ∧ pu_fr (fun x => x = 0) σ τ := by
  have hl := hp.2.1
  have f0 : pu_fr (fun x => x = 0) σ (pu_sI σ 0 15 0) := pu_fr.sI rfl
  have hp0 := pk_place hp 0
  unfold sh_LT_get sh_LT_get_20
  rw [po_p15, Option.bind_some, pu_is po_sk, Option.bind_some, po_isTag hp0, im_b2_s, po_isKey, im_b2_s]
  by_cases h : pk_t tg x = true
  · by_cases h2 : pk_k y = true
    · obtain ⟨t, ht, rfl⟩ := pk_t_s h
      obtain ⟨k, hk, rfl⟩ := pk_k_s h2
      obtain ⟨x1, -⟩ := hp0.2.2.1 t ht
      obtain ⟨τ, e, p, f⟩ := po_get_41 (F := F) (σ := pu_sI σ 0 15 0) (pa := pa) (tg := tg) (su := su) hF hk F 1 _ 30 (tg.getD t pg_0).1.length _ (by omega) (by omega) (by omega) (po_forms t (by omega)) x1 (by omega) (hpa.fr f0 (by omega)) hp0
      rw [List.take_length] at e p
      refine ⟨τ, ?_, ?_, f0.tr f⟩
      · rw [if_pos (show pk_t tg (nI t) = true ∧ pk_k (nI k) = true from ⟨h, h2⟩), h, h2, if_neg (by decide), if_neg (by decide), po_7, Option.bind_some, po_tag (show t < 16 by omega), Option.bind_some, po_tf (show t < 16 by omega), Option.bind_some, pu_is (po_forms t (by omega)).1, Option.bind_some, pf_count (po_forms t (by omega)) x1, im_b2_s, nI_clamp (by omega), nI_clamp (by omega)]
        exact e
      · rw [if_pos ⟨h, h2⟩, nI_clamp (by omega), nI_clamp (by omega)]
        exact p
    · have h' : pk_k y = false := by simpa using h2
      refine ⟨pu_sI σ 0 15 0, ?_, ?_, f0⟩
      · rw [if_neg (show ¬ (pk_t tg x = true ∧ pk_k y = true) from fun q => h2 q.2), h, h', if_neg (by decide), if_pos (show pb_b false = 0 from rfl)]
      · rw [if_neg (fun q => h2 q.2)]
        exact hp0
  · have h' : pk_t tg x = false := by simpa using h
    refine ⟨pu_sI σ 0 15 0, ?_, ?_, f0⟩
    · rw [if_neg (show ¬ (pk_t tg x = true ∧ pk_k y = true) from fun q => h q.1), h', if_pos (show pb_b false = 0 from rfl)]
    · rw [if_neg (fun q => h q.1)]
      exact hp0
end PUT
