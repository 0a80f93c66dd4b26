/-! the class's calls over tags that were read -/
theorem pb_dist {P : Prop} [Decidable P] : pb_b (decide P) = 0 ↔ ¬ P := by rw [pb_b0]; simp
def pf_at? (tg : List pg_E) (cur : List (List Nat)) : Option Nat := tg.findIdx? (fun e => decide (e.1 = cur))
/-- truncating: the last subtag goes, and one of one character before it -/
def pf_cutl (cur : List (List Nat)) : List (List Nat) := cur.take (pf_tr cur cur.length)
theorem pf_tr_take {ps : List (List Nat)} {c : Nat} (hc : c ≤ ps.length) : pf_tr (ps.take c) c = pf_tr ps c := by
  unfold pf_tr
  by_cases h : 2 ≤ c
  · have e : (ps.take c).getD (c - 2) [] = ps.getD (c - 2) [] := by
      rw [List.getD_eq_getElem?_getD, List.getElem?_take_of_lt (by omega), ← List.getD_eq_getElem?_getD]
    rw [e]
  · rw [if_neg (fun q => h q.1), if_neg (fun q => h q.1)]
theorem pf_tr_lt (ps : List (List Nat)) {c : Nat} (hc : 1 ≤ c) : pf_tr ps c < c := by
  unfold pf_tr
  split <;> omega
theorem pf_cutl_take {ps : List (List Nat)} {c : Nat} (hc : c ≤ ps.length) (h1 : 1 ≤ c) : pf_cutl (ps.take c) = ps.take (pf_tr ps c) := by
  have hl : (ps.take c).length = c := by simp; omega
  have := pf_tr_lt ps h1
  unfold pf_cutl
  rw [hl, pf_tr_take hc, List.take_take]
  congr 1
  omega
section CLS
variable {F : Nat} {σ : pu_S} {ty sh : List Nat} {al : List pa_E} {lk pa : List pp_E} {tg : List pg_E} {su : List Nat} {pl : Int32}
theorem po_tagWithForm_2 (hF : 40 ≤ F) (hp : pk_is σ tg su pl) {g m c : Nat} (hg : pf_sk g m) {qs : List (List Nat)} (hq : pf_is σ g m qs) (hc : c ≤ qs.length) : ∀ (f i : Nat), tg.length + 1 ≤ f + i → i ≤ tg.length → sh_LT_tagWithForm_2 F f 0 g (nI c) (nI i) (pu_mk σ) = some (match (tg.drop i).findIdx? (fun e => decide (e.1 = qs.take c)) with
    | some j => nI (i + j)
    | none => -1, pu_mk σ) := by
  have hl := hp.2.1
  intro f
  induction f with
  | zero => intro i h1 h2; omega
  | succ f ih =>
    intro i h1 h2
    have h6 : nI tg.length ≤ nI i ↔ tg.length ≤ i := nI_leI (by omega) (by omega)
    unfold sh_LT_tagWithForm_2
    rw [po_13, Option.bind_some, hp.1]
    by_cases h3 : tg.length ≤ i
    · rw [if_pos (h6.mpr h3), List.drop_eq_nil_of_le h3]
      rfl
    · have hi : i < tg.length := by omega
      obtain ⟨x1, -⟩ := hp.2.2.1 i hi
      have x1l := x1.2.2.1
      rw [if_neg (fun q => h3 (h6.mp q)), po_7, Option.bind_some, po_tag (show i < 16 by omega), Option.bind_some, po_tf (show i < 16 by omega), Option.bind_some, pu_is (po_forms i (by omega)).1, Option.bind_some, pf_isStartOf (po_forms i (by omega)) hg x1 hq hc (by omega), im_b2_s, nI_1, pb_dropG pg_0 hi, List.findIdx?_cons]
      by_cases h7 : (tg.getD i pg_0).1 = qs.take c
      · rw [if_neg (by rw [pb_dist]; exact fun q => q h7)]
        simp only [h7, decide_true, if_true]
        rfl
      · rw [if_pos (by rw [pb_dist]; exact h7), ih (i + 1) (by omega) (by omega)]
        simp only [h7, decide_false, Bool.false_eq_true, if_false]
        cases (tg.drop (i + 1)).findIdx? (fun e => decide (e.1 = qs.take c)) with
        | none => rfl
        | some j =>
          simp only [Option.map_some]
          congr 3
          omega
theorem po_tagWithForm (hF : 40 ≤ F) (hp : pk_is σ tg su pl) {g m c : Nat} (hg : pf_sk g m) {qs : List (List Nat)} (hq : pf_is σ g m qs) (hc : c ≤ qs.length) : sh_LT_tagWithForm F 0 g (nI c) (pu_mk σ) = some (pr_n (pf_at? tg (qs.take c)), pu_mk σ) := by
  have hl := hp.2.1
  have h := po_tagWithForm_2 (F := F) hF hp hg hq hc F 0 (by omega) (by omega)
  rw [nI_0] at h
  unfold sh_LT_tagWithForm
  rw [h]
  unfold pf_at?
  simp only [List.drop_zero]
  cases tg.findIdx? (fun e => decide (e.1 = qs.take c)) with
  | none => rfl
  | some j => simp [pr_n]
theorem pf_at?_lt {cur : List (List Nat)} {i : Nat} (h : pf_at? tg cur = some i) : i < tg.length := (List.findIdx?_eq_some_iff_getElem.mp h).1
/-! lookup -/
def pk_look (tg : List pg_E) (su : List Nat) : Nat → List (List Nat) → Option Nat
  | 0, _ => none
  | n + 1, cur => if cur = [] then none else match pf_at? tg cur with
    | some i => if i ∈ su then some i else pk_look tg su n (pf_cutl cur)
    | none => pk_look tg su n (pf_cutl cur)
theorem po_lookup_28 (hF : 40 ≤ F) (hp : pk_is σ tg su pl) {g m : Nat} (hg : pf_sk g m) {qs : List (List Nat)} (hq : pf_is σ g m qs) : ∀ (f c i : Nat), 31 ≤ f + i → i ≤ 30 → c ≤ qs.length → sh_LT_lookup_28 F f 0 g (nI c) (nI i) (pu_mk σ) = some (pr_n (pk_look tg su (30 - i) (qs.take c)), pu_mk σ) := by
  have hl := hp.2.1
  have hql := hq.2.2.1
  have hm := hg.2.2.2
  intro f
  induction f with
  | zero => intro c i h1 h2; omega
  | succ f ih =>
    intro c i h1 h2 h3
    have h6 : (30 : Int32) ≤ nI i ↔ 30 ≤ i := nI_leI (a := 30) (by decide) (by omega)
    have h7 : nI c ≤ 0 ↔ c ≤ 0 := nI_leI (b := 0) (by omega) (by decide)
    unfold sh_LT_lookup_28 sh_LT_lookup_80
    by_cases h4 : 30 ≤ i
    · rw [if_pos (h6.mpr h4), show 30 - i = 0 by omega]
      rfl
    · rw [if_neg (fun q => h4 (h6.mp q)), show 30 - i = (30 - (i + 1)) + 1 by omega]
      by_cases h5 : c ≤ 0
      · have e : qs.take c = [] := by rw [show c = 0 by omega]; rfl
        rw [if_pos (h7.mpr h5)]
        simp [pk_look, e, pr_n]
      · have ne : ¬ qs.take c = [] := by
          intro q
          have h9 := congrArg List.length q
          rw [List.length_take, List.length_nil] at h9
          omega
        have e68 : sh_LT_lookup_68 F (sh_LT_lookup_28 F f) 0 g (nI c) (nI i) (pu_mk σ) = some (pr_n (pk_look tg su (30 - (i + 1)) (pf_cutl (qs.take c))), pu_mk σ) := by
          have := pf_tr_lt qs (show 1 ≤ c by omega)
          unfold sh_LT_lookup_68
          rw [pu_is hg.1, Option.bind_some, pf_truncated (by omega) hg hq (show 1 ≤ c by omega) (by omega), im_b2_s, nI_1, ih _ (i + 1) (by omega) (by omega) (by omega), pf_cutl_take h3 (by omega)]
        rw [if_neg (fun q => h5 (h7.mp q)), pu_is po_sk, Option.bind_some, po_tagWithForm hF hp hg hq h3, im_b2_s, e68]
        simp only [pk_look, ne, if_false]
        cases hat : pf_at? tg (qs.take c) with
        | none =>
          have hn : pr_n (none : Option Nat) < 0 := by decide
          rw [if_pos hn]
        | some j =>
          have hj := pf_at?_lt hat
          have hn : ¬ pr_n (some j) < 0 := nI_pos (by omega)
          have et : im_lR (pu_mk σ) 4 142 (pr_n (some j)) = some (143 + 6 * j) := po_tag (by omega) σ
          obtain ⟨-, -, x3, -⟩ := hp.2.2.1 j hj
          rw [if_neg hn, po_7, Option.bind_some, et, Option.bind_some, po_ts (by omega), Option.bind_some, x3]
          by_cases hs : j ∈ su
          · rw [if_neg (by rw [pb_dist]; exact fun q => q hs)]
            simp [hs, pr_n]
          · rw [if_pos (by rw [pb_dist]; exact hs)]
            simp [hs]
theorem po_lookup (hF : 40 ≤ F) (hp : pk_is σ tg su pl) (x : Int32) : sh_LT_lookup F 0 x (pu_mk σ) = some (if pk_t tg x = true then pr_n (pk_look tg su 30 (tg.getD x.toNatClampNeg pg_0).1) else -1, pu_mk σ) := by
  have hl := hp.2.1
  unfold sh_LT_lookup
  rw [pu_is po_sk, Option.bind_some, po_isTag hp, im_b2_s]
  by_cases h : pk_t tg x = true
  · obtain ⟨t, ht, rfl⟩ := pk_t_s h
    obtain ⟨x1, -⟩ := hp.2.2.1 t ht
    have hF2 : 31 ≤ F + 0 := by omega
    have key := po_lookup_28 (F := F) hF hp (po_forms t (by omega)) x1 F (tg.getD t pg_0).1.length 0 hF2 (by omega) (by omega)
    rw [nI_0, List.take_length] at key
    rw [if_neg (by rw [h]; decide), if_pos h, po_7, Option.bind_some, po_tag (show t < 16 by omega), Option.bind_some, po_tf (show t < 16 by omega), Option.bind_some, pu_is (po_forms t (by omega)).1, Option.bind_some, pf_count (po_forms t (by omega)) x1, im_b2_s, key, nI_clamp (by omega)]
  · have h' : pk_t tg x = false := by simpa using h
    rw [if_pos (by rw [h']; rfl), if_neg h]
/-! distance, best -/
def pk_dist (lk : List pp_E) (tg : List pg_E) (a b : Nat) : Nat := pc_far (pl_max lk (tg.getD a pg_0).2.1) (pl_max lk (tg.getD b pg_0).2.1)
theorem po_distanceOf (hF : 40 ≤ F) (hk : pp_is σ 12 lk) (hp : pk_is σ tg su pl) {a b : Nat} (ha : a < tg.length) (hb : b < tg.length) : ∃ τ, sh_LT_distanceOf F 0 (nI a) (nI b) (pu_mk σ) = some (nI (pk_dist lk tg a b), pu_mk τ) ∧ pu_fr (fun x => x = 246 ∨ x = 247) σ τ := by
  have hl := hp.2.1
  obtain ⟨-, xa, -⟩ := hp.2.2.1 a ha
  obtain ⟨-, xb, -⟩ := hp.2.2.1 b hb
  have sa := (po_forms a (by omega)).2.1
  have sb := (po_forms b (by omega)).2.1
  obtain ⟨σ1, e1, k1, f1⟩ := pl_maximise (F := F) (d := 246) (by omega) hk sa po_c1 (by omega) (by decide) xa
  obtain ⟨σ2, e2, k2, f2⟩ := pl_maximise (F := F) (d := 247) (by omega) (hk.fr f1 (by omega)) sb po_c2 (by omega) (by decide) (xb.fr f1 (by omega))
  refine ⟨σ2, ?_, (f1.mono (fun x hx => Or.inl hx)).tr (f2.mono (fun x hx => Or.inr hx))⟩
  unfold sh_LT_distanceOf
  rw [po_6, Option.bind_some, po_7, Option.bind_some, po_tag (show a < 16 by omega), Option.bind_some, po_tf (show a < 16 by omega), Option.bind_some, pf_g0 (po_forms a (by omega)), Option.bind_some, po_11, Option.bind_some, pu_is pl_sk, Option.bind_some, e1, Option.bind_some, po_6, Option.bind_some, po_7, Option.bind_some, po_tag (show b < 16 by omega), Option.bind_some, po_tf (show b < 16 by omega), Option.bind_some, pf_g0 (po_forms b (by omega)), Option.bind_some, po_12, Option.bind_some, pu_is pl_sk, Option.bind_some, e2, Option.bind_some, po_11, Option.bind_some, po_12, Option.bind_some, pu_is po_c1, Option.bind_some, pc_apartFrom po_c1 po_c2 (k1.fr f2 (by omega)) k2, im_b2_s]
  rfl
theorem po_distance (hF : 40 ≤ F) (hk : pp_is σ 12 lk) (hp : pk_is σ tg su pl) (x y : Int32) : ∃ τ, sh_LT_distance F 0 x y (pu_mk σ) = some (if pk_t tg x = true ∧ pk_t tg y = true then nI (pk_dist lk tg x.toNatClampNeg y.toNatClampNeg) else -1, pu_mk τ) ∧ pu_fr (fun x => x = 246 ∨ x = 247) σ τ := by
  have hl := hp.2.1
  unfold sh_LT_distance sh_LT_distance_25 sh_LT_distance_26
  rw [pu_is po_sk, Option.bind_some, po_isTag hp, im_b2_s]
  by_cases h : pk_t tg x = true
  · rw [if_neg (by rw [h]; decide), pu_is po_sk, Option.bind_some, po_isTag hp, im_b2_s]
    by_cases h2 : pk_t tg y = true
    · rw [if_neg (by rw [h2]; decide), pu_is po_sk, Option.bind_some, if_pos ⟨h, h2⟩]
      obtain ⟨a, ha, rfl⟩ := pk_t_s h
      obtain ⟨b, hb, rfl⟩ := pk_t_s h2
      obtain ⟨τ, e, f⟩ := po_distanceOf (F := F) hF hk hp ha hb
      refine ⟨τ, ?_, f⟩
      rw [e, im_b2_s, nI_clamp (by omega), nI_clamp (by omega)]
    · have h' : pk_t tg y = false := by simpa using h2
      refine ⟨σ, ?_, pu_fr.rf⟩
      rw [if_pos (by rw [h']; rfl), if_neg (fun q => h2 q.2)]
  · have h' : pk_t tg x = false := by simpa using h
    refine ⟨σ, ?_, pu_fr.rf⟩
    rw [if_pos (by rw [h']; rfl), if_neg (fun q => h q.1)]
def pk_best (lk : List pp_E) (tg : List pg_E) (t : Nat) : List Nat → Int32 → Nat → Int32
  | [], near, _ => near
  | s :: l, near, least => if pk_dist lk tg s t < least then pk_best lk tg t l (nI s) (pk_dist lk tg s t) else pk_best lk tg t l near least
theorem pc_far_le (k m : pc_C) : pc_far k m ≤ 125 := by
  unfold pc_far
  repeat' split
  all_goals omega
theorem po_best_18 (hF : 40 ≤ F) {t : Nat} (ht : t < tg.length) : ∀ (f i : Nat) (σ : pu_S) (near : Int32) (least : Nat), su.length + 1 ≤ f + i → i ≤ su.length → least ≤ 200 → pp_is σ 12 lk → pk_is σ tg su pl → ∃ τ, sh_LT_best_18 F f 0 (nI t) near (nI least) (nI i) (pu_mk σ) = some (pk_best lk tg t (su.drop i) near least, pu_mk τ) ∧ pu_fr (fun x => x = 246 ∨ x = 247) σ τ := by
  intro f
  induction f with
  | zero => intro i σ near least h1 h2; omega
  | succ f ih =>
    intro i σ near least h1 h2 hle hk hp
    have hl := hp.2.1
    have hsl := hp.2.2.2.2.2.1
    have h6 : nI su.length ≤ nI i ↔ su.length ≤ i := nI_leI (by omega) (by omega)
    unfold sh_LT_best_18
    rw [po_14, Option.bind_some, hp.2.2.2.2.1]
    by_cases h3 : su.length ≤ i
    · refine ⟨σ, ?_, pu_fr.rf⟩
      rw [if_pos (h6.mpr h3), List.drop_eq_nil_of_le h3]
      rfl
    · have hi : i < su.length := by omega
      have hsu := hp.2.2.2.2.2.2.1 i hi
      have hmem := hp.2.2.2.2.2.2.2.1 _ (pb_getG 0 hi)
      obtain ⟨τ, e, fr⟩ := po_distanceOf (F := F) hF hk hp hmem ht
      have hp1 := hp.fr fr (by omega) (by omega)
      have hk1 := hk.fr fr (by omega)
      have hfar : pk_dist lk tg (su.getD i 0) t ≤ 125 := pc_far_le _ _
      have h9 : nI least ≤ nI (pk_dist lk tg (su.getD i 0) t) ↔ least ≤ pk_dist lk tg (su.getD i 0) t := nI_leI (by omega) (by omega)
      have ea : ∀ υ, pk_is υ tg su pl → im_lI (pu_mk υ) 0 239 (nI i) = some (nI (su.getD i 0)) := fun υ hu => by
        rw [pu_lIn po_su (by decide) υ (show i < 16 by omega) (by decide), hu.2.2.2.2.2.2.1 i hi]
      rw [if_neg (fun q => h3 (h6.mp q)), po_8, Option.bind_some, ea σ hp, Option.bind_some, pu_is po_sk, Option.bind_some, e, im_b2_s, po_8, Option.bind_some, ea τ hp1, Option.bind_some]
      unfold sh_LT_best_58
      rw [nI_1, pb_dropG 0 hi]
      by_cases h5 : least ≤ pk_dist lk tg (su.getD i 0) t
      · obtain ⟨υ, e2, f2⟩ := ih (i + 1) τ near least (by omega) (by omega) hle hk1 hp1
        refine ⟨υ, ?_, fr.tr f2⟩
        rw [if_pos (h9.mpr h5), e2]
        unfold pk_best
        rw [if_neg (by omega)]
        cases su.drop (i + 1) <;> rfl
      · obtain ⟨υ, e2, f2⟩ := ih (i + 1) τ (nI (su.getD i 0)) (pk_dist lk tg (su.getD i 0) t) (by omega) (by omega) (by omega) hk1 hp1
        refine ⟨υ, ?_, fr.tr f2⟩
        rw [if_neg (fun q => h5 (h9.mp q)), e2]
        have ew : pk_best lk tg t (su.getD i 0 :: su.drop (i + 1)) near least = pk_best lk tg t (su.drop (i + 1)) (nI (su.getD i 0)) (pk_dist lk tg (su.getD i 0) t) := by rw [pk_best, if_pos (by omega)]
        rw [ew]
theorem po_best (hF : 40 ≤ F) (hk : pp_is σ 12 lk) (hp : pk_is σ tg su pl) (x : Int32) : ∃ τ, sh_LT_best F 0 x (pu_mk σ) = some (if pk_t tg x = true then pk_best lk tg x.toNatClampNeg su (-1) 50 else -1, pu_mk τ) ∧ pu_fr (fun x => x = 246 ∨ x = 247) σ τ := by
  have hl := hp.2.1
  have hsl := hp.2.2.2.2.2.1
  unfold sh_LT_best
  rw [pu_is po_sk, Option.bind_some, po_isTag hp, im_b2_s]
  by_cases h : pk_t tg x = true
  · obtain ⟨t, ht, rfl⟩ := pk_t_s h
    obtain ⟨τ, e, f⟩ := po_best_18 (F := F) hF (lk := lk) (su := su) (pl := pl) ht F 0 σ (-1) 50 (by omega) (by omega) (by omega) hk hp
    rw [nI_0] at e
    refine ⟨τ, ?_, f⟩
    rw [if_neg (by rw [h]; decide), if_pos h, nI_clamp (by omega)]
    exact e
  · have h' : pk_t tg x = false := by simpa using h
    refine ⟨σ, ?_, pu_fr.rf⟩
    rw [if_pos (by rw [h']; rfl), if_neg h]
/-! fits -/
theorem po_fits (hF : 40 ≤ F) (hp : pk_is σ tg su pl) (hne : ∀ t, t < tg.length → 1 ≤ (tg.getD t pg_0).1.length) (x y : Int32) : sh_LT_fits F 0 x y (pu_mk σ) = some (pb_b (pk_t tg x && pk_t tg y && pf_within (tg.getD y.toNatClampNeg pg_0).1 (tg.getD x.toNatClampNeg pg_0).1), pu_mk σ) := by
  have hl := hp.2.1
  unfold sh_LT_fits sh_LT_fits_44 sh_LT_fits_45
  rw [pu_is po_sk, Option.bind_some, po_isTag hp, im_b2_s]
  by_cases h : pk_t tg x = true
  · rw [if_neg (by rw [h]; decide), pu_is po_sk, Option.bind_some, po_isTag hp, im_b2_s]
    by_cases h2 : pk_t tg y = true
    · rw [h, h2, if_neg (by decide)]
      obtain ⟨a, ha, rfl⟩ := pk_t_s h
      obtain ⟨b, hb, rfl⟩ := pk_t_s h2
      obtain ⟨xa, -⟩ := hp.2.2.1 a ha
      obtain ⟨xb, -⟩ := hp.2.2.1 b hb
      have hbl := xb.2.2.1
      rw [po_7, Option.bind_some, po_tag (show b < 16 by omega), Option.bind_some, po_tf (show b < 16 by omega), Option.bind_some, Option.bind_some, po_tag (show a < 16 by omega), Option.bind_some, po_tf (show a < 16 by omega), Option.bind_some, pu_is (po_forms b (by omega)).1, Option.bind_some, pf_isWithin (by omega) (po_forms b (by omega)) (po_forms a (by omega)) xb xa (hne b hb) (hne a ha) (by omega), im_b2_s, nI_clamp (by omega), nI_clamp (by omega), Bool.true_and, Bool.true_and]
      cases pf_within (tg.getD b pg_0).1 (tg.getD a pg_0).1 with
      | false => exact pb_rz0 _
      | true => exact pb_rz1 _
    · have h' : pk_t tg y = false := by simpa using h2
      rw [h', if_pos (show pb_b false = 0 from rfl), Bool.and_false, Bool.false_and]
      exact pb_rz0 _
  · have h' : pk_t tg x = false := by simpa using h
    rw [h', if_pos (show pb_b false = 0 from rfl), Bool.false_and, Bool.false_and]
    exact pb_rz0 _
end CLS
