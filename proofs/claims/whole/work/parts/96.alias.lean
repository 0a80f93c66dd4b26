/-! the model: alias -/
theorem pm_fr.aI {S T : Nat → Prop} {σ τ : pu_S} (h : pm_fr S T σ τ) {k : Nat} (hT : T k) (v : Int32) : pm_fr S T σ (pu_sI τ 248 k v) := h.tr (pm_fr.sI hT)
theorem pm_fr.aA {S T : Nat → Prop} {σ τ : pu_S} (h : pm_fr S T σ τ) {x : Nat} (hS : S x) (k : Nat) (v : Int32) : pm_fr S T σ (pu_sA τ x k v) := h.tr (pm_fr.sA hS)
theorem pm_seg0 (ty : List Nat) (m : Nat) : pm_seg ty 0 m = ty.take m := by simp [pm_seg]
theorem pm_segE (ty : List Nat) (m : Nat) : pm_seg ty m ty.length = ty.drop m := by
  unfold pm_seg
  rw [List.take_of_length_le (by simp)]
theorem pq_cut61 {s : List Nat} (h : s.any (· == 61) = true) : pt_cut s = [] := by
  apply Classical.byContradiction
  intro hn
  have := (pq_cut_in hn).2.2
  rw [List.any_eq_true] at h
  obtain ⟨c, hc, h61⟩ := h
  rw [List.all_eq_true] at this
  have h2 := this c hc
  simp at h61
  subst h61
  revert h2
  decide
theorem pk_part0 (r : Bool) : pk_part r [] = false := by cases r <;> rfl
theorem pk_part_A {r : Bool} {s : List Nat} (h : pk_part r (pt_cut s) = true) : ¬ pt_cut s = [] := fun z => by rw [z, pk_part0] at h; cases h
def pk_sgn (ty : List Nat) : Option Nat := match ty.findIdx? (· == 61) with
  | none => none
  | some m => if (ty.drop (m + 1)).any (· == 61) = true then none else some m
theorem pm_equalSign' {F : Nat} {σ : pu_S} {ty : List Nat} (hp : pm_ty σ ty) (hF : 62 ≤ F) : sh_Model_equalSign F 248 (pu_mk σ) = some (pm_o (pk_sgn ty), pu_mk σ) := by
  rw [pm_equalSign hp hF]
  unfold pk_sgn
  cases ty.findIdx? (· == 61) with
  | none => rfl
  | some m =>
    show some (if (ty.drop (m + 1)).any (· == 61) = true then (-1 : Int32) else nI m, pu_mk σ) = some (pm_o (if (ty.drop (m + 1)).any (· == 61) = true then none else some m), pu_mk σ)
    split <;> rfl
theorem pk_sgn_some {ty : List Nat} {m : Nat} (h : pk_sgn ty = some m) : ty.findIdx? (· == 61) = some m ∧ m < ty.length := by
  unfold pk_sgn at h
  cases hf : ty.findIdx? (· == 61) with
  | none => rw [hf] at h; cases h
  | some j =>
    rw [hf] at h
    have h : (if (ty.drop (j + 1)).any (· == 61) = true then none else some j) = some m := h
    split at h
    · cases h
    · cases h
      exact ⟨rfl, (List.findIdx?_eq_some_iff_getElem.mp hf).1⟩
/-- the class's answer, by the only sign -/
theorem pk_alias_eq (ty : List Nat) (al : List pa_E) (fixed r : Bool) : pk_alias ty al fixed r = match pk_sgn ty with
    | none => (-1, none)
    | some m => if pk_part r (pt_cut (ty.take m)) = false ∨ pk_part r (pt_cut (ty.drop (m + 1))) = false ∨ pt_cut (ty.take m) = pt_cut (ty.drop (m + 1)) then (-1, none)
      else if fixed = true ∨ 8 ≤ al.length then (-2, none)
      else if (al.findIdx? (pa_m (pt_cut (ty.take m)) r)).isSome = true ∨ pa_rep al r al.length (pt_cut (ty.drop (m + 1))) = pt_cut (ty.take m) then (-3, none)
      else (nI (al.length + 1), some (al ++ [(r, pt_cut (ty.take m), pt_cut (ty.drop (m + 1)))])) := by
  cases hf : ty.findIdx? (· == 61) with
  | none =>
    have e : pk_sgn ty = none := by unfold pk_sgn; rw [hf]
    unfold pk_alias
    rw [hf, e]
  | some m =>
    by_cases h : (ty.drop (m + 1)).any (· == 61) = true
    · have e : pk_sgn ty = none := by unfold pk_sgn; rw [hf]; exact if_pos h
      have : pk_part r (pt_cut (ty.drop (m + 1))) = false := by rw [pq_cut61 h, pk_part0]
      unfold pk_alias
      rw [hf, e]
      exact if_pos (Or.inr (Or.inl this))
    · have e : pk_sgn ty = some m := by unfold pk_sgn; rw [hf]; exact if_neg h
      unfold pk_alias
      rw [hf, e]
theorem pm_al_add {σ : pu_S} {ma : List pm_R} (hm : pm_al σ ma) (h8 : ma.length < 8) {r : Bool} {x y : Nat} (hx : x < 2 ^ 31) (hy : y < 2 ^ 31) : pm_al (pu_sI (pu_sA (pu_sA (pu_sA σ 256 ma.length (nI x)) 257 ma.length (nI y)) 258 ma.length (pb_b r)) 248 17 (nI (ma.length + 1))) (ma ++ [(r, x, y)]) := by
  refine ⟨by simp [pu_sI], fun i hi => ?_, by simp; omega, fun m hm' => ?_⟩
  · have hi : i < ma.length + 1 := by simpa using hi
    rw [pb_appG hi]
    by_cases hil : i = ma.length
    · subst hil
      rw [if_pos rfl]
      simp [pu_sI, pu_sA]
    · rw [if_neg hil]
      obtain ⟨a, b, c⟩ := hm.2.1 i (by omega)
      simp [pu_sI, pu_sA, hil, a, b, c]
  · rcases List.mem_append.mp hm' with h | h
    · exact hm.2.2.2 m h
    · rw [List.mem_singleton] at h
      subst h
      exact ⟨hx, hy⟩
theorem pb_narb (b : Bool) : vp_nar .boolean (pb_b b) = pb_b b := pb_nar b
section MAL
variable {F : Nat} {σ : pu_S} {ty : List Nat} {al : List pa_E}
theorem pm_alias (hF : 100 ≤ F) (hp : pm_ty σ ty) (hm : pm_al σ (al.map pa_nm)) (hal : pa_gd al) {nt n0 n1 : Nat} (ht : σ.1 248 31 = nI nt) (ht' : nt < 2 ^ 31) (h0 : σ.2.2.1 259 0 = nI n0) (h0' : n0 < 2 ^ 31) (h1 : σ.2.2.1 259 1 = nI n1) (h1' : n1 < 2 ^ 31) (r : Bool) : ∃ τ, sh_Model_alias F 248 (pb_b r) (pu_mk σ) = some ((pk_alias ty al (decide (0 < nt ∨ 0 < n0 ∨ 0 < n1)) r).1, pu_mk τ) ∧ (match (pk_alias ty al (decide (0 < nt ∨ 0 < n0 ∨ 0 < n1)) r).2 with
    | none => τ = σ
    | some al' => pm_ty τ [] ∧ pm_al τ (al'.map pa_nm) ∧ pm_fr (fun x => 256 ≤ x ∧ x ≤ 258) (fun k => k = 17 ∨ k = 0) σ τ) := by
  have h60 := hp.2.2.1
  have h8 := hal.2.2.2.2.1
  rw [pk_alias_eq]
  unfold sh_Model_alias
  rw [pm_i, Option.bind_some, pm_equalSign' hp (by omega), im_b2_s]
  cases hq : pk_sgn ty with
  | none =>
    rw [if_neg (show ¬ (0 : Int32) ≤ pm_o none by decide)]
    exact ⟨σ, rfl, rfl⟩
  | some m =>
    obtain ⟨-, hml⟩ := pk_sgn_some hq
    have s1 := pm_seg0 ty m
    have s2 := pm_segE ty (m + 1)
    dsimp only
    generalize hu : pt_cut (ty.take m) = u
    generalize hv : pt_cut (ty.drop (m + 1)) = v
    have start : (if pb_b r = 0 then (im_is (pu_mk σ) 9 248).bind fun u8 => im_b2 (sh_Model_isLanguage F 248 (0 : Int32) (nI m) (pu_mk σ)) fun v14 w12 => (if v14 = 0 then sh_Model_alias_73 F 248 (pb_b r) (nI m) w12 else (im_gI w12 9 248 0).bind fun f15 => (im_is w12 9 248).bind fun u17 => im_b2 (sh_Model_isLanguage F 248 (nI m + (1 : Int32)) f15 w12) fun v23 w21 => (if v23 = 0 then sh_Model_alias_73 F 248 (pb_b r) (nI m) w21 else sh_Model_alias_74 F 248 (pb_b r) (nI m) (1 : Int32) w21)) else (im_is (pu_mk σ) 9 248).bind fun u24 => im_b2 (sh_Model_isRegion F 248 (0 : Int32) (nI m) (pu_mk σ)) fun v30 w28 => (if v30 = 0 then sh_Model_alias_42 F 248 (pb_b r) (nI m) w28 else (im_gI w28 9 248 0).bind fun f31 => (im_is w28 9 248).bind fun u33 => im_b2 (sh_Model_isRegion F 248 (nI m + (1 : Int32)) f31 w28) fun v39 w37 => (if v39 = 0 then sh_Model_alias_42 F 248 (pb_b r) (nI m) w37 else sh_Model_alias_74 F 248 (pb_b r) (nI m) (1 : Int32) w37))) = sh_Model_alias_74 F 248 (pb_b r) (nI m) (pb_b (pk_part r u && pk_part r v)) (pu_mk σ) := by
      rw [nI_1]
      unfold sh_Model_alias_73 sh_Model_alias_42
      cases r with
      | false =>
        have l1 := pm_isLanguage (F := F) hp (by omega) (show 0 ≤ m by omega) (show m ≤ ty.length by omega)
        have l2 := pm_isLanguage (F := F) hp (by omega) (show m + 1 ≤ ty.length by omega) (Nat.le_refl _)
        rw [s1, hu, nI_0] at l1
        rw [s2, hv] at l2
        rw [if_pos (show pb_b false = 0 from rfl), pm_i, Option.bind_some, l1, im_b2_s]
        show _ = sh_Model_alias_74 F 248 (pb_b false) (nI m) (pb_b (pb_lang u && pb_lang v)) (pu_mk σ)
        cases hlu : pb_lang u with
        | false => rw [if_pos (show pb_b false = 0 from rfl)]; rfl
        | true =>
          rw [if_neg (show ¬ pb_b true = 0 by decide), pm_0, Option.bind_some, hp.1, pm_i, Option.bind_some, l2, im_b2_s]
          cases hlv : pb_lang v with
          | false => rw [if_pos (show pb_b false = 0 from rfl)]; rfl
          | true => rw [if_neg (show ¬ pb_b true = 0 by decide)]; rfl
      | true =>
        have l1 := pm_isRegion (F := F) hp (by omega) (show 0 ≤ m by omega) (show m ≤ ty.length by omega)
        have l2 := pm_isRegion (F := F) hp (by omega) (show m + 1 ≤ ty.length by omega) (Nat.le_refl _)
        rw [s1, hu, nI_0] at l1
        rw [s2, hv] at l2
        rw [if_neg (show ¬ pb_b true = 0 by decide), pm_i, Option.bind_some, l1, im_b2_s]
        show _ = sh_Model_alias_74 F 248 (pb_b true) (nI m) (pb_b (pb_region u && pb_region v)) (pu_mk σ)
        cases hlu : pb_region u with
        | false => rw [if_pos (show pb_b false = 0 from rfl)]; rfl
        | true =>
          rw [if_neg (show ¬ pb_b true = 0 by decide), pm_0, Option.bind_some, hp.1, pm_i, Option.bind_some, l2, im_b2_s]
          cases hlv : pb_region v with
          | false => rw [if_pos (show pb_b false = 0 from rfl)]; rfl
          | true => rw [if_neg (show ¬ pb_b true = 0 by decide)]; rfl
    rw [if_pos (show (0 : Int32) ≤ pm_o (some m) from nI_pos' (by omega)), show pm_o (some m) = nI m from rfl, start]
    unfold sh_Model_alias_74 sh_Model_alias_95 sh_Model_alias_131 sh_Model_alias_179
    by_cases c1 : pk_part r u = true ∧ pk_part r v = true
    · have c1' : (pk_part r u && pk_part r v) = true := by rw [c1.1, c1.2]; rfl
      have nu : ¬ pt_cut (ty.take m) = [] := by rw [hu]; intro z; rw [z, pk_part0] at c1; cases c1.1
      have nv : ¬ pt_cut (ty.drop (m + 1)) = [] := by rw [hv]; intro z; rw [z, pk_part0] at c1; cases c1.2
      have cu := pq_cut nu
      have cv := pq_cut nv
      rw [hu] at cu
      rw [hv] at cv
      have lu : pb_lw u := by rw [← hu]; exact pt_cut_lw _
      have lv : pb_lw v := by rw [← hv]; exact pt_cut_lw _
      have sm := pm_same (F := F) hp (by omega) (show 0 ≤ m by omega) (show m ≤ ty.length by omega) (show m + 1 ≤ ty.length by omega) (Nat.le_refl _)
      rw [s1, s2, ← cu, ← cv, nI_0] at sm
      rw [c1', if_neg (show ¬ pb_b true = 0 by decide), pm_0, Option.bind_some, hp.1, pm_i, Option.bind_some, nI_1, sm, im_b2_s]
      by_cases c2 : u = v
      · have cc : pk_part r u = false ∨ pk_part r v = false ∨ u = v := Or.inr (Or.inr c2)
        rw [if_neg (by rw [pb_b0]; simpa using c2)]
        rw [if_pos cc]
        exact ⟨σ, rfl, rfl⟩
      · have cc : ¬ (pk_part r u = false ∨ pk_part r v = false ∨ u = v) := by
          rintro (z | z | z)
          · rw [c1.1] at z; cases z
          · rw [c1.2] at z; cases z
          · exact c2 z
        rw [if_pos (by rw [pb_b0]; simpa using c2)]
        rw [if_neg cc, pm_31, Option.bind_some, ht]
        have k1 : (0 : Int32) < nI nt ↔ 0 < nt := nI_ltI (a := 0) (by decide) ht'
        have k2 : (0 : Int32) < nI n0 ↔ 0 < n0 := nI_ltI (a := 0) (by decide) h0'
        have k3 : (0 : Int32) < nI n1 ↔ 0 < n1 := nI_ltI (a := 0) (by decide) h1'
        have k8 : nI al.length = (8 : Int32) ↔ al.length = 8 := nI_eq (b := 8) (by omega) (by decide)
        have l0 : im_lI (pu_mk σ) 0 259 0 = some (nI n0) := by
          have := pm_l259 σ (k := 0) (by decide)
          rw [nI_0, h0] at this
          exact this
        have l1 : im_lI (pu_mk σ) 0 259 1 = some (nI n1) := by
          have := pm_l259 σ (k := 1) (by decide)
          rw [h1] at this
          exact this
        by_cases d1 : 0 < nt
        · rw [if_pos (k1.mpr d1), if_pos (Or.inl (by simp [d1]))]
          exact ⟨σ, rfl, rfl⟩
        rw [if_neg (fun z => d1 (k1.mp z)), pm_21, Option.bind_some, l0, Option.bind_some]
        by_cases d2 : 0 < n0
        · rw [if_pos (k2.mpr d2), if_pos (Or.inl (by simp [d2]))]
          exact ⟨σ, rfl, rfl⟩
        rw [if_neg (fun z => d2 (k2.mp z)), Option.bind_some, l1, Option.bind_some]
        by_cases d3 : 0 < n1
        · rw [if_pos (k3.mpr d3), if_pos (Or.inl (by simp [d3]))]
          exact ⟨σ, rfl, rfl⟩
        have m1 : σ.1 248 17 = nI al.length := by
          have := hm.1
          rw [List.length_map] at this
          exact this
        rw [if_neg (fun z => d3 (k3.mp z)), pm_17, Option.bind_some, m1]
        by_cases d4 : al.length = 8
        · rw [if_pos (k8.mpr d4), if_pos (Or.inr (by omega))]
          exact ⟨σ, rfl, rfl⟩
        have dd : ¬ (decide (0 < nt ∨ 0 < n0 ∨ 0 < n1) = true ∨ 8 ≤ al.length) := by
          rintro (z | z)
          · have := of_decide_eq_true z
            omega
          · omega
        have nA : (pm_seg ty 0 m).all pb_isA = true := by rw [s1]; exact (pq_cut_in nu).2.2
        have nB : (pm_seg ty (m + 1) ty.length).all pb_isA = true := by rw [s2]; exact (pq_cut_in nv).2.2
        have q1 := pm_number (F := F) hp (by omega) (show 0 ≤ m by omega) (show m ≤ ty.length by omega) nA
        have q2 := pm_number (F := F) hp (by omega) (show m + 1 ≤ ty.length by omega) (Nat.le_refl _) nB
        rw [s1, ← pq_n nu, hu, nI_0] at q1
        rw [s2, ← pq_n nv, hv] at q2
        have b1 : pv_n u < 2 ^ 31 := by
          have := pv_n_b (pb_lwA lu) (by rw [← hu]; exact nu) (by have := (pk_part_23 c1.1).2; omega)
          omega
        have b2 : pv_n v < 2 ^ 31 := by
          have := pv_n_b (pb_lwA lv) (by rw [← hv]; exact nv) (by have := (pk_part_23 c1.2).2; omega)
          omega
        have r1 := pm_replaced (F := F) hm (by omega) r b1
        have r2 := pm_replaced (F := F) hm (by omega) r b2
        rw [pa_repl9 hal.1 hal.2.1 hal.2.2.1 h8 r lu] at r1
        rw [pa_repl9 hal.1 hal.2.1 hal.2.2.1 h8 r lv] at r2
        have lru := pa_rep_lw hal.1 r al.length u lu
        have lrv := pa_rep_lw hal.1 r al.length v lv
        have bru : pv_n (pa_rep al r al.length u) < 2 ^ 31 := pv_lt31 ⟨fun c hc => by have := lru.2 c hc; omega, pb_lwA lru, by have := (pk_part_23 (pa_rep_kind hal r al.length u c1.1)).2; omega⟩
        have brv : pv_n (pa_rep al r al.length v) < 2 ^ 31 := pv_lt31 ⟨fun c hc => by have := lrv.2 c hc; omega, pb_lwA lrv, by have := (pk_part_23 (pa_rep_kind hal r al.length v c1.2)).2; omega⟩
        have x1 : nI (pv_n (pa_rep al r al.length u)) = nI (pv_n u) ↔ pa_rep al r al.length u = u := by
          rw [nI_eq bru b1, pv_inj lru lu]
        have x2 : nI (pv_n (pa_rep al r al.length v)) = nI (pv_n u) ↔ pa_rep al r al.length v = u := by
          rw [nI_eq brv b1, pv_inj lrv lu]
        have fst := pa_first hal.1 hal.2.2.2.1 hal.2.2.1 r u
        rw [if_neg (fun z => d4 (k8.mp z)), if_neg dd, pm_i, Option.bind_some, q1, im_b2_s, pm_0, Option.bind_some, hp.1, pm_i, Option.bind_some, q2, im_b2_s, pm_i, Option.bind_some, r1, im_b2_s]
        by_cases y1 : pa_rep al r al.length u = u
        · rw [if_pos (x1.mpr y1), pm_i, Option.bind_some, r2, im_b2_s]
          by_cases y2 : pa_rep al r al.length v = u
          · rw [if_pos (x2.mpr y2), if_pos (Or.inr y2)]
            exact ⟨σ, rfl, rfl⟩
          · have yy : ¬ ((al.findIdx? (pa_m u r)).isSome = true ∨ pa_rep al r al.length v = u) := by
              rintro (z | z)
              · exact fst.mpr z y1
              · exact y2 z
            have hm8 : (al.map pa_nm).length < 8 := by rw [List.length_map]; omega
            have hadd := pm_al_add hm hm8 (r := r) b1 b2
            rw [List.length_map] at hadd
            generalize hρ : pu_sI (pu_sA (pu_sA (pu_sA σ 256 al.length (nI (pv_n u))) 257 al.length (nI (pv_n v))) 258 al.length (pb_b r)) 248 17 (nI (al.length + 1)) = ρ at hadd
            refine ⟨pu_sI ρ 248 0 0, ?_, ?_⟩
            · have g1 : (pu_sA σ 256 al.length (nI (pv_n u))).1 248 17 = nI al.length := m1
              have g2 : (pu_sA (pu_sA σ 256 al.length (nI (pv_n u))) 257 al.length (nI (pv_n v))).1 248 17 = nI al.length := m1
              have g3 : (pu_sA (pu_sA (pu_sA σ 256 al.length (nI (pv_n u))) 257 al.length (nI (pv_n v))) 258 al.length (pb_b r)).1 248 17 = nI al.length := m1
              have g4 : (pu_sI ρ 248 0 0).1 248 17 = nI (al.length + 1) := by
                rw [← hρ]
                simp [pu_sI]
              rw [if_neg (fun z => y2 (x2.mp z)), if_neg yy, pm_18, Option.bind_some, pm_17, Option.bind_some, m1, pm_t256 σ _ (show al.length < 8 by omega), Option.bind_some, pm_19, Option.bind_some, pm_17, Option.bind_some, g1, pm_t257 _ _ (show al.length < 8 by omega), Option.bind_some, pm_20, Option.bind_some, pm_17, Option.bind_some, g2, pb_narb, pm_t258 _ _ (show al.length < 8 by omega), Option.bind_some, pm_17, Option.bind_some, g3, nI_1, pm_p17, Option.bind_some, hρ, pm_p0, Option.bind_some, pm_17, Option.bind_some, g4]
            · rw [if_neg yy]
              refine ⟨⟨by simp [pu_sI, nI_0], fun i hi => (by simp at hi), by simp, by simp⟩, ?_, ?_⟩
              · rw [List.map_append]
                exact hadd.fr (S := fun _ => False) (T := fun k => k = 0) (pm_fr.sI rfl) (by decide) (fun x _ _ h => h)
              · rw [← hρ]
                exact ((((pm_fr.rf.aA (by decide) _ _).aA (by decide) _ _).aA (by decide) _ _).aI (Or.inl rfl) _).aI (Or.inr rfl) _
        · rw [if_neg (fun z => y1 (x1.mp z)), if_pos (Or.inl (fst.mp y1))]
          exact ⟨σ, rfl, rfl⟩
    · have c1' : (pk_part r u && pk_part r v) = false := by
        cases hx : pk_part r u <;> cases hy : pk_part r v <;> simp_all
      have cc : pk_part r u = false ∨ pk_part r v = false ∨ u = v := by
        cases hx : pk_part r u <;> cases hy : pk_part r v <;> simp_all
      rw [c1', if_pos (show pb_b false = 0 from rfl), if_pos cc]
      exact ⟨σ, rfl, rfl⟩
end MAL
