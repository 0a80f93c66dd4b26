/-! the model: one step of cutting, whole -/
section MSB
variable {F : Nat} {σ : pu_S} {ty : List Nat} {A : pm_A}
theorem pm_ps_sI (hA : pm_ps σ ty A) (k : Nat) (v : Int32) (hk : k = 2 ∨ k = 3 ∨ k = 4 ∨ k = 11 ∨ k = 12) : pm_pl (pu_sI σ 248 k v) ty 5 250 251 A.2.1 ∧ pm_pl (pu_sI σ 248 k v) ty 8 252 253 A.2.2.1 ∧ pm_fr pm_S pm_T σ (pu_sI σ 248 k v) ∧ ∀ j, ¬ j = k → (pu_sI σ 248 k v).1 248 j = σ.1 248 j := by
  have f : pm_fr (fun _ => False) (fun j => j = k) σ (pu_sI σ 248 k v) := pm_fr.sI rfl
  refine ⟨hA.2.1.fr f (by omega) (by simp) (by simp), hA.2.2.1.fr f (by omega) (by simp) (by simp), pm_fr.sI (by unfold pm_T; omega), fun j hj => f.2 j hj⟩
theorem pm_stand_147 (hp : pm_ty σ ty) (hF : 62 ≤ F) (hA : pm_ps σ ty A) {st : Nat} (hst : st < 8) (h1 : A.2.1.length < 32) (h2 : A.2.2.1.length < 32) (hk2 : ∀ k ∈ A.2.2.1, k.1 + 2 ≤ k.2) (h5 : st = 5 → 1 ≤ A.2.2.1.length) {a b : Nat} (hab : a ≤ b) (hb : b ≤ ty.length) (hlast : ∀ k ∈ A.2.2.1, k.1 ≤ b) : pm_go F σ ty (sh_Model_stand_147 F 248 (nI st) (nI a) (nI b) (pu_mk σ)) (if ¬ st = 4 ∧ pt_cut (pm_seg ty a b) = [120] then some (6, (A.1, A.2.1, A.2.2.1, some a, A.2.2.2.2))
  else if st < 4 then (if pt_cut (pm_seg ty a b) = [117] then some (4, A) else if pb_variant (pt_cut (pm_seg ty a b)) = true ∧ A.2.1.all (fun v => !pm_sm ty a b v) = true then some (3, (A.1, A.2.1 ++ [(a, b)], A.2.2)) else none)
  else if st = 5 ∧ pb_type (pt_cut (pm_seg ty a b)) = true then some (5, (A.1, A.2.1, pm_ext A.2.2.1 b, A.2.2.2))
  else if pb_key (pt_cut (pm_seg ty a b)) = true ∧ A.2.2.1.all (fun v => !pm_km ty a b v) = true then some (5, (A.1, A.2.1, A.2.2.1 ++ [(a, b)], A.2.2.2)) else none) := by
  have g := pm_stand_171 (F := F) hp hF hA hst h1 h2 hk2 h5 hab hb hlast
  have c4 : nI st = (4 : Int32) ↔ st = 4 := nI_eq (b := 4) (by omega) (by decide)
  have e120 : sh_Model_isOne F 248 (nI a) (nI b) (120 : Int32) (pu_mk σ) = some (pb_b (decide (pt_cut (pm_seg ty a b) = [120])), pu_mk σ) := pm_isOne hp hab hb (d := 120) (by decide)
  unfold sh_Model_stand_147
  by_cases h4 : st = 4
  · rw [if_pos (c4.mpr h4), if_neg (show ¬ (¬ st = 4 ∧ pt_cut (pm_seg ty a b) = [120]) from fun q => q.1 h4)]
    exact g
  · rw [if_neg (fun q => h4 (c4.mp q)), pm_i, Option.bind_some, e120, im_b2_s]
    by_cases hx : pt_cut (pm_seg ty a b) = [120]
    · rw [decide_eq_true hx, if_neg (show ¬ pb_b true = 0 by decide), if_pos ⟨h4, hx⟩, pm_p11, Option.bind_some]
      obtain ⟨r1, r2, r3, r4⟩ := pm_ps_sI hA 11 (nI a) (by decide)
      obtain ⟨q1, q2, q3, q4, q5⟩ := hA
      refine ⟨_, rfl, r3, fun s A' h => ?_⟩
      cases h
      exact ⟨⟨(r4 2 (by decide)).trans q1.1, (r4 3 (by decide)).trans q1.2.1, (r4 4 (by decide)).trans q1.2.2⟩, r1, r2, by simp [pu_sI, pm_o], fun p hp => (r4 12 (by decide)).trans (q5 p hp)⟩
    · rw [decide_eq_false hx, if_pos (show pb_b false = 0 from rfl), if_neg (show ¬ (¬ st = 4 ∧ pt_cut (pm_seg ty a b) = [120]) from fun q => hx q.2)]
      exact g
theorem pm_stand_116 (hp : pm_ty σ ty) (hF : 62 ≤ F) (hA : pm_ps σ ty A) {st : Nat} (hst : st < 8) (hs0 : ¬ st = 0) (h1 : A.2.1.length < 32) (h2 : A.2.2.1.length < 32) (hk2 : ∀ k ∈ A.2.2.1, k.1 + 2 ≤ k.2) (h5 : st = 5 → 1 ≤ A.2.2.1.length) {a b : Nat} (hab : a ≤ b) (hb : b ≤ ty.length) (hlast : ∀ k ∈ A.2.2.1, k.1 ≤ b) : pm_go F σ ty (sh_Model_stand_116 F 248 (nI st) (nI a) (nI b) (pu_mk σ)) (if st ≤ 2 ∧ pb_region (pt_cut (pm_seg ty a b)) = true then some (3, ((A.1.1, A.1.2.1, pv_n (pm_seg ty a b)), A.2))
  else if ¬ st = 4 ∧ pt_cut (pm_seg ty a b) = [120] then some (6, (A.1, A.2.1, A.2.2.1, some a, A.2.2.2.2))
  else if st < 4 then (if pt_cut (pm_seg ty a b) = [117] then some (4, A) else if pb_variant (pt_cut (pm_seg ty a b)) = true ∧ A.2.1.all (fun v => !pm_sm ty a b v) = true then some (3, (A.1, A.2.1 ++ [(a, b)], A.2.2)) else none)
  else if st = 5 ∧ pb_type (pt_cut (pm_seg ty a b)) = true then some (5, (A.1, A.2.1, pm_ext A.2.2.1 b, A.2.2.2))
  else if pb_key (pt_cut (pm_seg ty a b)) = true ∧ A.2.2.1.all (fun v => !pm_km ty a b v) = true then some (5, (A.1, A.2.1, A.2.2.1 ++ [(a, b)], A.2.2.2)) else none) := by
  have g := pm_stand_147 (F := F) hp hF hA hst h1 h2 hk2 h5 hab hb hlast
  have c1 : nI st < (1 : Int32) ↔ st < 1 := nI_ltI (b := 1) (by omega) (by decide)
  have c2 : (2 : Int32) < nI st ↔ 2 < st := nI_ltI (a := 2) (by decide) (by omega)
  unfold sh_Model_stand_116
  rw [if_neg (fun q => by have := c1.mp q; omega)]
  by_cases h3 : 2 < st
  · rw [if_pos (c2.mpr h3), if_neg (show ¬ (st ≤ 2 ∧ pb_region (pt_cut (pm_seg ty a b)) = true) from fun q => by have := q.1; omega)]
    exact g
  · rw [if_neg (fun q => h3 (c2.mp q)), pm_i, Option.bind_some, pm_isRegion hp hF hab hb, im_b2_s]
    cases hr : pb_region (pt_cut (pm_seg ty a b)) with
    | false =>
      rw [if_pos (show pb_b false = 0 from rfl), if_neg (show ¬ (st ≤ 2 ∧ false = true) from fun q => by simpa using q.2)]
      exact g
    | true =>
      have hAA := pm_region_A (pm_seg_lt hp a b) hr
      rw [if_neg (show ¬ pb_b true = 0 by decide), pm_i, Option.bind_some, pm_number hp hF hab hb hAA, im_b2_s, if_pos (show st ≤ 2 ∧ true = true from ⟨by omega, rfl⟩), pm_p4, Option.bind_some]
      obtain ⟨r1, r2, r3, r4⟩ := pm_ps_sI hA 4 (nI (pv_n (pm_seg ty a b))) (by decide)
      obtain ⟨q1, q2, q3, q4, q5⟩ := hA
      refine ⟨_, rfl, r3, fun s A' h => ?_⟩
      cases h
      exact ⟨⟨(r4 2 (by decide)).trans q1.1, (r4 3 (by decide)).trans q1.2.1, by simp [pu_sI]⟩, r1, r2, (r4 11 (by decide)).trans q4, fun p hp => (r4 12 (by decide)).trans (q5 p hp)⟩
theorem pm_stand (hp : pm_ty σ ty) (hF : 62 ≤ F) (hA : pm_ps σ ty A) {st : Nat} (hst : st < 8) (h1 : A.2.1.length < 32) (h2 : A.2.2.1.length < 32) (hk2 : ∀ k ∈ A.2.2.1, k.1 + 2 ≤ k.2) (h5 : st = 5 → 1 ≤ A.2.2.1.length) {a b : Nat} (hab : a ≤ b) (hb : b ≤ ty.length) (hlast : ∀ k ∈ A.2.2.1, k.1 ≤ b) : pm_go F σ ty (sh_Model_stand F 248 (nI st) (nI a) (nI b) (pu_mk σ)) (pm_st ty A st a b) := by
  have hl := hp.2.2.1
  have c0 : nI st = (0 : Int32) ↔ st = 0 := nI_eq (b := 0) (by omega) (by decide)
  have c1 : nI st = (1 : Int32) ↔ st = 1 := nI_eq (b := 1) (by omega) (by decide)
  have c5 : nI st ≤ (5 : Int32) ↔ st ≤ 5 := nI_leI (b := 5) (by omega) (by decide)
  have eS : nI b - nI a = nI (b - a) := pn_sub hab
  have d4 : nI (b - a) = (4 : Int32) ↔ b - a = 4 := nI_eq (b := 4) (by omega) (by decide)
  have d1 : nI (b - a) < (1 : Int32) ↔ b - a < 1 := nI_ltI (b := 1) (by omega) (by decide)
  have d8 : (8 : Int32) < nI (b - a) ↔ 8 < b - a := nI_ltI (a := 8) (by decide) (by omega)
  unfold sh_Model_stand pm_st
  by_cases s0 : st = 0
  · rw [if_pos (c0.mpr s0), if_pos s0, pm_i, Option.bind_some, pm_isLanguage hp hF hab hb, im_b2_s]
    unfold sh_Model_stand_29 sh_Model_stand_44
    cases hr : pb_lang (pt_cut (pm_seg ty a b)) with
    | false =>
      rw [if_pos (show pb_b false = 0 from rfl), if_neg (show ¬ false = true by decide), pm_p2, Option.bind_some, pm_2, Option.bind_some]
      refine ⟨pu_sI σ 248 2 0, ?_, pm_fr.sI (by unfold pm_T; omega), fun s A' h => by cases h⟩
      rw [if_pos (by simp [pu_sI])]
      rfl
    | true =>
      obtain ⟨a1, a2, a3⟩ := pm_lang_A (pm_seg_lt hp a b) hr
      have hb2 := pv_n_b a1 a2 a3
      rw [if_neg (show ¬ pb_b true = 0 by decide), if_pos rfl, pm_i, Option.bind_some, pm_number hp hF hab hb a1, im_b2_s, pm_p2, Option.bind_some, pm_2, Option.bind_some]
      obtain ⟨r1, r2, r3, r4⟩ := pm_ps_sI hA 2 (nI (pv_n (pm_seg ty a b))) (by decide)
      obtain ⟨q1, q2, q3, q4, q5⟩ := hA
      refine ⟨_, ?_, r3, fun s A' h => ?_⟩
      · have e : (pu_sI σ 248 2 (nI (pv_n (pm_seg ty a b)))).1 248 2 = nI (pv_n (pm_seg ty a b)) := by simp [pu_sI]
        rw [e, if_neg (nI_nle (by omega) (by omega))]
        rfl
      · cases h
        exact ⟨⟨by simp [pu_sI], (r4 3 (by decide)).trans q1.2.1, (r4 4 (by decide)).trans q1.2.2⟩, r1, r2, (r4 11 (by decide)).trans q4, fun p hp => (r4 12 (by decide)).trans (q5 p hp)⟩
  · rw [if_neg (fun q => s0 (c0.mp q)), if_neg s0]
    by_cases s5 : 5 < st
    · rw [if_neg (fun q => by have := c5.mp q; omega), if_pos s5, pm_p12, Option.bind_some, eS]
      unfold sh_Model_stand_82 sh_Model_stand_83
      obtain ⟨r1, r2, r3, r4⟩ := pm_ps_sI hA 12 (nI b) (by decide)
      have hp2 := hp.fr r3 (by unfold pm_S; omega) (by unfold pm_T; omega)
      obtain ⟨q1, q2, q3, q4, q5⟩ := hA
      have hne := pm_cut_ne (pm_seg ty a b)
      rw [pm_seg_len hb, decide_eq_decide] at hne
      have bad : ¬ (1 ≤ b - a ∧ b - a ≤ 8 ∧ (pm_seg ty a b).all pb_isA = true) → pm_go F σ ty (some ((-1 : Int32), pu_mk (pu_sI σ 248 12 (nI b)))) (if ¬ pt_cut (pm_seg ty a b) = [] then some (7, (A.1, A.2.1, A.2.2.1, A.2.2.2.1, some b)) else none) := by
        intro hn
        rw [if_neg (fun q => hn (hne.mp q))]
        exact ⟨_, rfl, r3, fun s A' h => by cases h⟩
      by_cases e1 : b - a < 1
      · rw [if_pos (d1.mpr e1)]
        exact bad (fun q => by omega)
      · rw [if_neg (fun q => e1 (d1.mp q))]
        by_cases e8 : 8 < b - a
        · rw [if_pos (d8.mpr e8)]
          exact bad (fun q => by omega)
        · rw [if_neg (fun q => e8 (d8.mp q)), pm_i, Option.bind_some, pm_allBoth hp2 hF hab hb, im_b2_s]
          cases hAA : (pm_seg ty a b).all pb_isA with
          | false =>
            rw [if_pos (show pb_b false = 0 from rfl)]
            exact bad (fun q => by rw [hAA] at q; simpa using q.2.2)
          | true =>
            rw [if_neg (show ¬ pb_b true = 0 by decide), if_pos (hne.mpr ⟨by omega, by omega, hAA⟩)]
            refine ⟨_, rfl, r3, fun s A' h => ?_⟩
            cases h
            exact ⟨⟨(r4 2 (by decide)).trans q1.1, (r4 3 (by decide)).trans q1.2.1, (r4 4 (by decide)).trans q1.2.2⟩, r1, r2, (r4 11 (by decide)).trans q4, fun p hp => by cases hp; simp [pu_sI]⟩
    · have g := pm_stand_116 (F := F) hp hF hA hst s0 h1 h2 hk2 h5 hab hb hlast
      rw [if_pos (c5.mpr (by omega)), if_neg s5, eS]
      have hsc := pm_script_eq (pm_seg_lt hp a b)
      rw [pm_seg_len hb] at hsc
      by_cases s1 : st = 1
      · rw [if_pos (c1.mpr s1)]
        by_cases e4 : b - a = 4
        · rw [if_pos (d4.mpr e4), pm_i, Option.bind_some, pm_allLetters hp hF hab hb, im_b2_s]
          cases hLL : (pm_seg ty a b).all pb_isL with
          | false =>
            have hn : ¬ (st = 1 ∧ pb_script (pt_cut (pm_seg ty a b)) = true) := fun q => by
              rw [hsc] at q
              have := (of_decide_eq_true q.2).2
              rw [hLL] at this
              cases this
            rw [if_pos (show pb_b false = 0 from rfl), if_neg hn]
            exact g
          | true =>
            have hy : st = 1 ∧ pb_script (pt_cut (pm_seg ty a b)) = true := ⟨s1, by rw [hsc]; exact decide_eq_true ⟨e4, hLL⟩⟩
            rw [if_neg (show ¬ pb_b true = 0 by decide), if_pos hy, pm_i, Option.bind_some, pm_number hp hF hab hb (pm_LA hLL), im_b2_s, pm_p3, Option.bind_some]
            obtain ⟨r1, r2, r3, r4⟩ := pm_ps_sI hA 3 (nI (pv_n (pm_seg ty a b))) (by decide)
            obtain ⟨q1, q2, q3, q4, q5⟩ := hA
            refine ⟨_, rfl, r3, fun s A' h => ?_⟩
            cases h
            exact ⟨⟨(r4 2 (by decide)).trans q1.1, by simp [pu_sI], (r4 4 (by decide)).trans q1.2.2⟩, r1, r2, (r4 11 (by decide)).trans q4, fun p hp => (r4 12 (by decide)).trans (q5 p hp)⟩
        · have hn : ¬ (st = 1 ∧ pb_script (pt_cut (pm_seg ty a b)) = true) := fun q => by
            rw [hsc] at q
            exact e4 (of_decide_eq_true q.2).1
          rw [if_neg (fun q => e4 (d4.mp q)), if_neg hn]
          exact g
      · rw [if_neg (fun q => s1 (c1.mp q)), if_neg (show ¬ (st = 1 ∧ pb_script (pt_cut (pm_seg ty a b)) = true) from fun q => s1 q.1)]
        exact g
end MSB
