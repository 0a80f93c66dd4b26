/-! the model: what a part stands for behind u -/
def pm_km (ty : List Nat) (a b : Nat) (k : Nat × Nat) : Bool := pm_sm ty a b (k.1, k.1 + 2)
/-- the last keyword, made longer -/
def pm_ext (ks : List (Nat × Nat)) (b : Nat) : List (Nat × Nat) := ks.set (ks.length - 1) ((ks.getD (ks.length - 1) pm_0p).1, b)
section MKW
variable {F : Nat} {σ : pu_S} {ty : List Nat}
theorem pm_standKeyword_54 (hp : pm_ty σ ty) (hF : 62 ≤ F) {ks : List (Nat × Nat)} (hv : pm_pl σ ty 8 252 253 ks) (hk2 : ∀ k ∈ ks, k.1 + 2 ≤ k.2) {a b : Nat} (hab : a ≤ b) (hb : b ≤ ty.length) : ∀ (f k : Nat) (acc : Bool), ks.length + 1 ≤ f + k → k ≤ ks.length → sh_Model_standKeyword_54 F f 248 (nI a) (nI b) (pb_b acc) (nI k) (pu_mk σ) = sh_Model_standKeyword_106 F 248 (nI a) (nI b) (pb_b (acc && (ks.drop k).all (fun v => !pm_km ty a b v))) (pu_mk σ) := by
  have hvl := hv.2.2.1
  intro f
  induction f with
  | zero => intro k acc h1 h2; omega
  | succ f ih =>
    intro k acc h1 h2
    have h6 : nI ks.length ≤ nI k ↔ ks.length ≤ k := nI_leI (by omega) (by omega)
    rw [sh_Model_standKeyword_54, pm_8, Option.bind_some, hv.1]
    by_cases h3 : ks.length ≤ k
    · rw [if_pos (h6.mpr h3), List.drop_eq_nil_of_le h3, List.all_nil, Bool.and_true]
    · rw [if_neg (fun q => h3 (h6.mp q))]
      cases acc with
      | false => rw [if_pos (show pb_b false = 0 from rfl), Bool.false_and]
      | true =>
        have hk : k < ks.length := by omega
        obtain ⟨g1, g2⟩ := hv.2.1 k hk
        obtain ⟨g3, g4⟩ := hv.2.2.2 _ (pb_getG pm_0p hk)
        have g5 := hk2 _ (pb_getG pm_0p hk)
        have e2 : nI (ks.getD k pm_0p).1 + (2 : Int32) = nI ((ks.getD k pm_0p).1 + 2) := nI_add _ 2
        rw [if_neg (show ¬ pb_b true = 0 by decide), pm_9, Option.bind_some, pm_l252 σ (by omega), Option.bind_some, Option.bind_some, pm_l252 σ (by omega), Option.bind_some, g1, e2, pm_i, Option.bind_some, pm_same hp hF hab hb (by omega) (by omega), im_b2_s, pb_dropG pm_0p hk, List.all_cons]
        unfold sh_Model_standKeyword_98
        rw [nI_1]
        cases hs : pm_km ty a b (ks.getD k pm_0p) with
        | false =>
          have := ih (k + 1) true (by omega) (by omega)
          unfold pm_km pm_sm at hs
          rw [hs, if_pos (show pb_b false = 0 from rfl)]
          exact this
        | true =>
          have := ih (k + 1) false (by omega) (by omega)
          unfold pm_km pm_sm at hs
          rw [hs, if_neg (show ¬ pb_b true = 0 by decide)]
          exact this
theorem pm_standKeyword_43 (hp : pm_ty σ ty) (hF : 62 ≤ F) {ks : List (Nat × Nat)} (hv : pm_pl σ ty 8 252 253 ks) (hk2 : ∀ k ∈ ks, k.1 + 2 ≤ k.2) (hvl : ks.length < 32) {a b : Nat} (hab : a ≤ b) (hb : b ≤ ty.length) : ∃ τ, sh_Model_standKeyword_43 F 248 (nI a) (nI b) (pu_mk σ) = some (if pb_key (pt_cut (pm_seg ty a b)) = true ∧ ks.all (fun v => !pm_km ty a b v) = true then 5 else -1, pu_mk τ) ∧ (if pb_key (pt_cut (pm_seg ty a b)) = true ∧ ks.all (fun v => !pm_km ty a b v) = true then pm_pl τ ty 8 252 253 (ks ++ [(a, b)]) ∧ pm_fr (fun x => x = 252 ∨ x = 253) (fun k => k = 8) σ τ else τ = σ) := by
  have e54 := pm_standKeyword_54 (F := F) hp hF hv hk2 hab hb F 0 (pb_key (pt_cut (pm_seg ty a b))) (by omega) (by omega)
  rw [nI_0, List.drop_zero] at e54
  unfold sh_Model_standKeyword_43
  rw [pm_i, Option.bind_some, pm_isKey hp hF hab hb, im_b2_s, e54]
  unfold sh_Model_standKeyword_106
  by_cases h2 : pb_key (pt_cut (pm_seg ty a b)) = true ∧ ks.all (fun v => !pm_km ty a b v) = true
  · simp only [if_pos h2]
    refine ⟨pu_sI (pu_sA (pu_sA σ 252 ks.length (nI a)) 253 ks.length (nI b)) 248 8 (nI (ks.length + 1)), ?_, pm_pl_add hv hvl (by decide) hab hb, pm_fr.tr (pm_fr.tr (pm_fr.sA (Or.inl rfl)) (pm_fr.sA (Or.inr rfl))) (pm_fr.sI rfl)⟩
    have e1 : (pu_sA σ 252 ks.length (nI a)).1 248 8 = nI ks.length := hv.1
    have e2 : (pu_sA (pu_sA σ 252 ks.length (nI a)) 253 ks.length (nI b)).1 248 8 = nI ks.length := hv.1
    rw [h2.1, h2.2, if_neg (show ¬ pb_b (true && true) = 0 by decide), pm_9, Option.bind_some, pm_8, Option.bind_some, hv.1, pm_t252 σ _ hvl, Option.bind_some, pm_10, Option.bind_some, pm_8, Option.bind_some, e1, pm_t253 _ _ hvl, Option.bind_some, pm_8, Option.bind_some, e2, nI_1, pm_p8, Option.bind_some]
  · simp only [if_neg h2]
    refine ⟨σ, ?_, rfl⟩
    have : (pb_key (pt_cut (pm_seg ty a b)) && ks.all (fun v => !pm_km ty a b v)) = false := by
      cases h3 : pb_key (pt_cut (pm_seg ty a b)) with
      | false => rfl
      | true =>
        cases h4 : ks.all (fun v => !pm_km ty a b v) with
        | false => rfl
        | true => exact absurd ⟨h3, h4⟩ h2
    rw [this, if_pos (show pb_b false = 0 from rfl)]
theorem pm_ext_pl {ks : List (Nat × Nat)} (hv : pm_pl σ ty 8 252 253 ks) (h1 : 1 ≤ ks.length) {b : Nat} (hb : b ≤ ty.length) (hlast : (ks.getD (ks.length - 1) pm_0p).1 ≤ b) : pm_pl (pu_sA σ 253 (ks.length - 1) (nI b)) ty 8 252 253 (pm_ext ks b) := by
  unfold pm_ext
  refine ⟨by rw [List.length_set]; exact hv.1, fun i hi => ?_, by rw [List.length_set]; exact hv.2.2.1, fun v hm => ?_⟩
  · rw [List.length_set] at hi
    obtain ⟨g1, g2⟩ := hv.2.1 i hi
    by_cases hil : i = ks.length - 1
    · subst hil
      have e : (ks.set (ks.length - 1) ((ks.getD (ks.length - 1) pm_0p).1, b)).getD (ks.length - 1) pm_0p = ((ks.getD (ks.length - 1) pm_0p).1, b) := by
        rw [List.getD_eq_getElem?_getD, List.getElem?_set_self hi]
        rfl
      rw [e]
      exact ⟨by simpa [pu_sA] using g1, by simp [pu_sA]⟩
    · have e : (ks.set (ks.length - 1) ((ks.getD (ks.length - 1) pm_0p).1, b)).getD i pm_0p = ks.getD i pm_0p := by
        rw [List.getD_eq_getElem?_getD, List.getElem?_set_ne (fun q => hil q.symm), ← List.getD_eq_getElem?_getD]
      rw [e]
      exact ⟨by simpa [pu_sA] using g1, by simpa [pu_sA, hil] using g2⟩
  · rcases List.mem_or_eq_of_mem_set hm with hm | rfl
    · exact hv.2.2.2 v hm
    · exact ⟨hlast, hb⟩
theorem pm_standKeyword (hp : pm_ty σ ty) (hF : 62 ≤ F) {ks : List (Nat × Nat)} (hv : pm_pl σ ty 8 252 253 ks) (hk2 : ∀ k ∈ ks, k.1 + 2 ≤ k.2) (hvl : ks.length < 32) {st : Nat} (hst : st < 100) (h5 : st = 5 → 1 ≤ ks.length) {a b : Nat} (hab : a ≤ b) (hb : b ≤ ty.length) (hlast : ∀ k ∈ ks, k.1 ≤ b) : ∃ τ, sh_Model_standKeyword F 248 (nI st) (nI a) (nI b) (pu_mk σ) = some (if (st = 5 ∧ pb_type (pt_cut (pm_seg ty a b)) = true) ∨ (pb_key (pt_cut (pm_seg ty a b)) = true ∧ ks.all (fun v => !pm_km ty a b v) = true) then 5 else -1, pu_mk τ) ∧ pm_fr (fun x => x = 252 ∨ x = 253) (fun k => k = 8) σ τ ∧ pm_pl τ ty 8 252 253 (if st = 5 ∧ pb_type (pt_cut (pm_seg ty a b)) = true then pm_ext ks b else if pb_key (pt_cut (pm_seg ty a b)) = true ∧ ks.all (fun v => !pm_km ty a b v) = true then ks ++ [(a, b)] else ks) := by
  have hl := hp.2.2.1
  have eS : nI b - nI a = nI (b - a) := pn_sub hab
  have c3 : nI (b - a) < (3 : Int32) ↔ b - a < 3 := nI_ltI (b := 3) (by omega) (by decide)
  have c8 : (8 : Int32) < nI (b - a) ↔ 8 < b - a := nI_ltI (a := 8) (by decide) (by omega)
  have cst : nI st = (5 : Int32) ↔ st = 5 := nI_eq (b := 5) (by omega) (by decide)
  have key : ¬ (st = 5 ∧ pb_type (pt_cut (pm_seg ty a b)) = true) → ∃ τ, sh_Model_standKeyword_43 F 248 (nI a) (nI b) (pu_mk σ) = some (if (st = 5 ∧ pb_type (pt_cut (pm_seg ty a b)) = true) ∨ (pb_key (pt_cut (pm_seg ty a b)) = true ∧ ks.all (fun v => !pm_km ty a b v) = true) then 5 else -1, pu_mk τ) ∧ pm_fr (fun x => x = 252 ∨ x = 253) (fun k => k = 8) σ τ ∧ pm_pl τ ty 8 252 253 (if st = 5 ∧ pb_type (pt_cut (pm_seg ty a b)) = true then pm_ext ks b else if pb_key (pt_cut (pm_seg ty a b)) = true ∧ ks.all (fun v => !pm_km ty a b v) = true then ks ++ [(a, b)] else ks) := by
    intro hn
    obtain ⟨τ, e, c⟩ := pm_standKeyword_43 (F := F) hp hF hv hk2 hvl hab hb
    refine ⟨τ, ?_, ?_⟩
    · rw [e]
      simp only [hn, false_or]
    · rw [if_neg hn]
      by_cases h2 : pb_key (pt_cut (pm_seg ty a b)) = true ∧ ks.all (fun v => !pm_km ty a b v) = true
      · rw [if_pos h2] at c ⊢
        exact ⟨c.2, c.1⟩
      · rw [if_neg h2] at c ⊢
        subst c
        exact ⟨pm_fr.rf, hv⟩
  have hty := pm_type_eq (pm_seg ty a b)
  rw [pm_seg_len hb] at hty
  unfold sh_Model_standKeyword
  rw [eS]
  by_cases s5 : st = 5
  · rw [if_pos (cst.mpr s5)]
    by_cases h3 : b - a < 3
    · rw [if_pos (c3.mpr h3)]
      refine key (fun q => ?_)
      rw [hty] at q
      have := of_decide_eq_true q.2
      omega
    · rw [if_neg (fun q => h3 (c3.mp q))]
      by_cases h8 : 8 < b - a
      · rw [if_pos (c8.mpr h8)]
        refine key (fun q => ?_)
        rw [hty] at q
        have := of_decide_eq_true q.2
        omega
      · rw [if_neg (fun q => h8 (c8.mp q)), pm_i, Option.bind_some, pm_allBoth hp hF hab hb, im_b2_s]
        cases hA : (pm_seg ty a b).all pb_isA with
        | false =>
          rw [if_pos (show pb_b false = 0 from rfl)]
          refine key (fun q => ?_)
          rw [hty] at q
          have := of_decide_eq_true q.2
          rw [hA] at this
          exact absurd this.2.2 (by decide)
        | true =>
          have ht : st = 5 ∧ pb_type (pt_cut (pm_seg ty a b)) = true := ⟨s5, by rw [hty, hA]; exact decide_eq_true ⟨by omega, by omega, rfl⟩⟩
          have hks := h5 s5
          have e1 : nI ks.length - (1 : Int32) = nI (ks.length - 1) := pn_sub (b := 1) hks
          rw [if_pos (Or.inl ht), if_pos ht]
          refine ⟨pu_sA σ 253 (ks.length - 1) (nI b), ?_, pm_fr.sA (Or.inr rfl), pm_ext_pl hv hks hb (hlast _ (pb_getG pm_0p (by omega)))⟩
          rw [if_neg (show ¬ pb_b true = 0 by decide), pm_10, Option.bind_some, pm_8, Option.bind_some, hv.1, e1, pm_t253 σ _ (by omega), Option.bind_some]
  · rw [if_neg (fun q => s5 (cst.mp q))]
    exact key (fun q => s5 q.1)
end MKW
