/-! the model: what a part stands for -/
def pm_0p : Nat × Nat := (0, 0)
def pm_sm (ty : List Nat) (a b : Nat) (k : Nat × Nat) : Bool := decide ((pm_seg ty a b).map pt_low = (pm_seg ty k.1 k.2).map pt_low)
/-- places in two arrays, counted in a field -/
def pm_pl (σ : pu_S) (ty : List Nat) (f h g : Nat) (vs : List (Nat × Nat)) : Prop := σ.1 248 f = nI vs.length ∧ (∀ i, i < vs.length → σ.2.2.1 h i = nI (vs.getD i pm_0p).1 ∧ σ.2.2.1 g i = nI (vs.getD i pm_0p).2) ∧ vs.length ≤ 32 ∧ ∀ v ∈ vs, v.1 ≤ v.2 ∧ v.2 ≤ ty.length
theorem pm_pl.fr {S T : Nat → Prop} {σ τ : pu_S} {ty : List Nat} {f h g : Nat} {vs : List (Nat × Nat)} (hp : pm_pl σ ty f h g vs) (hf : pm_fr S T σ τ) (h1 : ¬ T f) (h2 : ¬ S h ∧ ¬ h = 248) (h3 : ¬ S g ∧ ¬ g = 248) : pm_pl τ ty f h g vs :=
  ⟨(hf.2 f h1).trans hp.1, fun i hi => ⟨(hf.1 h h2.1 h2.2 i).2.2.1.trans (hp.2.1 i hi).1, (hf.1 g h3.1 h3.2 i).2.2.1.trans (hp.2.1 i hi).2⟩, hp.2.2⟩
theorem pm_pl_add {σ : pu_S} {ty : List Nat} {f h g : Nat} {vs : List (Nat × Nat)} (hp : pm_pl σ ty f h g vs) (hl : vs.length < 32) (hhg : ¬ h = g) {a b : Nat} (hab : a ≤ b) (hb : b ≤ ty.length) : pm_pl (pu_sI (pu_sA (pu_sA σ h vs.length (nI a)) g vs.length (nI b)) 248 f (nI (vs.length + 1))) ty f h g (vs ++ [(a, b)]) := by
  have hgh : ¬ g = h := fun q => hhg q.symm
  refine ⟨by simp [pu_sI], fun i hi => ?_, by simp; omega, fun v hv => ?_⟩
  · have hi : i < vs.length + 1 := by simpa using hi
    rw [pb_appG hi]
    by_cases hil : i = vs.length
    · subst hil
      simp [pu_sI, pu_sA, hhg]
    · have h7 := hp.2.1 i (by omega)
      rw [if_neg hil]
      simpa [pu_sI, pu_sA, hil] using h7
  · rcases List.mem_append.mp hv with hv | hv
    · exact hp.2.2.2 v hv
    · simp at hv
      rw [hv]
      exact ⟨hab, hb⟩
section MST
variable {F : Nat} {σ : pu_S} {ty : List Nat}
theorem pm_standVariant_23 (hp : pm_ty σ ty) (hF : 62 ≤ F) {vs : List (Nat × Nat)} (hv : pm_pl σ ty 5 250 251 vs) {a b : Nat} (hab : a ≤ b) (hb : b ≤ ty.length) : ∀ (f k : Nat) (acc : Bool), vs.length + 1 ≤ f + k → k ≤ vs.length → sh_Model_standVariant_23 F f 248 (nI a) (nI b) (pb_b acc) (nI k) (pu_mk σ) = sh_Model_standVariant_71 F 248 (nI a) (nI b) (pb_b (acc && (vs.drop k).all (fun v => !pm_sm ty a b v))) (pu_mk σ) := by
  have hvl := hv.2.2.1
  intro f
  induction f with
  | zero => intro k acc h1 h2; omega
  | succ f ih =>
    intro k acc h1 h2
    have h6 : nI vs.length ≤ nI k ↔ vs.length ≤ k := nI_leI (by omega) (by omega)
    rw [sh_Model_standVariant_23, pm_5, Option.bind_some, hv.1]
    by_cases h3 : vs.length ≤ k
    · rw [if_pos (h6.mpr h3), List.drop_eq_nil_of_le h3, List.all_nil, Bool.and_true]
    · rw [if_neg (fun q => h3 (h6.mp q))]
      cases acc with
      | false => rw [if_pos (show pb_b false = 0 from rfl), Bool.false_and]
      | true =>
        have hk : k < vs.length := by omega
        obtain ⟨g1, g2⟩ := hv.2.1 k hk
        obtain ⟨g3, g4⟩ := hv.2.2.2 _ (pb_getG pm_0p hk)
        rw [if_neg (show ¬ pb_b true = 0 by decide), pm_6, Option.bind_some, pm_l250 σ (by omega), Option.bind_some, pm_7, Option.bind_some, pm_l251 σ (by omega), Option.bind_some, g1, g2, pm_i, Option.bind_some, pm_same hp hF hab hb g3 g4, im_b2_s, pb_dropG pm_0p hk, List.all_cons]
        unfold sh_Model_standVariant_64
        rw [nI_1]
        cases hs : pm_sm ty a b (vs.getD k pm_0p) with
        | false =>
          have := ih (k + 1) true (by omega) (by omega)
          unfold pm_sm at hs
          rw [hs, if_pos (show pb_b false = 0 from rfl)]
          exact this
        | true =>
          have := ih (k + 1) false (by omega) (by omega)
          unfold pm_sm at hs
          rw [hs, if_neg (show ¬ pb_b true = 0 by decide)]
          exact this
theorem pm_standVariant (hp : pm_ty σ ty) (hF : 62 ≤ F) {vs : List (Nat × Nat)} (hv : pm_pl σ ty 5 250 251 vs) (hvl : vs.length < 32) {a b : Nat} (hab : a ≤ b) (hb : b ≤ ty.length) : ∃ τ, sh_Model_standVariant F 248 (nI a) (nI b) (pu_mk σ) = some (if pt_cut (pm_seg ty a b) = [117] then 4 else if pb_variant (pt_cut (pm_seg ty a b)) = true ∧ vs.all (fun v => !pm_sm ty a b v) = true then 3 else -1, pu_mk τ) ∧ (if ¬ pt_cut (pm_seg ty a b) = [117] ∧ pb_variant (pt_cut (pm_seg ty a b)) = true ∧ vs.all (fun v => !pm_sm ty a b v) = true then pm_pl τ ty 5 250 251 (vs ++ [(a, b)]) ∧ pm_fr (fun x => x = 250 ∨ x = 251) (fun k => k = 5) σ τ else τ = σ) := by
  have e117 : sh_Model_isOne F 248 (nI a) (nI b) (117 : Int32) (pu_mk σ) = some (pb_b (decide (pt_cut (pm_seg ty a b) = [117])), pu_mk σ) := pm_isOne hp hab hb (d := 117) (by decide)
  have e23 := pm_standVariant_23 (F := F) hp hF hv hab hb F 0 (pb_variant (pt_cut (pm_seg ty a b))) (by omega) (by omega)
  rw [nI_0, List.drop_zero] at e23
  unfold sh_Model_standVariant
  rw [pm_i, Option.bind_some, e117, im_b2_s]
  by_cases h1 : pt_cut (pm_seg ty a b) = [117]
  · refine ⟨σ, ?_, ?_⟩
    · rw [if_pos h1, decide_eq_true h1, if_neg (show ¬ pb_b true = 0 by decide)]
    · rw [if_neg (fun q => q.1 h1)]
  · rw [decide_eq_false h1, if_pos (show pb_b false = 0 from rfl), pm_i, Option.bind_some, pm_isVariant hp hF hab hb, im_b2_s, e23]
    unfold sh_Model_standVariant_71
    by_cases h2 : pb_variant (pt_cut (pm_seg ty a b)) = true ∧ vs.all (fun v => !pm_sm ty a b v) = true
    · have hc : ¬ pt_cut (pm_seg ty a b) = [117] ∧ pb_variant (pt_cut (pm_seg ty a b)) = true ∧ vs.all (fun v => !pm_sm ty a b v) = true := ⟨h1, h2⟩
      rw [if_neg h1, if_pos h2]
      refine ⟨pu_sI (pu_sA (pu_sA σ 250 vs.length (nI a)) 251 vs.length (nI b)) 248 5 (nI (vs.length + 1)), ?_, ?_⟩
      · have e1 : (pu_sA σ 250 vs.length (nI a)).1 248 5 = nI vs.length := hv.1
        have e2 : (pu_sA (pu_sA σ 250 vs.length (nI a)) 251 vs.length (nI b)).1 248 5 = nI vs.length := hv.1
        rw [h2.1, h2.2, if_neg (show ¬ pb_b (true && true) = 0 by decide), pm_6, Option.bind_some, pm_5, Option.bind_some, hv.1, pm_t250 σ _ hvl, Option.bind_some, pm_7, Option.bind_some, pm_5, Option.bind_some, e1, pm_t251 _ _ hvl, Option.bind_some, pm_5, Option.bind_some, e2, nI_1, pm_p5, Option.bind_some]
      · rw [if_pos hc]
        refine ⟨pm_pl_add hv hvl (by decide) hab hb, ?_⟩
        exact pm_fr.tr (pm_fr.tr (pm_fr.sA (Or.inl rfl)) (pm_fr.sA (Or.inr rfl))) (pm_fr.sI rfl)
    · refine ⟨σ, ?_, ?_⟩
      · have : (pb_variant (pt_cut (pm_seg ty a b)) && vs.all (fun v => !pm_sm ty a b v)) = false := by
          cases h3 : pb_variant (pt_cut (pm_seg ty a b)) with
          | false => rfl
          | true =>
            cases h4 : vs.all (fun v => !pm_sm ty a b v) with
            | false => rfl
            | true => exact absurd ⟨h3, h4⟩ h2
        rw [this, if_pos (show pb_b false = 0 from rfl), if_neg h1, if_neg h2]
      · rw [if_neg (fun q => h2 q.2)]
end MST
