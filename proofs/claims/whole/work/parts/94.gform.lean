/-! the model: makeKeywords, makeForm -/
def pm_kws (ty : List Nat) (ks : List (Nat × Nat)) : List Nat := (pm_sel (ks.map (pm_kk ty)) ks.length none).flatMap (pm_kt ty ks)
def pm_vws (ty : List Nat) (vs : List (Nat × Nat)) : List Nat := (pm_sel (vs.map (pm_vk ty)) vs.length none).flatMap (pm_vt ty vs)
def pm_pws (ty : List Nat) (A : pm_A) : List Nat := match A.2.2.2.1 with
  | none => []
  | some f => match A.2.2.2.2 with
    | none => []
    | some t => 45 :: (pm_seg ty f t).map pm_pc
def pm_uws (ty : List Nat) (A : pm_A) : List Nat := if A.2.2.1 = [] then [] else [45, 117] ++ pm_kws ty A.2.2.1
def pm_ft (ty l : List Nat) (A : pm_A) : List Nat := l ++ pm_vws ty A.2.1 ++ pm_uws ty A ++ pm_pws ty A
section MMH
variable {F : Nat} {ty : List Nat} {vs ks : List (Nat × Nat)}
theorem pm_ke_le {v : Nat × Nat} (h : v.1 + 2 ≤ v.2) : v.1 ≤ pm_ke ty v ∧ pm_ke ty v ≤ v.2 := by
  unfold pm_ke
  split <;> omega
theorem pm_mk4 (hF : 62 ≤ F) (h2 : ∀ k ∈ ks, k.1 + 2 ≤ k.2) : ∀ (n f k : Nat) (last : Option Nat) (l : List Nat) (σ : pu_S), k + n = ks.length → n + 1 ≤ f → (∀ j, last = some j → j < ks.length) → (pm_sel (ks.map (pm_kk ty)) n last).length = n → (l ++ (pm_sel (ks.map (pm_kk ty)) n last).flatMap (pm_kt ty ks)).length ≤ 80 → pm_ty σ ty → pm_pl σ ty 8 252 253 ks → pm_fm σ l → ∃ τ, sh_Model_makeKeywords_4 F f 248 (pm_o last) (nI k) (pu_mk σ) = some (pu_mk τ) ∧ pm_fm τ (l ++ (pm_sel (ks.map (pm_kk ty)) n last).flatMap (pm_kt ty ks)) ∧ pm_fr (fun x => x = 254) (fun k => k = 13) σ τ := by
  intro n
  induction n with
  | zero =>
    intro f k last l σ hk hf hla hs hl hp hv hm
    obtain ⟨g, rfl⟩ : ∃ g, f = g + 1 := ⟨f - 1, by omega⟩
    have v3 := hv.2.2.1
    have hk' : k = ks.length := by omega
    subst hk'
    refine ⟨σ, ?_, by simpa [pm_sel] using hm, pm_fr.rf⟩
    rw [sh_Model_makeKeywords_4, pm_8, Option.bind_some, hv.1, if_pos (nI_le (Nat.le_refl _) (by omega))]
  | succ n ih =>
    intro f k last l σ hk hf hla hs hl hp hv hm
    obtain ⟨g, rfl⟩ : ∃ g, f = g + 1 := ⟨f - 1, by omega⟩
    have v3 := hv.2.2.1
    rw [pm_sel] at hs hl ⊢
    cases hj : pm_lw (ks.map (pm_kk ty)) last (ks.map (pm_kk ty)) 0 none with
    | none => rw [hj] at hs; simp at hs
    | some j =>
      rw [hj] at hs hl
      have hs' : (pm_sel (ks.map (pm_kk ty)) n (some j)).length = n := by simpa using hs
      have hjl : j < ks.length := by
        have := pm_lw_lt (last := last) (ks.map (pm_kk ty)) 0 none (by simp) (fun k hk => by cases hk) j hj
        simpa using this
      have hl' : (l ++ (pm_kt ty ks j ++ (pm_sel (ks.map (pm_kk ty)) n (some j)).flatMap (pm_kt ty ks))).length ≤ 80 := by
        simpa [List.flatMap_cons] using hl
      have m1 := hv.2.2.2 _ (pb_getG pm_0p hjl)
      have n1 := pm_ke_le (ty := ty) (h2 _ (pb_getG pm_0p hjl))
      have n2 : pm_ke ty (ks.getD j pm_0p) ≤ ty.length := by omega
      have hb : l.length + 1 + (pm_ke ty (ks.getD j pm_0p) - (ks.getD j pm_0p).1) ≤ 80 := by
        simp only [List.length_append, pm_kt, List.length_cons, List.length_map] at hl'
        rw [pm_seg_len n2] at hl'
        omega
      obtain ⟨τ, e1, e2, e3⟩ := pm_putTyped (F := F) hp hm hF n1.1 n2 hb
      have hp' : pm_ty τ ty := hp.fr e3 (by decide) (by decide)
      have hv' : pm_pl τ ty 8 252 253 ks := hv.fr e3 (by decide) ⟨by decide, by decide⟩ ⟨by decide, by decide⟩
      obtain ⟨ρ, f1, f2, f3⟩ := ih g (k + 1) (some j) (l ++ pm_kt ty ks j) τ (by omega) (by omega) (fun i hi => by cases hi; exact hjl) hs' (by rw [List.append_assoc]; exact hl') hp' hv' e2
      refine ⟨ρ, ?_, ?_, e3.tr f3⟩
      · have key := pm_mk17 (F := F) (k4 := sh_Model_makeKeywords_4 F g) (x2 := nI k) hp hF hv h2 hla ks.length F 0 none (by omega) (by omega) (fun j hj => by cases hj)
        rw [List.drop_zero, hj, nI_0] at key
        rw [sh_Model_makeKeywords_4, pm_8, Option.bind_some, hv.1, if_neg (show ¬ nI ks.length ≤ nI k from fun z => by rw [nI_leI (by omega) (by omega)] at z; omega)]
        refine key.trans ?_
        rw [show pm_o (some j) = nI j from rfl, pm_mkF hF hp hv h2 hjl, e1, Option.bind_some]
        exact f1
      · show pm_fm ρ (l ++ (j :: pm_sel (ks.map (pm_kk ty)) n (some j)).flatMap (pm_kt ty ks))
        rw [List.flatMap_cons, ← List.append_assoc]
        exact f2
theorem pm_mf184 (hF : 62 ≤ F) {σ : pu_S} {A : pm_A} {l : List Nat} (hp : pm_ty σ ty) (h11 : σ.1 248 11 = pm_o A.2.2.2.1) (h12 : ∀ p, A.2.2.2.2 = some p → σ.1 248 12 = nI p) (hpr : ∀ f, A.2.2.2.1 = some f → ∃ t, A.2.2.2.2 = some t ∧ f ≤ t ∧ t ≤ ty.length) (hm : pm_fm σ l) (hl : (l ++ pm_pws ty A).length ≤ 80) : ∃ τ, sh_Model_makeForm_184 F 248 (pu_mk σ) = some (pu_mk τ) ∧ pm_fm τ (l ++ pm_pws ty A) ∧ pm_fr (fun x => x = 254) (fun k => k = 13) σ τ := by
  unfold sh_Model_makeForm_184 sh_Model_makeForm_203
  unfold pm_pws at hl ⊢
  have hty := hp.2.2.1
  cases h : A.2.2.2.1 with
  | none =>
    rw [h] at h11
    rw [pm_11, Option.bind_some, h11, if_pos (show pm_o none < 0 by decide)]
    exact ⟨σ, rfl, by simpa using hm, pm_fr.rf⟩
  | some f =>
    obtain ⟨t, e1, e2, e3⟩ := hpr f h
    rw [h, e1] at hl
    rw [h] at h11
    have hl' : l.length + 1 + (t - f) ≤ 80 := by
      have : (l ++ 45 :: (pm_seg ty f t).map pm_pc).length ≤ 80 := hl
      rw [List.length_append, List.length_cons, List.length_map, pm_seg_len e3] at this
      omega
    obtain ⟨τ, g1, g2, g3⟩ := pm_putTyped (F := F) hp hm hF e2 e3 hl'
    refine ⟨τ, ?_, ?_, g3⟩
    · rw [pm_11, Option.bind_some, h11, if_neg (pm_o_neg (by omega)), Option.bind_some, pm_12, Option.bind_some, h12 t e1, pm_i, Option.bind_some, show pm_o (some f) = nI f from rfl, g1, Option.bind_some]
    · rw [e1]
      exact g2
theorem pm_makeForm (hF : 62 ≤ F) {σ : pu_S} {A : pm_A} (hp : pm_ty σ ty) (hA : pm_ps σ ty A) {a b c : List Nat} (ha : pv_ok a) (hb : pv_ok b) (hc : pv_ok c) (hne : ¬ a = []) (hn : A.1 = (pv_n a, pv_n b, pv_n c)) (h2 : ∀ k ∈ A.2.2.1, k.1 + 2 ≤ k.2) (hs1 : (pm_sel (A.2.1.map (pm_vk ty)) A.2.1.length none).length = A.2.1.length) (hs2 : (pm_sel (A.2.2.1.map (pm_kk ty)) A.2.2.1.length none).length = A.2.2.1.length) (hpr : ∀ f, A.2.2.2.1 = some f → ∃ t, A.2.2.2.2 = some t ∧ f ≤ t ∧ t ≤ ty.length) (hl : (pm_ft ty (pv_sh a b c) A).length ≤ 80) : ∃ τ, sh_Model_makeForm F 248 (pu_mk σ) = some (pu_mk τ) ∧ pm_fm τ (pm_ft ty (pv_sh a b c) A) ∧ pm_fr (fun x => x = 254) (fun k => k = 13) σ τ := by
  obtain ⟨⟨q1, q2, q3⟩, q4, q5, q6, q7⟩ := hA
  rw [hn] at q1 q2 q3
  have q1 : σ.1 248 2 = nI (pv_n a) := q1
  have q2 : σ.1 248 3 = nI (pv_n b) := q2
  have q3 : σ.1 248 4 = nI (pv_n c) := q3
  obtain ⟨τ, e1, e2, e3⟩ := pm_putShort (F := F) (σ := σ) hF ha hb hc hne
  have hv3 := q4.2.2.1
  have hk3 := q5.2.2.1
  have hl0 : (pv_sh a b c ++ pm_vws ty A.2.1).length ≤ 80 := by
    unfold pm_ft at hl
    rw [List.append_assoc, List.length_append] at hl
    omega
  have hl1 : (pv_sh a b c ++ pm_vws ty A.2.1 ++ pm_uws ty A).length ≤ 80 := by
    unfold pm_ft at hl
    rw [List.length_append] at hl
    omega
  have hp1 : pm_ty τ ty := hp.fr e3 (by decide) (by decide)
  have hv1 : pm_pl τ ty 5 250 251 A.2.1 := q4.fr e3 (by decide) ⟨by decide, by decide⟩ ⟨by decide, by decide⟩
  obtain ⟨υ, f1, f2, f3⟩ := pm_mf20 (F := F) (vs := A.2.1) (ty := ty) hF A.2.1.length F 0 none (pv_sh a b c) τ (by omega) (by omega) (fun j hj => by cases hj) hs1 hl0 hp1 hv1 e2
  have f4 := e3.tr f3
  have hp2 : pm_ty υ ty := hp.fr f4 (by decide) (by decide)
  have hv2 : pm_pl υ ty 5 250 251 A.2.1 := q4.fr f4 (by decide) ⟨by decide, by decide⟩ ⟨by decide, by decide⟩
  have hk2 : pm_pl υ ty 8 252 253 A.2.2.1 := q5.fr f4 (by decide) ⟨by decide, by decide⟩ ⟨by decide, by decide⟩
  have main : ∃ ρ, sh_Model_makeForm_20 F 1 248 0 (nI A.2.1.length) (pu_mk υ) = some (pu_mk ρ) ∧ pm_fm ρ (pm_ft ty (pv_sh a b c) A) ∧ pm_fr (fun x => x = 254) (fun k => k = 13) υ ρ := by
    rw [sh_Model_makeForm_20, pm_5, Option.bind_some, hv2.1, if_pos (nI_le (Nat.le_refl _) (by omega)), pm_8, Option.bind_some, hk2.1]
    by_cases h0 : A.2.2.1 = []
    · rw [h0, if_pos (show nI ([] : List (Nat × Nat)).length ≤ 0 by decide)]
      have hu : pm_uws ty A = [] := by unfold pm_uws; rw [if_pos h0]
      unfold pm_ft at hl ⊢
      rw [hu, List.append_nil] at hl ⊢
      exact pm_mf184 hF hp2 ((f4.2 11 (by decide)).trans q6) (fun p hp => (f4.2 12 (by decide)).trans (q7 p hp)) hpr f2 hl
    · have h0' : 0 < A.2.2.1.length := by
        cases hx : A.2.2.1 with
        | nil => exact absurd hx h0
        | cons x l => simp
      have hu : pm_uws ty A = [45, 117] ++ pm_kws ty A.2.2.1 := by unfold pm_uws; rw [if_neg h0]
      rw [hu] at hl1
      have hl2 : (pv_sh a b c ++ pm_vws ty A.2.1).length + 2 ≤ 80 := by
        simp only [List.length_append, List.length_cons, List.length_nil] at hl1 ⊢
        omega
      obtain ⟨ρ, g1, g2, g3⟩ := pm_putChar (F := F) f2 (c := 45) (by decide) (show (pv_sh a b c ++ pm_vws ty A.2.1).length < 80 by omega)
      obtain ⟨ω, i1, i2, i3⟩ := pm_putChar (F := F) g2 (c := 117) (by decide) (by rw [List.length_append]; show (pv_sh a b c ++ pm_vws ty A.2.1).length + 1 < 80; omega)
      have g4 := (f4.tr g3).tr i3
      have hp3 : pm_ty ω ty := hp.fr g4 (by decide) (by decide)
      have hk4 : pm_pl ω ty 8 252 253 A.2.2.1 := q5.fr g4 (by decide) ⟨by decide, by decide⟩ ⟨by decide, by decide⟩
      obtain ⟨κ, j1, j2, j3⟩ := pm_mk4 (F := F) (ks := A.2.2.1) (ty := ty) hF h2 A.2.2.1.length F 0 none _ ω (by omega) (by omega) (fun j hj => by cases hj) hs2 (by
        have : (pv_sh a b c ++ pm_vws ty A.2.1 ++ [45] ++ [117] ++ pm_kws ty A.2.2.1).length ≤ 80 := by
          simpa using hl1
        exact this) hp3 hk4 i2
      have g5 := g4.tr j3
      have hp4 : pm_ty κ ty := hp.fr g5 (by decide) (by decide)
      have j2' : pm_fm κ (pv_sh a b c ++ pm_vws ty A.2.1 ++ pm_uws ty A) := by
        rw [hu]
        have : pm_fm κ (pv_sh a b c ++ pm_vws ty A.2.1 ++ [45] ++ [117] ++ pm_kws ty A.2.2.1) := j2
        simpa using this
      obtain ⟨θ, k1, k2, k3⟩ := pm_mf184 (F := F) (A := A) hF hp4 ((g5.2 11 (by decide)).trans q6) (fun p hp => (g5.2 12 (by decide)).trans (q7 p hp)) hpr j2' hl
      refine ⟨θ, ?_, k2, ((g3.tr i3).tr j3).tr k3⟩
      rw [if_neg (nI_nle h0' (by omega)), pm_i, Option.bind_some, show (45 : Int32) = nI 45 from rfl, g1, Option.bind_some, pm_i, Option.bind_some, show (117 : Int32) = nI 117 from rfl, i1, Option.bind_some, pm_i, Option.bind_some]
      unfold sh_Model_makeKeywords
      rw [nI_0] at j1
      rw [show sh_Model_makeKeywords_4 F F 248 (-1) 0 (pu_mk ω) = _ from j1, Option.bind_some]
      exact k1
  obtain ⟨ρ, m1, m2, m3⟩ := main
  refine ⟨ρ, ?_, m2, f4.tr m3⟩
  unfold sh_Model_makeForm
  rw [nI_0] at f1
  rw [pm_2, Option.bind_some, pm_3, Option.bind_some, pm_4, Option.bind_some, pm_i, Option.bind_some, q1, q2, q3, e1, Option.bind_some]
  exact f1.trans m1
end MMH
