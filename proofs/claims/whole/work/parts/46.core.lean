/-! cores: language, script, region -/
abbrev pc_C : Type := List Nat × List Nat × List Nat
def pc_ok (k : pc_C) : Prop := pb_ok k.1 ∧ pb_ok k.2.1 ∧ pb_ok k.2.2
def pc_sk (c : Nat) : Prop := pu_sk c = some (.inr (1, [1, 1, 1]))
def pc_is (σ : pu_S) (c : Nat) (k : pc_C) : Prop := σ.2.1 c 0 = pb_l k.1 ∧ σ.2.1 c 1 = pb_l k.2.1 ∧ σ.2.1 c 2 = pb_l k.2.2 ∧ pc_ok k
theorem pc_is.fr {S : Nat → Prop} {σ τ : pu_S} {c : Nat} {k : pc_C} (hp : pc_is σ c k) (hf : pu_fr S σ τ) (h1 : ¬ S c) : pc_is τ c k :=
  ⟨(hf c h1 0).2.1.trans hp.1, (hf c h1 1).2.1.trans hp.2.1, (hf c h1 2).2.1.trans hp.2.2.1, hp.2.2.2⟩
theorem pb_ok0 : pb_ok [] := ⟨by simp, by simp⟩
theorem pb_l_0 {s : List Nat} (hs : pb_ok s) : pb_l s = 0 ↔ s = [] := by
  rw [← pb_l0]
  exact pb_l_inj hs pb_ok0
def pc_und : List Nat := [117, 110, 100]
theorem pc_und_ok : pb_ok pc_und := ⟨by decide, by decide⟩
theorem pc_und_l : (8461810701038518272 : Int64) = pb_l pc_und := by decide
section COR
variable {F c d : Nat} {σ : pu_S} {k m : pc_C}
theorem pc_g0 (hc : pc_sk c) (σ : pu_S) : im_gL (pu_mk σ) 1 c 0 = some (σ.2.1 c 0) := pu_gL hc rfl σ
theorem pc_g1 (hc : pc_sk c) (σ : pu_S) : im_gL (pu_mk σ) 1 c 1 = some (σ.2.1 c 1) := pu_gL hc rfl σ
theorem pc_g2 (hc : pc_sk c) (σ : pu_S) : im_gL (pu_mk σ) 1 c 2 = some (σ.2.1 c 2) := pu_gL hc rfl σ
theorem pc_p0 (hc : pc_sk c) (σ : pu_S) (v : Int64) : im_pV (pu_mk σ) 1 c 0 (.long v) = some (pu_mk (pu_sJ σ c 0 v)) := pu_pL hc rfl σ v
theorem pc_p1 (hc : pc_sk c) (σ : pu_S) (v : Int64) : im_pV (pu_mk σ) 1 c 1 (.long v) = some (pu_mk (pu_sJ σ c 1 v)) := pu_pL hc rfl σ v
theorem pc_p2 (hc : pc_sk c) (σ : pu_S) (v : Int64) : im_pV (pu_mk σ) 1 c 2 (.long v) = some (pu_mk (pu_sJ σ c 2 v)) := pu_pL hc rfl σ v
theorem pc_assign (hc : pc_sk c) (hk : pc_ok k) : ∃ τ, sh_Core_assign F c (pb_l k.1) (pb_l k.2.1) (pb_l k.2.2) (pu_mk σ) = some (pu_mk τ) ∧ pc_is τ c k ∧ pu_fr (fun x => x = c) σ τ := by
  refine ⟨pu_sJ (pu_sJ (pu_sJ σ c 0 (pb_l k.1)) c 1 (pb_l k.2.1)) c 2 (pb_l k.2.2), ?_, ⟨?_, ?_, ?_, hk⟩, ((pu_fr.sJ (S := fun x => x = c) rfl).tr (pu_fr.sJ rfl)).tr (pu_fr.sJ rfl)⟩
  · simp only [sh_Core_assign, pc_p0 hc, pc_p1 hc, pc_p2 hc, Option.bind_some]
  · simp [pu_sJ]
  · simp [pu_sJ]
  · simp [pu_sJ]
theorem pc_copyFrom (hc : pc_sk c) (hd : pc_sk d) (hp : pc_is σ d k) : ∃ τ, sh_Core_copyFrom F c d (pu_mk σ) = some (pu_mk τ) ∧ pc_is τ c k ∧ pu_fr (fun x => x = c) σ τ := by
  obtain ⟨τ, e1, h1, h2⟩ := pc_assign (F := F) (σ := σ) hc hp.2.2.2
  refine ⟨τ, ?_, h1, h2⟩
  simp only [sh_Core_copyFrom, pc_g0 hd, pc_g1 hd, pc_g2 hd, hp.1, hp.2.1, hp.2.2.1, pu_is hc, Option.bind_some, e1]
theorem pc_hasScript (hc : pc_sk c) (hp : pc_is σ c k) : sh_Core_hasScript F c (pu_mk σ) = some (pb_b (decide (¬ k.2.1 = [])), pu_mk σ) := by
  simp only [sh_Core_hasScript, sh_Core_hasScript_14, pc_g1 hc, hp.2.1, Option.bind_some, lg_cmp_eq, pb_l_0 hp.2.2.2.2.1, pb_rz0, pb_rz1]
  by_cases h : k.2.1 = [] <;> simp [h, pb_b]
theorem pc_hasRegion (hc : pc_sk c) (hp : pc_is σ c k) : sh_Core_hasRegion F c (pu_mk σ) = some (pb_b (decide (¬ k.2.2 = [])), pu_mk σ) := by
  simp only [sh_Core_hasRegion, sh_Core_hasRegion_14, pc_g2 hc, hp.2.2.1, Option.bind_some, lg_cmp_eq, pb_l_0 hp.2.2.2.2.2, pb_rz0, pb_rz1]
  by_cases h : k.2.2 = [] <;> simp [h, pb_b]
theorem pc_isUnd (hc : pc_sk c) (hp : pc_is σ c k) : sh_Core_isUnd F c (pu_mk σ) = some (pb_b (decide (k.1 = pc_und)), pu_mk σ) := by
  simp only [sh_Core_isUnd, sh_Core_isUnd_16, pc_g0 hc, hp.1, Option.bind_some, lg_cmp_eq, pc_und_l, pb_l_inj hp.2.2.2.1 pc_und_ok, pb_rz0, pb_rz1]
  by_cases h : k.1 = pc_und <;> simp [h, pb_b]
def pc_n (k : pc_C) : Nat := 1 + (if k.2.1 = [] then 0 else 1) + (if k.2.2 = [] then 0 else 1)
theorem pc_count (hc : pc_sk c) (hp : pc_is σ c k) : sh_Core_count F c (pu_mk σ) = some (nI (pc_n k), pu_mk σ) := by
  simp only [sh_Core_count, sh_Core_count_13, sh_Core_count_26, pu_is hc, Option.bind_some, pc_hasScript hc hp, pc_hasRegion hc hp, im_b2, pb_b0]
  by_cases h1 : k.2.1 = [] <;> by_cases h2 : k.2.2 = [] <;> simp [h1, h2, pc_n] <;> rfl
theorem pc_isMadeOf (hc : pc_sk c) (hp : pc_is σ c k) (hm : pc_ok m) : sh_Core_isMadeOf F c (pb_l m.1) (pb_l m.2.1) (pb_l m.2.2) (pu_mk σ) = some (pb_b (decide (k = m)), pu_mk σ) := by
  obtain ⟨k1, k2, k3⟩ := k
  obtain ⟨m1, m2, m3⟩ := m
  simp only [sh_Core_isMadeOf, sh_Core_isMadeOf_32, sh_Core_isMadeOf_33, pc_g0 hc, pc_g1 hc, pc_g2 hc, hp.1, hp.2.1, hp.2.2.1, Option.bind_some, lg_cmp_eq, pb_l_inj hp.2.2.2.1 hm.1, pb_l_inj hp.2.2.2.2.1 hm.2.1, pb_l_inj hp.2.2.2.2.2 hm.2.2, pb_rz0, pb_rz1, Prod.mk.injEq]
  by_cases h1 : k1 = m1 <;> by_cases h2 : k2 = m2 <;> by_cases h3 : k3 = m3 <;> simp [h1, h2, h3, pb_b]
theorem pc_isSame (hc : pc_sk c) (hd : pc_sk d) (hp : pc_is σ c k) (hq : pc_is σ d m) : sh_Core_isSame F c d (pu_mk σ) = some (pb_b (decide (k = m)), pu_mk σ) := by
  simp only [sh_Core_isSame, pc_g0 hd, pc_g1 hd, pc_g2 hd, hq.1, hq.2.1, hq.2.2.1, pu_is hc, Option.bind_some, pc_isMadeOf hc hp hq.2.2.2, im_b2, pb_rz]
def pc_fill (k m : pc_C) : pc_C := (if k.1 = pc_und then m.1 else k.1, if k.2.1 = [] then m.2.1 else k.2.1, if k.2.2 = [] then m.2.2 else k.2.2)
theorem pc_fill_ok (hk : pc_ok k) (hm : pc_ok m) : pc_ok (pc_fill k m) := by
  refine ⟨?_, ?_, ?_⟩
  · unfold pc_fill; dsimp only; split
    · exact hm.1
    · exact hk.1
  · unfold pc_fill; dsimp only; split
    · exact hm.2.1
    · exact hk.2.1
  · unfold pc_fill; dsimp only; split
    · exact hm.2.2
    · exact hk.2.2
theorem pc_fillFrom (hc : pc_sk c) (hd : pc_sk d) (hp : pc_is σ c k) (hq : pc_is σ d m) : ∃ τ, sh_Core_fillFrom F c d (pu_mk σ) = some (pu_mk τ) ∧ pc_is τ c (pc_fill k m) ∧ pu_fr (fun x => x = c) σ τ := by
  obtain ⟨τ, e1, h1, h2⟩ := pc_assign (F := F) (σ := σ) hc (pc_fill_ok hp.2.2.2 hq.2.2.2)
  refine ⟨τ, ?_, h1, h2⟩
  simp only [sh_Core_fillFrom, sh_Core_fillFrom_19, sh_Core_fillFrom_37, sh_Core_fillFrom_55, pu_is hc, Option.bind_some, pc_isUnd hc hp, pc_hasScript hc hp, pc_hasRegion hc hp, im_b2, pb_b0, pc_g0 hc, pc_g1 hc, pc_g2 hc, pc_g0 hd, pc_g1 hd, pc_g2 hd, hp.1, hp.2.1, hp.2.2.1, hq.1, hq.2.1, hq.2.2.1]
  by_cases a : k.1 = pc_und <;> by_cases b : k.2.1 = [] <;> by_cases x : k.2.2 = [] <;> simp [pc_fill, a, b, x] at e1 ⊢ <;> simp [e1]
def pc_far (k m : pc_C) : Nat := (if k.1 = m.1 then 0 else 80) + (if k.2.1 = m.2.1 then 0 else 40) + (if k.2.2 = m.2.2 then 0 else if k.2.2 = [] ∨ m.2.2 = [] then 2 else 5)
theorem pc_apartFrom (hc : pc_sk c) (hd : pc_sk d) (hp : pc_is σ c k) (hq : pc_is σ d m) : sh_Core_apartFrom F c d (pu_mk σ) = some (nI (pc_far k m), pu_mk σ) := by
  simp only [sh_Core_apartFrom, sh_Core_apartFrom_18, sh_Core_apartFrom_34, sh_Core_apartFrom_65, sh_Core_apartFrom_66, sh_Core_apartFrom_68, pu_is hc, pu_is hd, Option.bind_some, pc_hasRegion hc hp, pc_hasRegion hd hq, im_b2, pb_b0, pc_g0 hc, pc_g1 hc, pc_g2 hc, pc_g0 hd, pc_g1 hd, pc_g2 hd, hp.1, hp.2.1, hp.2.2.1, hq.1, hq.2.1, hq.2.2.1, lg_cmp_eq, pb_l_inj hp.2.2.2.1 hq.2.2.2.1, pb_l_inj hp.2.2.2.2.1 hq.2.2.2.2.1, pb_l_inj hp.2.2.2.2.2 hq.2.2.2.2.2]
  by_cases a : k.1 = m.1 <;> by_cases b : k.2.1 = m.2.1 <;> by_cases x : k.2.2 = m.2.2 <;> by_cases y : k.2.2 = [] <;> by_cases z : m.2.2 = [] <;> simp_all [pc_far] <;> rfl
/-- the subtags of a core, and the text of some subtags -/
def pc_list (k : pc_C) : List (List Nat) := [k.1] ++ (if k.2.1 = [] then [] else [k.2.1]) ++ (if k.2.2 = [] then [] else [k.2.2])
def pf_text (l : List Nat) (ps : List (List Nat)) : List Nat := ps.foldl pt_put l
theorem pf_text_len (ps : List (List Nat)) : ∀ l, l.length ≤ (pf_text l ps).length := by
  induction ps with
  | nil => intro l; exact Nat.le_refl _
  | cons p ps ih =>
    intro l
    refine Nat.le_trans ?_ (ih (pt_put l p))
    unfold pt_put
    split
    · rename_i h; simp [h]
    · simp
theorem pc_writeTo {h cap : Nat} {l : List Nat} (hF : 9 ≤ F) (hT : pt_sk h cap) (hl : pt_is σ h cap l) (hc : pc_sk c) (hp : pc_is σ c k) (h1 : ¬ c = h) (h2 : ¬ c = h + 1) (hcap : (pf_text l (pc_list k)).length ≤ cap) : ∃ τ, sh_Core_writeTo F c h (pu_mk σ) = some (pu_mk τ) ∧ pt_is τ h cap (pf_text l (pc_list k)) ∧ pu_fr (fun x => x = h ∨ x = h + 1) σ τ := by
  have hn : ¬ (c = h ∨ c = h + 1) := by simp [h1, h2]
  have step : ∀ (σ : pu_S) (l : List Nat) (s : List Nat), pt_is σ h cap l → pc_is σ c k → pb_ok s → (pt_put l s).length ≤ cap → ∃ τ, sh_Text_appendSubtag F h (pb_l s) (pu_mk σ) = some (pu_mk τ) ∧ pt_is τ h cap (pt_put l s) ∧ pu_fr (fun x => x = h ∨ x = h + 1) σ τ ∧ pc_is τ c k := by
    intro σ l s a b hs hle
    obtain ⟨τ, e, x, y⟩ := pt_appendSubtag (F := F) hT a hF hs hle
    exact ⟨τ, e, x, y, b.fr y hn⟩
  have l1 : (pt_put l k.1).length ≤ cap := Nat.le_trans (pf_text_len ((if k.2.1 = [] then [] else [k.2.1]) ++ (if k.2.2 = [] then [] else [k.2.2])) _) (by simpa [pc_list, pf_text] using hcap)
  obtain ⟨τ, e1, x1, y1, z1⟩ := step σ l k.1 hl hp hp.2.2.2.1 l1
  have e0 : sh_Core_writeTo F c h (pu_mk σ) = (if pb_b (decide (¬ k.2.1 = [])) = 0 then sh_Core_writeTo_23 F c h (pu_mk τ) else (sh_Text_appendSubtag F h (pb_l k.2.1) (pu_mk τ)).bind fun w22 => sh_Core_writeTo_23 F c h w22) := by
    simp only [sh_Core_writeTo, pc_g0 hc, hp.1, Option.bind_some, pu_is hT.1, e1, pu_is hc, pc_hasScript hc z1, im_b2, pc_g1 hc, z1.2.1]
  have last : ∀ (σ : pu_S) (l : List Nat), pt_is σ h cap l → pc_is σ c k → (pf_text l (if k.2.2 = [] then [] else [k.2.2])).length ≤ cap → ∃ τ, sh_Core_writeTo_23 F c h (pu_mk σ) = some (pu_mk τ) ∧ pt_is τ h cap (pf_text l (if k.2.2 = [] then [] else [k.2.2])) ∧ pu_fr (fun x => x = h ∨ x = h + 1) σ τ := by
    intro σ l a b hle
    by_cases hr : k.2.2 = []
    · refine ⟨σ, ?_, by simpa [hr, pf_text] using a, pu_fr.rf⟩
      simp [sh_Core_writeTo_23, sh_Core_writeTo_38, pu_is hc, pc_hasRegion hc b, im_b2, hr, pb_b]
    · have hle : (pt_put l k.2.2).length ≤ cap := by simpa [hr, pf_text] using hle
      obtain ⟨τ, e, x, y, z⟩ := step σ l k.2.2 a b hp.2.2.2.2.2 hle
      refine ⟨τ, ?_, by simpa [hr, pf_text] using x, y⟩
      simp [sh_Core_writeTo_23, sh_Core_writeTo_38, pu_is hc, pu_is hT.1, pc_hasRegion hc b, im_b2, hr, pb_b, pc_g2 hc, b.2.2.1, e]
  rw [e0]
  by_cases hs : k.2.1 = []
  · obtain ⟨υ, e2, x2, y2⟩ := last τ (pt_put l k.1) x1 z1 (by simpa [pc_list, pf_text, hs] using hcap)
    refine ⟨υ, ?_, by simpa [pc_list, pf_text, hs] using x2, y1.tr y2⟩
    simpa [hs, pb_b] using e2
  · have hcap2 : (pf_text (pt_put (pt_put l k.1) k.2.1) (if k.2.2 = [] then [] else [k.2.2])).length ≤ cap := by simpa [pc_list, pf_text, hs] using hcap
    obtain ⟨υ, e2, x2, y2, z2⟩ := step τ (pt_put l k.1) k.2.1 x1 z1 hp.2.2.2.2.1 (Nat.le_trans (pf_text_len _ _) hcap2)
    obtain ⟨φ, e3, x3, y3⟩ := last υ _ x2 z2 hcap2
    refine ⟨φ, ?_, by simpa [pc_list, pf_text, hs] using x3, (y1.tr y2).tr y3⟩
    simpa [hs, pb_b, e2] using e3
end COR
