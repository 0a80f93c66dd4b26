/-! the model: the end of parse -/
def pm_fin (ma : List pm_R) (A : pm_A) : pm_A := ((pm_rn ma false 9 A.1.1, A.1.2.1, if A.1.2.2 = 0 then 0 else pm_rn ma true 9 A.1.2.2), A.2)
section MPE
variable {F : Nat} {σ : pu_S} {ty : List Nat} {A : pm_A} {ma : List pm_R}
theorem pm_parse_137 (hA : pm_ps σ ty A) {st b : Nat} (hst : st < 8) (r : Nat) : ∃ τ, sh_Model_parse_137 F (nI b) (nI st) (nI r) 248 (pu_mk σ) = some (if st = 4 ∨ st = 6 then nI b else -1, pu_mk τ) ∧ pm_ps τ ty ((A.1.1, A.1.2.1, r), A.2) ∧ pm_fr pm_S pm_T σ τ := by
  have c4 : nI st = (4 : Int32) ↔ st = 4 := nI_eq (b := 4) (by omega) (by decide)
  have c6 : nI st = (6 : Int32) ↔ st = 6 := nI_eq (b := 6) (by omega) (by decide)
  obtain ⟨r1, r2, r3, r4⟩ := pm_ps_sI hA 4 (nI r) (by decide)
  obtain ⟨q1, q2, q3, q4, q5⟩ := hA
  refine ⟨pu_sI σ 248 4 (nI r), ?_, ⟨⟨(r4 2 (by decide)).trans q1.1, (r4 3 (by decide)).trans q1.2.1, by simp [pu_sI]⟩, r1, r2, (r4 11 (by decide)).trans q4, fun p hp => (r4 12 (by decide)).trans (q5 p hp)⟩, r3⟩
  unfold sh_Model_parse_137 sh_Model_parse_151 sh_Model_parse_156
  rw [pm_p4, Option.bind_some]
  by_cases h4 : st = 4
  · rw [if_pos (c4.mpr h4), if_pos (Or.inl h4)]
  · rw [if_neg (fun q => h4 (c4.mp q))]
    by_cases h6 : st = 6
    · rw [if_pos (c6.mpr h6), if_pos (Or.inr h6)]
    · rw [if_neg (fun q => h6 (c6.mp q)), if_neg (fun q => by omega)]
theorem pm_parse_end (hF : 62 ≤ F) (hA : pm_ps σ ty A) (hm : pm_al σ ma) (n1 : A.1.1 < 2 ^ 31) (n2 : A.1.2.2 < 2 ^ 31) {st b : Nat} (hst : st < 8) (hb : b < 1000) (f : Nat) (p : Int32) : ∃ τ, sh_Model_parse_38 F (f + 1) 248 (nI b) (nI st) p (nI (b + 1)) (pu_mk σ) = some (if st = 4 ∨ st = 6 then nI b else -1, pu_mk τ) ∧ pm_ps τ ty (pm_fin ma A) ∧ pm_fr pm_S pm_T σ τ := by
  have e0 : sh_Model_replaced F 248 (nI A.1.1) (0 : Int32) (pu_mk σ) = some (nI (pm_rn ma false 9 A.1.1), pu_mk σ) := pm_replaced hm hF false n1
  obtain ⟨r1, r2, r3, r4⟩ := pm_ps_sI hA 2 (nI (pm_rn ma false 9 A.1.1)) (by decide)
  have hm2 := hm.fr r3 (by unfold pm_T; omega) (fun x h1 h2 => by unfold pm_S; omega)
  obtain ⟨q1, q2, q3, q4, q5⟩ := hA
  have hA2 : pm_ps (pu_sI σ 248 2 (nI (pm_rn ma false 9 A.1.1))) ty ((pm_rn ma false 9 A.1.1, A.1.2.1, A.1.2.2), A.2) := ⟨⟨by simp [pu_sI], (r4 3 (by decide)).trans q1.2.1, (r4 4 (by decide)).trans q1.2.2⟩, r1, r2, (r4 11 (by decide)).trans q4, fun p hp => (r4 12 (by decide)).trans (q5 p hp)⟩
  have e4 : (pu_sI σ 248 2 (nI (pm_rn ma false 9 A.1.1))).1 248 4 = nI A.1.2.2 := hA2.1.2.2
  rw [sh_Model_parse_38, if_pos (nI_lt (by omega) (by omega)), pm_2, Option.bind_some, q1.1, pm_i, Option.bind_some, e0, im_b2_s, pm_p2, Option.bind_some, pm_4, Option.bind_some, e4]
  unfold pm_fin
  by_cases h : A.1.2.2 = 0
  · obtain ⟨τ, e, p1, f1⟩ := pm_parse_137 (F := F) (b := b) hA2 hst 0
    rw [nI_0] at e
    refine ⟨τ, ?_, ?_, r3.tr f1⟩
    · rw [h, if_pos (by decide), e]
    · rw [if_pos h]
      exact p1
  · obtain ⟨τ, e, p1, f1⟩ := pm_parse_137 (F := F) (b := b) hA2 hst (pm_rn ma true 9 A.1.2.2)
    have e1 : sh_Model_replaced F 248 (nI A.1.2.2) (1 : Int32) (pu_mk (pu_sI σ 248 2 (nI (pm_rn ma false 9 A.1.1)))) = some (nI (pm_rn ma true 9 A.1.2.2), pu_mk (pu_sI σ 248 2 (nI (pm_rn ma false 9 A.1.1)))) := pm_replaced hm2 hF true n2
    refine ⟨τ, ?_, ?_, r3.tr f1⟩
    · rw [if_neg (nI_nle (by omega) n2), Option.bind_some, pm_i, Option.bind_some, e1, im_b2_s, e]
    · rw [if_neg h]
      exact p1
end MPE
