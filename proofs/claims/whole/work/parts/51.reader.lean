/-! the reader: cutting a text into the subtags of a tag -/
abbrev pr_E : Type := Nat × List Nat
def pr_0 : pr_E := (0, [])
def pr_sk (r : Nat) : Prop := pu_sk r = some (.inr (5, [r + 1 + 2, r + 2 + 2, 0])) ∧ pu_sk (r + 1) = some (.inl (1, 30)) ∧ pu_sk (r + 2) = some (.inl (0, 30))
theorem pr_sk5 : pr_sk 5 := ⟨by decide +kernel, by decide +kernel, by decide +kernel⟩
def pr_is (σ : pu_S) (r : Nat) (l : List pr_E) : Prop := σ.1 r 2 = nI l.length ∧ (∀ i, i < l.length → σ.2.2.2 (r + 1) i = pb_l (l.getD i pr_0).2 ∧ σ.2.2.1 (r + 2) i = nI (l.getD i pr_0).1) ∧ l.length ≤ 30 ∧ ∀ e ∈ l, e.1 < 10 ∧ pb_ok e.2
theorem pr_is.fr {S : Nat → Prop} {σ τ : pu_S} {r : Nat} {l : List pr_E} (hp : pr_is σ r l) (hf : pu_fr S σ τ) (h0 : ¬ S r) (h1 : ¬ S (r + 1)) (h2 : ¬ S (r + 2)) : pr_is τ r l :=
  ⟨(hf r h0 2).1.trans hp.1, fun i hi => ⟨(hf (r + 1) h1 i).2.2.2.trans (hp.2.1 i hi).1, (hf (r + 2) h2 i).2.2.1.trans (hp.2.1 i hi).2⟩, hp.2.2⟩
def pr_has (l : List pr_E) (s : List Nat) (q : Nat) : Bool := l.any (fun e => decide (e.1 = q) && decide (e.2 = s))
def pr_ext (l : List pr_E) (s : List Nat) (b : Nat) : Nat := if pb_key s = true then (if pr_has l s 6 = true then 0 else 6) else if ¬ b = 5 ∧ pb_type s = true then 7 else 0
def pr_front (l : List pr_E) (s : List Nat) (b : Nat) : Nat := if s = [117] then 5 else if b < 2 ∧ pb_script s = true then 2 else if b < 3 ∧ pb_region s = true then 3 else if pb_variant s = true ∧ pr_has l s 4 = false then 4 else 0
/-- what a subtag is behind one of a role -/
def pr_role (l : List pr_E) (s : List Nat) (b : Nat) : Nat := if s = [] then 0 else if b = 0 then (if pb_lang s = true then 1 else 0) else if 8 ≤ b then 9 else if s = [120] then (if b = 5 then 0 else 8) else if 5 ≤ b then pr_ext l s b else pr_front l s b
theorem pr_role_lt (l : List pr_E) (s : List Nat) (b : Nat) : pr_role l s b < 10 := by
  unfold pr_role pr_ext pr_front
  repeat' split
  all_goals decide
theorem pr_u : (8430738502437568512 : Int64) = pb_l [117] := by decide
theorem pr_x : (8646911284551352320 : Int64) = pb_l [120] := by decide
theorem pr_uok : pb_ok [117] := ⟨by decide, by decide⟩
theorem pr_xok : pb_ok [120] := ⟨by decide, by decide⟩
theorem pr_okg {l : List pr_E} (h : ∀ e ∈ l, e.1 < 10 ∧ pb_ok e.2) (i : Nat) : (l.getD i pr_0).1 < 10 ∧ pb_ok (l.getD i pr_0).2 := by
  by_cases hi : i < l.length
  · exact h _ (pb_getG _ hi)
  · rw [List.getD_eq_getElem?_getD, List.getElem?_eq_none (by omega)]
    exact ⟨by decide, pb_ok0⟩
section RDR
variable {F r : Nat} {σ : pu_S} {l : List pr_E} {s : List Nat}
theorem pr_g0 (hr : pr_sk r) (σ : pu_S) : im_gR (pu_mk σ) 5 r 0 = some (r + 1) := pu_gR hr.1 rfl σ
theorem pr_g1 (hr : pr_sk r) (σ : pu_S) : im_gR (pu_mk σ) 5 r 1 = some (r + 2) := pu_gR hr.1 rfl σ
theorem pr_g2 (hr : pr_sk r) (σ : pu_S) : im_gI (pu_mk σ) 5 r 2 = some (σ.1 r 2) := pu_gI hr.1 rfl σ
theorem pr_p2 (hr : pr_sk r) (σ : pu_S) (v : Int32) : im_pV (pu_mk σ) 5 r 2 (.int v) = some (pu_mk (pu_sI σ r 2 v)) := pu_pI hr.1 rfl σ v
theorem pr_a (hr : pr_sk r) (hp : pr_is σ r l) {i : Nat} (hi : i < l.length) : im_lL (pu_mk σ) 1 (r + 1) (nI i) = some (pb_l (l.getD i pr_0).2) := by
  have := hp.2.2.1
  rw [pu_lLn hr.2.1 σ (show i < 30 by omega) (by decide), (hp.2.1 i hi).1]
theorem pr_b (hr : pr_sk r) (hp : pr_is σ r l) {i : Nat} (hi : i < l.length) : im_lI (pu_mk σ) 0 (r + 2) (nI i) = some (nI (l.getD i pr_0).1) := by
  have := hp.2.2.1
  rw [pu_lIn hr.2.2 (by decide) σ (show i < 30 by omega) (by decide), (hp.2.1 i hi).2]
theorem pr_isThere_3 (hr : pr_sk r) (hp : pr_is σ r l) (hs : pb_ok s) {q : Nat} (hq : q < 100) : ∀ (f k : Nat), l.length + 1 ≤ f + k → k ≤ l.length → sh_Reader_isThere_3 F f r (pb_l s) (nI q) (nI k) (pu_mk σ) = some (pb_b (pr_has (l.drop k) s q), pu_mk σ) := by
  have hl := hp.2.2.1
  intro f
  induction f with
  | zero => intro k h1 h2; omega
  | succ f ih =>
    intro k h1 h2
    unfold sh_Reader_isThere_3
    have h6 : nI l.length ≤ nI k ↔ l.length ≤ k := nI_leI (by omega) (by omega)
    simp only [pr_g2 hr, hp.1, Option.bind_some, h6]
    by_cases h3 : l.length ≤ k
    · simp [h3, List.drop_eq_nil_of_le h3, pr_has, pb_rz0, pb_b]
    · have hk : k < l.length := by omega
      have hg := pr_okg hp.2.2.2 k
      have h7 : nI (l.getD k pr_0).1 = nI q ↔ (l.getD k pr_0).1 = q := nI_eq (by omega) (by omega)
      simp only [h3, if_false, pr_g0 hr, pr_g1 hr, Option.bind_some, pr_a hr hp hk, pr_b hr hp hk, h7, lg_cmp_eq, pb_l_inj hg.2 hs, sh_Reader_isThere_37, nI_1, pb_rz1]
      rw [pb_dropG pr_0 hk, ih (k + 1) (by omega) (by omega)]
      by_cases a : (l.getD k pr_0).1 = q <;> by_cases b : (l.getD k pr_0).2 = s <;> simp only [pr_has, List.any_cons, a, b, if_true, if_false, decide_true, decide_false, Bool.and_true, Bool.and_false, Bool.true_and, Bool.false_and, Bool.true_or, Bool.false_or] <;> rfl
theorem pr_isThere (hF : 31 ≤ F) (hr : pr_sk r) (hp : pr_is σ r l) (hs : pb_ok s) {q : Nat} (hq : q < 100) : sh_Reader_isThere F r (pb_l s) (nI q) (pu_mk σ) = some (pb_b (pr_has l s q), pu_mk σ) := by
  have hl := hp.2.2.1
  have h := pr_isThere_3 (F := F) hr hp hs hq F 0 (by omega) (by omega)
  unfold sh_Reader_isThere
  simpa [nI_0] using h
theorem pr_roleInExtension (hF : 31 ≤ F) (hr : pr_sk r) (hp : pr_is σ r l) (hs : pb_ok s) {b : Nat} (hb : b < 100) : sh_Reader_roleInExtension F r (pb_l s) (nI b) (pu_mk σ) = some (nI (pr_ext l s b), pu_mk σ) := by
  have h6 : sh_Reader_isThere F r (pb_l s) (6 : Int32) (pu_mk σ) = some (pb_b (pr_has l s 6), pu_mk σ) := pr_isThere hF hr hp hs (q := 6) (by decide)
  have h5 : nI b = (5 : Int32) ↔ b = 5 := nI_eq (b := 5) (by omega) (by decide)
  simp only [sh_Reader_roleInExtension, sh_Reader_roleInExtension_23, sh_Reader_roleInExtension_41, sh_Reader_roleInExtension_42, pb_isKey (show 9 ≤ F by omega) hs, pb_isType (show 9 ≤ F by omega) hs, pu_is hr.1, Option.bind_some, h6, im_b2, pb_b0, h5, pr_ext]
  by_cases a : pb_key s = true <;> by_cases b1 : pr_has l s 6 = true <;> by_cases c : b = 5 <;> by_cases d : pb_type s = true <;> simp [a, b1, c, d] <;> rfl
theorem pr_roleInFront (hF : 31 ≤ F) (hr : pr_sk r) (hp : pr_is σ r l) (hs : pb_ok s) {b : Nat} (hb : b < 100) : sh_Reader_roleInFront F r (pb_l s) (nI b) (pu_mk σ) = some (nI (pr_front l s b), pu_mk σ) := by
  have h4 : sh_Reader_isThere F r (pb_l s) (4 : Int32) (pu_mk σ) = some (pb_b (pr_has l s 4), pu_mk σ) := pr_isThere hF hr hp hs (q := 4) (by decide)
  have h2 : (2 : Int32) ≤ nI b ↔ 2 ≤ b := nI_leI (a := 2) (by decide) (by omega)
  have h3 : (3 : Int32) ≤ nI b ↔ 3 ≤ b := nI_leI (a := 3) (by decide) (by omega)
  simp only [sh_Reader_roleInFront, sh_Reader_roleInFront_24, sh_Reader_roleInFront_38, sh_Reader_roleInFront_58, sh_Reader_roleInFront_59, pr_u, lg_cmp_eq, pb_l_inj hs pr_uok, h2, h3, pb_isScript (show 9 ≤ F by omega) hs, pb_isRegion (show 9 ≤ F by omega) hs, pb_isVariant (show 9 ≤ F by omega) hs, pu_is hr.1, Option.bind_some, h4, im_b2, pb_b0, pr_front]
  have e2 : b < 2 ↔ ¬ 2 ≤ b := by omega
  have e3 : b < 3 ↔ ¬ 3 ≤ b := by omega
  simp only [e2, e3]
  by_cases a : s = [117] <;> by_cases b1 : 2 ≤ b <;> by_cases c : pb_script s = true <;> by_cases d : 3 ≤ b <;> by_cases e : pb_region s = true <;> by_cases f : pb_variant s = true <;> by_cases g : pr_has l s 4 = true <;> simp [a, b1, c, d, e, f, g] <;> rfl
theorem pr_roleOf (hF : 31 ≤ F) (hr : pr_sk r) (hp : pr_is σ r l) (hs : pb_ok s) {b : Nat} (hb : b < 100) : sh_Reader_roleOf F r (pb_l s) (nI b) (pu_mk σ) = some (nI (pr_role l s b), pu_mk σ) := by
  have h0 : nI b = 0 ↔ b = 0 := nI_eq (b := 0) (by omega) (by decide)
  have h5 : nI b = (5 : Int32) ↔ b = 5 := nI_eq (b := 5) (by omega) (by decide)
  have h5l : nI b < (5 : Int32) ↔ b < 5 := nI_ltI (b := 5) (by omega) (by decide)
  have h8 : nI b < (8 : Int32) ↔ b < 8 := nI_ltI (b := 8) (by omega) (by decide)
  simp only [sh_Reader_roleOf, sh_Reader_roleOf_24, sh_Reader_roleOf_53, sh_Reader_roleOf_74, lg_cmp_eq, pb_l_0 hs, h0, h5, h5l, h8, pb_isLanguage (show 9 ≤ F by omega) hs, pr_x, pb_l_inj hs pr_xok, pu_is hr.1, Option.bind_some, pr_roleInFront hF hr hp hs hb, pr_roleInExtension hF hr hp hs hb, im_b2, pb_b0, pr_role]
  have e8 : b < 8 ↔ ¬ 8 ≤ b := by omega
  have e5 : b < 5 ↔ ¬ 5 ≤ b := by omega
  simp only [e8, e5]
  by_cases a : s = []
  · simp only [a, if_true]; rfl
  · by_cases c : b = 0
    · by_cases d : pb_lang s = true <;> simp [a, c, d] <;> rfl
    · by_cases d : 8 ≤ b
      · simp [a, c, d]; rfl
      · by_cases e : s = [120]
        · by_cases f : b = 5 <;> simp [c, d, e, f] <;> rfl
        · by_cases f : 5 ≤ b <;> simp [a, c, d, e, f]
end RDR
