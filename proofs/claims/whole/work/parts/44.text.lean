theorem pu_lIn {h t n : Nat} (hs : pu_sk h = some (.inl (t, n))) (ht : ¬ t = 1 ∧ t < 4) (σ : pu_S) {k : Nat} (hk : k < n) (hn : n < 2 ^ 31) : im_lI (pu_mk σ) t h (nI k) = some (σ.2.2.1 h k) := by
  rw [pu_lI hs ht, if_neg (nI_in hk hn), nI_clamp (by omega)]
theorem pu_lLn {h n : Nat} (hs : pu_sk h = some (.inl (1, n))) (σ : pu_S) {k : Nat} (hk : k < n) (hn : n < 2 ^ 31) : im_lL (pu_mk σ) 1 h (nI k) = some (σ.2.2.2 h k) := by
  rw [pu_lL hs, if_neg (nI_in hk hn), nI_clamp (by omega)]
theorem pu_lRn {h t n : Nat} (hs : pu_sk h = some (.inl (t, n))) (ht : 4 ≤ t) (σ : pu_S) {k : Nat} (hk : k < n) (hn : n < 2 ^ 31) : im_lR (pu_mk σ) t h (nI k) = pu_ref h k := by
  rw [pu_lR hs ht, if_neg (nI_in hk hn), nI_clamp (by omega)]
theorem pu_stIn {h t n : Nat} (hs : pu_sk h = some (.inl (t, n))) (ht : ¬ t = 1 ∧ t < 4) (σ : pu_S) (x : Int32) {k : Nat} (hk : k < n) (hn : n < 2 ^ 31) : im_sI (pu_mk σ) t h (nI k) x = some (pu_mk (pu_sA σ h k x)) := by
  rw [pu_stI hs ht, if_neg (nI_in hk hn), nI_clamp (by omega)]
theorem pu_stLn {h n : Nat} (hs : pu_sk h = some (.inl (1, n))) (σ : pu_S) (x : Int64) {k : Nat} (hk : k < n) (hn : n < 2 ^ 31) : im_sL (pu_mk σ) 1 h (nI k) x = some (pu_mk (pu_sB σ h k x)) := by
  rw [pu_stL hs, if_neg (nI_in hk hn), nI_clamp (by omega)]
/-! what stays: all numbers outside some cells -/
def pu_fr (S : Nat → Prop) (σ τ : pu_S) : Prop := ∀ h, ¬ S h → ∀ k, τ.1 h k = σ.1 h k ∧ τ.2.1 h k = σ.2.1 h k ∧ τ.2.2.1 h k = σ.2.2.1 h k ∧ τ.2.2.2 h k = σ.2.2.2 h k
theorem pu_fr.rf {S : Nat → Prop} {σ : pu_S} : pu_fr S σ σ := fun _ _ _ => ⟨rfl, rfl, rfl, rfl⟩
theorem pu_fr.tr {S : Nat → Prop} {σ τ υ : pu_S} (h1 : pu_fr S σ τ) (h2 : pu_fr S τ υ) : pu_fr S σ υ := fun h hS k => by
  obtain ⟨a, b, c, d⟩ := h1 h hS k
  obtain ⟨a', b', c', d'⟩ := h2 h hS k
  exact ⟨a'.trans a, b'.trans b, c'.trans c, d'.trans d⟩
theorem pu_fr.mono {S T : Nat → Prop} {σ τ : pu_S} (h1 : pu_fr S σ τ) (h : ∀ k, S k → T k) : pu_fr T σ τ := fun x hx k => h1 x (fun q => hx (h x q)) k
theorem pu_fr.sI {S : Nat → Prop} {σ : pu_S} {h k : Nat} {v : Int32} (hS : S h) : pu_fr S σ (pu_sI σ h k v) := fun x hx j => by
  have : ¬ x = h := fun q => hx (q ▸ hS)
  simp [pu_sI, this]
theorem pu_fr.sJ {S : Nat → Prop} {σ : pu_S} {h k : Nat} {v : Int64} (hS : S h) : pu_fr S σ (pu_sJ σ h k v) := fun x hx j => by
  have : ¬ x = h := fun q => hx (q ▸ hS)
  simp [pu_sJ, this]
theorem pu_fr.sA {S : Nat → Prop} {σ : pu_S} {h k : Nat} {v : Int32} (hS : S h) : pu_fr S σ (pu_sA σ h k v) := fun x hx j => by
  have : ¬ x = h := fun q => hx (q ▸ hS)
  simp [pu_sA, this]
theorem pu_fr.sB {S : Nat → Prop} {σ : pu_S} {h k : Nat} {v : Int64} (hS : S h) : pu_fr S σ (pu_sB σ h k v) := fun x hx j => by
  have : ¬ x = h := fun q => hx (q ▸ hS)
  simp [pu_sB, this]
/-! texts -/
def pt_sk (h cap : Nat) : Prop := pu_sk h = some (.inr (7, [h + 1 + 2, 0])) ∧ pu_sk (h + 1) = some (.inl (2, cap)) ∧ cap < 1000
theorem pt_typed : pt_sk 1 60 := ⟨by decide +kernel, by decide +kernel, by decide⟩
theorem pt_shown : pt_sk 3 62 := ⟨by decide +kernel, by decide +kernel, by decide⟩
def pt_is (σ : pu_S) (h cap : Nat) (l : List Nat) : Prop := σ.1 h 1 = nI l.length ∧ (∀ i, i < l.length → σ.2.2.1 (h + 1) i = nI (l.getD i 0)) ∧ l.length ≤ cap ∧ ∀ c ∈ l, c < 65536
theorem pt_is.fr {S : Nat → Prop} {σ τ : pu_S} {h cap : Nat} {l : List Nat} (hp : pt_is σ h cap l) (hf : pu_fr S σ τ) (h1 : ¬ S h) (h2 : ¬ S (h + 1)) : pt_is τ h cap l :=
  ⟨(hf h h1 1).1.trans hp.1, fun i hi => (hf (h + 1) h2 i).2.2.1.trans (hp.2.1 i hi), hp.2.2⟩
theorem pb_getlt {l : List Nat} (hl : ∀ c ∈ l, c < 65536) (i : Nat) : l.getD i 0 < 65536 := by
  rw [List.getD_eq_getElem?_getD]
  by_cases hi : i < l.length
  · have := hl l[i] (List.getElem_mem hi)
    simpa [hi] using this
  · simp [hi]
section TXT
variable {F h cap : Nat} {σ : pu_S} {l : List Nat}
theorem pt_g1 (hT : pt_sk h cap) (σ : pu_S) : im_gI (pu_mk σ) 7 h 1 = some (σ.1 h 1) := pu_gI hT.1 rfl σ
theorem pt_g0 (hT : pt_sk h cap) (σ : pu_S) : im_gR (pu_mk σ) 7 h 0 = some (h + 1) := pu_gR hT.1 rfl σ
theorem pt_p1 (hT : pt_sk h cap) (σ : pu_S) (v : Int32) : im_pV (pu_mk σ) 7 h 1 (.int v) = some (pu_mk (pu_sI σ h 1 v)) := pu_pI hT.1 rfl σ v
theorem pt_at (hT : pt_sk h cap) (hp : pt_is σ h cap l) {k : Nat} (hk : k < 100000) : sh_Text_at F h (nI k) (pu_mk σ) = some (nI (if k < l.length then l.getD k 0 else 32), pu_mk σ) := by
  have hl := hp.2.2.1
  have hc := hT.2.2
  have h1 : ¬ nI k < 0 := nI_pos (by omega)
  have h2 : nI k < nI l.length ↔ k < l.length := nI_ltI (by omega) (by omega)
  simp only [sh_Text_at, sh_Text_at_12, sh_Text_at_23, pt_g1 hT, pt_g0 hT, h1, if_false, Option.bind_some, hp.1, h2]
  by_cases h3 : k < l.length
  · simp only [h3, if_true, Option.bind_some, pu_lIn hT.2.1 (by decide) σ (show k < cap by omega) (by omega), hp.2.1 k h3]
    exact pb_rc (pb_getlt hp.2.2.2 k) _
  · simp only [h3, if_false]
    exact pb_rc (k := 32) (by decide) _
theorem pt_atneg (i : Int32) (hi : i < 0) (w : im_W) : sh_Text_at F h i w = some (nI 32, w) := by
  simp only [sh_Text_at, sh_Text_at_12, sh_Text_at_23, hi, if_true]
  exact pb_rc (k := 32) (by decide) _
theorem pt_length (hT : pt_sk h cap) (hp : pt_is σ h cap l) : sh_Text_length F h (pu_mk σ) = some (nI l.length, pu_mk σ) := by
  simp only [sh_Text_length, pt_g1 hT, Option.bind_some, hp.1]
theorem pt_full (hT : pt_sk h cap) (hp : pt_is σ h cap l) : sh_Text_isFull F h (pu_mk σ) = some (pb_b (decide (cap ≤ l.length)), pu_mk σ) := by
  have hl := hp.2.2.1
  have hc := hT.2.2
  have h2 : nI l.length < Int32.ofNat cap ↔ l.length < cap := nI_ltI (by omega) (by omega)
  simp only [sh_Text_isFull, sh_Text_isFull_17, pt_g1 hT, pt_g0 hT, pu_ln hT.2.1, Option.bind_some, hp.1, h2, pb_rz0, pb_rz1]
  by_cases h3 : l.length < cap
  · have h4 : ¬ cap ≤ l.length := by omega
    simp [h3, h4, pb_b]
  · have h4 : cap ≤ l.length := by omega
    simp [h3, h4, pb_b]
theorem pt_clear (hT : pt_sk h cap) : ∃ τ, sh_Text_clear F h (pu_mk σ) = some (pu_mk τ) ∧ pt_is τ h cap [] ∧ pu_fr (fun k => k = h ∨ k = h + 1) σ τ := by
  refine ⟨pu_sI σ h 1 0, ?_, ⟨?_, fun i hi => ?_, ?_, ?_⟩, pu_fr.sI (Or.inl rfl)⟩
  · simp only [sh_Text_clear, pt_p1 hT, Option.bind_some]
  · simp [pu_sI, nI_0]
  · simp at hi
  · simp
  · simp
theorem pt_nar {c : Nat} (hc : c < 65536) : vp_nar .char (nI c) = nI c := by simp [vp_nar, pn_char hc]
theorem pt_append (hT : pt_sk h cap) (hp : pt_is σ h cap l) {c : Nat} (hc : c < 65536) (hl : l.length < cap) : ∃ τ, sh_Text_append F h (nI c) (pu_mk σ) = some (pu_mk τ) ∧ pt_is τ h cap (l ++ [c]) ∧ pu_fr (fun k => k = h ∨ k = h + 1) σ τ := by
  have hcp := hT.2.2
  have h3 : decide (cap ≤ l.length) = false := by simp; omega
  refine ⟨pu_sI (pu_sA σ (h + 1) l.length (nI c)) h 1 (nI (l.length + 1)), ?_, ⟨?_, fun i hi => ?_, ?_, fun x hx => ?_⟩, (pu_fr.sA (Or.inr rfl)).tr (pu_fr.sI (Or.inl rfl))⟩
  · have e : (pu_sA σ (h + 1) l.length (nI c)).1 h 1 = nI l.length := hp.1
    simp only [sh_Text_append, sh_Text_append_27, pu_is hT.1, pt_full hT hp, h3, pb_b, im_b2, Option.bind_some, pt_g0 hT, pt_g1 hT, hp.1, pt_nar hc, pu_stIn hT.2.1 (by decide) σ _ hl (by omega), if_false, if_true, e, pt_p1 hT, nI_1, Bool.false_eq_true]
  · simp [pu_sI]
  · have hi : i < l.length + 1 := by simpa using hi
    by_cases hil : i = l.length
    · subst hil
      simp [pu_sI, pu_sA]
    · have h6 : i < l.length := by omega
      have h7 := hp.2.1 i h6
      have e : (l ++ [c]).getD i 0 = l.getD i 0 := by
        rw [List.getD_eq_getElem?_getD, List.getElem?_append_left h6, ← List.getD_eq_getElem?_getD]
      rw [e]
      simpa [pu_sI, pu_sA, hil] using h7
  · simp
    omega
  · rcases List.mem_append.mp hx with hx | hx
    · exact hp.2.2.2 x hx
    · simp at hx
      omega
theorem pt_placeOf_2 (hT : pt_sk h cap) (hp : pt_is σ h cap l) {c : Nat} (hc : c < 65536) : ∀ (f k : Nat), l.length + 1 ≤ f + k → k ≤ l.length → sh_Text_placeOf_2 F f h (nI c) (nI k) (pu_mk σ) = some (match (l.drop k).findIdx? (· == c) with
    | some j => nI (k + j)
    | none => -1, pu_mk σ) := by
  have hcp := hT.2.2
  have hl := hp.2.2.1
  intro f
  induction f with
  | zero => intro k h1 h2; omega
  | succ f ih =>
    intro k h1 h2
    unfold sh_Text_placeOf_2
    have h6 : nI l.length ≤ nI k ↔ l.length ≤ k := nI_leI (by omega) (by omega)
    simp only [pt_g1 hT, Option.bind_some, hp.1, h6, pt_g0 hT]
    by_cases h3 : l.length ≤ k
    · have e : l.drop k = [] := List.drop_eq_nil_of_le h3
      simp [h3, e]
    · have h3' : k < l.length := by omega
      have hg := pb_getlt hp.2.2.2 k
      simp only [h3, if_false, Option.bind_some, pu_lIn hT.2.1 (by decide) σ (show k < cap by omega) (by omega), hp.2.1 k h3', pb_eqn hg hc, nI_1]
      rw [pb_drop h3', List.findIdx?_cons]
      by_cases h7 : l.getD k 0 = c
      · have h8 : (l.getD k 0 == c) = true := by rw [h7]; exact beq_self_eq_true c
        simp only [h7, if_true, beq_self_eq_true]
        rfl
      · have h8 : (l.getD k 0 == c) = false := by simpa using h7
        simp only [h7, if_false, h8]
        rw [ih (k + 1) (by omega) (by omega)]
        cases (l.drop (k + 1)).findIdx? (· == c) with
        | none => simp
        | some j =>
          simp only [Bool.false_eq_true, if_false, Option.map_some]
          congr 3
          omega
theorem pt_placeOf (hT : pt_sk h cap) (hp : pt_is σ h cap l) (hF : l.length + 1 ≤ F) {c : Nat} (hc : c < 65536) : sh_Text_placeOf F h (nI c) (pu_mk σ) = some (match l.findIdx? (· == c) with
    | some j => nI j
    | none => -1, pu_mk σ) := by
  unfold sh_Text_placeOf
  have h := pt_placeOf_2 (F := F) hT hp hc F 0 (by omega) (by omega)
  simpa [nI_0] using h
/-- a part of a text, in small letters -/
def pt_low (c : Nat) : Nat := if 65 ≤ c ∧ c ≤ 90 then c + 32 else c
def pb_isA (c : Nat) : Bool := pb_isL c || pb_isD c
def pt_cut (s : List Nat) : List Nat := if 1 ≤ s.length ∧ s.length ≤ 8 ∧ s.all pb_isA = true then s.map pt_low else []
theorem pb_A_lt {c : Nat} (h : pb_isA c = true) : 48 ≤ c ∧ c ≤ 122 := by
  simp [pb_isA, pb_isL, pb_isD] at h
  omega
theorem pt_or : ∀ c, c < 128 → pb_isA c = true → c ||| 32 = pt_low c := by decide +kernel
theorem pb_e_snoc {k : Nat} : ∀ {s : List Nat} {c : Nat}, s.length < k → pb_e k (s ++ [c]) = pb_e k s + c * 256 ^ (k - 1 - s.length) := by
  induction k with
  | zero => intro s c h; omega
  | succ k ih =>
    intro s c h
    cases s with
    | nil => simp [pb_e, pb_nil]
    | cons d l =>
      have h : l.length < k := by simpa using h
      simp only [List.cons_append, pb_e, ih h, List.length_cons]
      have e : k + 1 - 1 - (l.length + 1) = k - 1 - l.length := by omega
      rw [e, Nat.add_assoc]
theorem pb_e_mul {k : Nat} : ∀ {s : List Nat}, s.length ≤ k → ∃ q, pb_e k s = 256 ^ (k - s.length) * q := by
  induction k with
  | zero => intro s h; exact ⟨0, by simp [pb_e]⟩
  | succ k ih =>
    intro s h
    cases s with
    | nil => exact ⟨0, by simp [pb_e]⟩
    | cons d l =>
      have h : l.length ≤ k := by simpa using h
      obtain ⟨q, hq⟩ := ih h
      refine ⟨256 ^ l.length * d + q, ?_⟩
      have e : k + 1 - (l.length + 1) = k - l.length := by omega
      simp only [pb_e, List.length_cons, e, hq]
      have e2 : 256 ^ k = 256 ^ (k - l.length) * 256 ^ l.length := by
        rw [← Nat.pow_add]
        congr 1
        omega
      rw [e2, Nat.mul_add, Nat.mul_comm d, Nat.mul_assoc]
theorem pb_e_or {s : List Nat} {c : Nat} (h : s.length < 8) (hc : c < 256) : pb_e 8 s ||| c * 2 ^ (56 - 8 * s.length) = pb_e 8 (s ++ [c]) := by
  obtain ⟨q, hq⟩ := pb_e_mul (k := 8) (s := s) (by omega)
  have e1 : 256 ^ (8 - s.length) = 2 ^ (64 - 8 * s.length) := by
    rw [show 256 = 2 ^ 8 from rfl, ← Nat.pow_mul]
    congr 1
    omega
  have e2 : 256 ^ (8 - 1 - s.length) = 2 ^ (56 - 8 * s.length) := by
    rw [show 256 = 2 ^ 8 from rfl, ← Nat.pow_mul]
    congr 1
    omega
  have e3 : 2 ^ (64 - 8 * s.length) = 256 * 2 ^ (56 - 8 * s.length) := by
    rw [show 256 = 2 ^ 8 from rfl, ← Nat.pow_add]
    congr 1
    omega
  have h1 : c * 2 ^ (56 - 8 * s.length) < 2 ^ (64 - 8 * s.length) := by
    rw [e3]
    exact Nat.mul_lt_mul_of_pos_right hc (Nat.pow_pos (by decide))
  rw [pb_e_snoc h, e2, hq, e1, Nat.two_pow_add_eq_or_of_lt h1]
theorem pb_l_or {s : List Nat} {c : Nat} (h : s.length < 8) (hc : c < 256) : pb_l s ||| im_lshl (Int64.ofNat c) (nI (56 - 8 * s.length)) = pb_l (s ++ [c]) := by
  rw [pn_shl (by omega), pb_l, pn_or, pb_e_or h hc]
  rfl
end TXT
