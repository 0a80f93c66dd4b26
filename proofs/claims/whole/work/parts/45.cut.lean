/-! cutting a subtag out of a text; putting one behind it -/
theorem pn_or32 (a b : Nat) : nI a ||| nI b = nI (a ||| b) := by
  unfold nI
  apply Int32.toBitVec_inj.mp
  simp
theorem pb_take {s : List Nat} {i : Nat} (h : i < s.length) : s.take (i + 1) = s.take i ++ [s.getD i 0] := by
  rw [List.take_add_one, List.getD_eq_getElem?_getD]
  simp [h]
theorem pb_all_take {s : List Nat} {i : Nat} {p : Nat → Bool} (h : i < s.length) : (s.take (i + 1)).all p = ((s.take i).all p && p (s.getD i 0)) := by
  rw [pb_take h]
  simp
theorem pt_low_lt {c : Nat} (h : pb_isA c = true) : 1 ≤ pt_low c ∧ pt_low c < 128 := by
  have := pb_A_lt h
  unfold pt_low
  split <;> omega
theorem pt_cut_ok (s : List Nat) : pb_ok (pt_cut s) := by
  unfold pt_cut
  split
  · rename_i h
    refine ⟨by simpa using h.2.1, fun c hc => ?_⟩
    obtain ⟨d, hd, rfl⟩ := List.mem_map.mp hc
    exact pt_low_lt (List.all_eq_true.mp h.2.2 d hd)
  · exact ⟨by simp, by simp⟩
theorem pb_l0 : pb_l [] = 0 := by decide
section CUT
variable {F h cap : Nat} {σ : pu_S} {l : List Nat}
theorem pt_cutOut_23 (hT : pt_sk h cap) (hp : pt_is σ h cap l) {a n : Nat} {s : List Nat} (hab : a + n ≤ l.length) (hn : n ≤ 8) (hs : s.length = n) (hg : ∀ i, i < n → l.getD (a + i) 0 = s.getD i 0) : ∀ (f i : Nat), n + 1 ≤ f + i → i ≤ n → (s.take i).all pb_isA = true →
    sh_Subtag_cutOut_23 F f h (nI a) (nI n) (pb_l ((s.take i).map pt_low)) (nI i) (pu_mk σ) = some (pb_l (if s.all pb_isA = true then s.map pt_low else []), pu_mk σ) := by
  have hcp := hT.2.2
  have hl := hp.2.2.1
  intro f
  induction f with
  | zero => intro i h1 h2; omega
  | succ f ih =>
    intro i h1 h2 h3
    unfold sh_Subtag_cutOut_23
    have h6 : nI n ≤ nI i ↔ n ≤ i := nI_leI (by omega) (by omega)
    simp only [h6, pu_is hT.1, Option.bind_some, nI_add]
    by_cases h4 : n ≤ i
    · have e : s.take i = s := List.take_of_length_le (by omega)
      rw [e] at h3 ⊢
      simp only [h4, if_true, h3]
    · have hi : i < n := by omega
      have e1 : sh_Text_at F h (nI (a + i)) (pu_mk σ) = some (nI (s.getD i 0), pu_mk σ) := by
        rw [pt_at hT hp (by omega), if_pos (by omega), hg i hi]
      have hlt : s.getD i 0 < 65536 := by rw [← hg i hi]; exact pb_getlt hp.2.2.2 _
      have key : pb_isA (s.getD i 0) = true → sh_Subtag_cutOut_57 F (sh_Subtag_cutOut_23 F f) h (nI a) (nI n) (pb_l ((s.take i).map pt_low)) (nI i) (nI (s.getD i 0)) (pu_mk σ) = some (pb_l (if s.all pb_isA = true then s.map pt_low else []), pu_mk σ) := by
        intro hA
        have hb := pb_A_lt hA
        have hli : ((s.take i).map pt_low).length = i := by simp; omega
        have e2 : (56 : Int32) - (8 : Int32) * nI i = nI (56 - 8 * i) := by
          rw [show (8 : Int32) = nI 8 from rfl, pn_mul, show (56 : Int32) = nI 56 from rfl, pn_sub (by omega)]
        have e3 : (nI (s.getD i 0) ||| (32 : Int32)).toInt64 = Int64.ofNat (pt_low (s.getD i 0)) := by
          rw [show (32 : Int32) = nI 32 from rfl, pn_or32, pt_or _ (by omega) hA]
          exact nI_l (by have := pt_low_lt hA; omega)
        have e4 := pb_l_or (s := (s.take i).map pt_low) (c := pt_low (s.getD i 0)) (by omega) (by have := pt_low_lt hA; omega)
        rw [hli] at e4
        have e5 : (s.take i).map pt_low ++ [pt_low (s.getD i 0)] = (s.take (i + 1)).map pt_low := by
          rw [pb_take (by omega)]
          simp
        unfold sh_Subtag_cutOut_57
        rw [e2, e3, e4, e5, nI_1]
        exact ih (i + 1) (by omega) (by omega) (by rw [pb_all_take (by omega), h3, hA]; rfl)
      simp only [h4, if_false, e1, im_b2, pb_isLetter hlt, pb_isDigit hlt, pb_b0]
      by_cases hL : pb_isL (s.getD i 0) = true
      · simp only [hL, Bool.true_eq_false, if_false]
        exact key (by simp only [pb_isA, hL, Bool.true_or])
      · have hL : pb_isL (s.getD i 0) = false := by simpa using hL
        simp only [hL, if_true]
        by_cases hD : pb_isD (s.getD i 0) = true
        · simp only [hD, Bool.true_eq_false, if_false]
          exact key (by simp only [pb_isA, hD, Bool.or_true])
        · have hD : pb_isD (s.getD i 0) = false := by simpa using hD
          have e6 : s.all pb_isA = false := by
            rw [List.all_eq_false]
            refine ⟨s.getD i 0, ?_, by simp only [pb_isA, hL, hD]; decide⟩
            rw [List.getD_eq_getElem?_getD]
            simp [show i < s.length by omega]
          simp only [hD, if_true, e6, Bool.false_eq_true, if_false, pb_l0]
theorem pt_cutOut (hT : pt_sk h cap) (hp : pt_is σ h cap l) (hF : 9 ≤ F) {a b : Nat} (hab : a ≤ b) (hb : b ≤ l.length) : sh_Subtag_cutOut F h (nI a) (nI b) (pu_mk σ) = some (pb_l (pt_cut ((l.drop a).take (b - a))), pu_mk σ) := by
  have hcp := hT.2.2
  have hl := hp.2.2.1
  have hlen : ((l.drop a).take (b - a)).length = b - a := by simp; omega
  have h1 : nI (b - a) < (1 : Int32) ↔ b - a < 1 := nI_ltI (by omega) (by decide)
  have h2 : nI (b - a) ≤ (8 : Int32) ↔ b - a ≤ 8 := nI_leI (by omega) (by decide)
  simp only [sh_Subtag_cutOut, sh_Subtag_cutOut_15, pn_sub hab, h1, h2]
  by_cases h3 : b - a < 1
  · have e : pt_cut ((l.drop a).take (b - a)) = [] := by
      unfold pt_cut
      rw [if_neg (by rw [hlen]; omega)]
    simp only [h3, if_true, e, pb_l0]
  · by_cases h4 : b - a ≤ 8
    · have hg : ∀ i, i < b - a → l.getD (a + i) 0 = ((l.drop a).take (b - a)).getD i 0 := fun i hi => by
        rw [List.getD_eq_getElem?_getD, List.getD_eq_getElem?_getD, List.getElem?_take_of_lt hi, List.getElem?_drop]
      have key := pt_cutOut_23 (F := F) hT hp (by omega) h4 hlen hg F 0 (by omega) (by omega) (by simp)
      simp only [h3, h4, if_true, if_false]
      have e0 : pb_l ((List.take 0 ((l.drop a).take (b - a))).map pt_low) = 0 := by simp [pb_l0]
      rw [e0, nI_0] at key
      rw [key]
      unfold pt_cut
      by_cases h5 : ((l.drop a).take (b - a)).all pb_isA = true
      · rw [if_pos h5, if_pos ⟨by omega, by omega, h5⟩]
      · rw [if_neg h5, if_neg (fun q => h5 q.2.2)]
    · have e : pt_cut ((l.drop a).take (b - a)) = [] := by
        unfold pt_cut
        rw [if_neg (by rw [hlen]; omega)]
      simp only [h3, h4, if_false, e, pb_l0]
theorem pt_appendSubtag_21 (hT : pt_sk h cap) {s : List Nat} (hs : pb_ok s) : ∀ (f i : Nat) (σ : pu_S) (l : List Nat), s.length + 1 ≤ f + i → i ≤ s.length → pt_is σ h cap l → l.length + (s.length - i) ≤ cap → ∃ τ, sh_Text_appendSubtag_21 F f h (pb_l s) (nI s.length) (nI i) (pu_mk σ) = some (pu_mk τ) ∧ pt_is τ h cap (l ++ s.drop i) ∧ pu_fr (fun k => k = h ∨ k = h + 1) σ τ := by
  have hs8 := hs.1
  intro f
  induction f with
  | zero => intro i σ l h1 h2; omega
  | succ f ih =>
    intro i σ l h1 h2 hp h3
    unfold sh_Text_appendSubtag_21
    have h6 : nI s.length ≤ nI i ↔ s.length ≤ i := nI_leI (by omega) (by omega)
    simp only [h6]
    by_cases h4 : s.length ≤ i
    · refine ⟨σ, by simp only [h4, if_true], ?_, pu_fr.rf⟩
      rw [List.drop_eq_nil_of_le h4, List.append_nil]
      exact hp
    · have hg := pb_get hs i
      obtain ⟨τ, e1, hp1, hf1⟩ := pt_append (F := F) hT hp (c := s.getD i 0) (by omega) (by omega)
      obtain ⟨υ, e2, hp2, hf2⟩ := ih (i + 1) τ (l ++ [s.getD i 0]) (by omega) (by omega) hp1 (by simp; omega)
      refine ⟨υ, ?_, ?_, hf1.tr hf2⟩
      · simp only [h4, if_false, pb_at hs (show i < 8 by omega), im_b2, pu_is hT.1, Option.bind_some, e1, nI_1]
        exact e2
      · rw [pb_drop (show i < s.length by omega)]
        rw [List.append_assoc] at hp2
        exact hp2
/-- the text with one more subtag -/
def pt_put (l s : List Nat) : List Nat := (if l = [] then [] else l ++ [45]) ++ s
theorem pt_appendSubtag (hT : pt_sk h cap) (hp : pt_is σ h cap l) (hF : 9 ≤ F) {s : List Nat} (hs : pb_ok s) (hc : (pt_put l s).length ≤ cap) : ∃ τ, sh_Text_appendSubtag F h (pb_l s) (pu_mk σ) = some (pu_mk τ) ∧ pt_is τ h cap (pt_put l s) ∧ pu_fr (fun k => k = h ∨ k = h + 1) σ τ := by
  have hcp := hT.2.2
  have hl := hp.2.2.1
  have hs8 := hs.1
  have h0 : nI l.length ≤ 0 ↔ l.length ≤ 0 := nI_leI (a := l.length) (b := 0) (by omega) (by decide)
  simp only [sh_Text_appendSubtag, sh_Text_appendSubtag_13, pt_g1 hT, Option.bind_some, hp.1, h0, pb_lengthOf hF hs, im_b2]
  by_cases h1 : l = []
  · subst h1
    obtain ⟨τ, e1, hp1, hf1⟩ := pt_appendSubtag_21 (F := F) hT hs F 0 σ [] (by omega) (by omega) hp (by simpa [pt_put] using hc)
    rw [nI_0] at e1
    refine ⟨τ, ?_, by simpa [pt_put] using hp1, hf1⟩
    simpa using e1
  · have h2 : ¬ l.length ≤ 0 := by
      have := List.length_pos_iff.mpr h1
      omega
    have hc : l.length + 1 + s.length ≤ cap := by
      have h9 := hc
      simp [pt_put, h1] at h9
      omega
    obtain ⟨τ, e1, hp1, hf1⟩ := pt_append (F := F) hT hp (c := 45) (by decide) (by omega)
    obtain ⟨υ, e2, hp2, hf2⟩ := pt_appendSubtag_21 (F := F) hT hs F 0 τ (l ++ [45]) (by omega) (by omega) hp1 (by simp; omega)
    rw [nI_0] at e2
    refine ⟨υ, ?_, by simpa [pt_put, h1] using hp2, hf1.tr hf2⟩
    rw [show nI 45 = (45 : Int32) from rfl] at e1
    simp only [h2, if_false, pu_is hT.1, Option.bind_some, e1]
    exact e2
end CUT
