/-! cutting a part of a text into subtags, each with its role -/
/-- the subtags of some characters: 'cur' is what of the first one is behind us -/
def pr_segs : List Nat → List Nat → List (List Nat)
  | cur, [] => [cur]
  | cur, c :: l => if pb_isC c = true then cur :: pr_segs [] l else pr_segs (cur ++ [c]) l
/-- cutting: where it is wrong, or the subtags with their roles -/
def pr_run : List (List Nat) → Nat → Nat → List pr_E → Nat ⊕ List pr_E
  | [], off, q, rd => if q = 5 ∨ q = 8 then .inl (off - 1) else .inr rd
  | s :: ss, off, q, rd => if pr_role rd (pt_cut s) q = 0 ∨ 30 ≤ rd.length then .inl off else pr_run ss (off + s.length + 1) (pr_role rd (pt_cut s) q) (rd ++ [(pr_role rd (pt_cut s) q, pt_cut s)])
theorem pb_takeG {α : Type} {s : List α} {i : Nat} (d : α) (h : i < s.length) : s.take (i + 1) = s.take i ++ [s.getD i d] := by
  rw [List.take_add_one, List.getD_eq_getElem?_getD]
  simp [h]
theorem pb_seg {ty : List Nat} {a i : Nat} (h1 : a ≤ i) (h2 : i < ty.length) : (ty.drop a).take (i + 1 - a) = (ty.drop a).take (i - a) ++ [ty.getD i 0] := by
  have e : i + 1 - a = (i - a) + 1 := by omega
  rw [e, pb_takeG 0 (by simp; omega)]
  congr 2
  rw [List.getD_eq_getElem?_getD, List.getElem?_drop, ← List.getD_eq_getElem?_getD]
  congr 1
  omega
theorem pb_rest {ty : List Nat} {i b : Nat} (h1 : i < b) (h2 : b ≤ ty.length) : (ty.drop i).take (b - i) = ty.getD i 0 :: (ty.drop (i + 1)).take (b - (i + 1)) := by
  have e : b - i = (b - (i + 1)) + 1 := by omega
  rw [e, pb_dropG 0 (show i < ty.length by omega), List.take_succ_cons]
section CTG
variable {F r h cap : Nat} {σ : pu_S} {rd : List pr_E} {ty : List Nat}
theorem pr_add (hr : pr_sk r) (hp : pr_is σ r rd) (hl : rd.length < 30) {q : Nat} {c : List Nat} (hq : q < 10) (hc : pb_ok c) : pr_is (pu_sI (pu_sA (pu_sB σ (r + 1) rd.length (pb_l c)) (r + 2) rd.length (nI q)) r 2 (nI (rd.length + 1))) r (rd ++ [(q, c)]) := by
  refine ⟨by simp [pu_sI], fun i hi => ?_, by simp; omega, fun x hx => ?_⟩
  · have hi : i < rd.length + 1 := by simpa using hi
    by_cases hil : i = rd.length
    · subst hil
      simp [pu_sI, pu_sA, pu_sB]
    · have h6 : i < rd.length := by omega
      have h7 := hp.2.1 i h6
      have e : (rd ++ [(q, c)]).getD i pr_0 = rd.getD i pr_0 := by
        rw [List.getD_eq_getElem?_getD, List.getElem?_append_left h6, ← List.getD_eq_getElem?_getD]
      rw [e]
      simpa [pu_sI, pu_sA, pu_sB, hil] using h7
  · rcases List.mem_append.mp hx with hx | hx
    · exact hp.2.2.2 x hx
    · simp at hx
      rw [hx]
      exact ⟨hq, hc⟩
theorem pr_cutTag_41 (hF : 31 ≤ F) (hr : pr_sk r) (hT : pt_sk h cap) (ht : pt_is σ h cap ty) (hp : pr_is σ r rd) {a b start i q : Nat} (h1 : start ≤ i) (h2 : i ≤ ty.length) (h3 : a ≤ start) (hq : q < 10) (k : Nat → Nat → Int32 → Int32 → Int32 → Int32 → Int32 → im_W → Option (Int32 × im_W)) :
    (pr_role rd (pt_cut ((ty.drop start).take (i - start))) q = 0 ∨ 30 ≤ rd.length → sh_Reader_cutTag_41 F k r h (nI a) (nI b) (nI q) (nI start) (nI i) (pu_mk σ) = some (nI (start - a), pu_mk σ)) ∧
    (¬ (pr_role rd (pt_cut ((ty.drop start).take (i - start))) q = 0 ∨ 30 ≤ rd.length) → ∃ τ, sh_Reader_cutTag_41 F k r h (nI a) (nI b) (nI q) (nI start) (nI i) (pu_mk σ) = k r h (nI a) (nI b) (nI (pr_role rd (pt_cut ((ty.drop start).take (i - start))) q)) (nI (i + 1)) (nI (i + 1)) (pu_mk τ) ∧ pr_is τ r (rd ++ [(pr_role rd (pt_cut ((ty.drop start).take (i - start))) q, pt_cut ((ty.drop start).take (i - start)))]) ∧ pu_fr (fun x => x = r ∨ x = r + 1 ∨ x = r + 2) σ τ) := by
  have hok := pt_cut_ok ((ty.drop start).take (i - start))
  have hcut := pt_cutOut (F := F) hT ht (by omega) h1 h2
  generalize pt_cut ((ty.drop start).take (i - start)) = c at hok hcut ⊢
  have hrole := pr_roleOf hF hr hp hok (b := q) (by omega)
  have hlt := pr_role_lt rd c q
  have hl := hp.2.2.1
  generalize pr_role rd c q = v at hrole hlt ⊢
  have h0 : nI v = 0 ↔ v = 0 := nI_eq (b := 0) (by omega) (by decide)
  have h30 : nI rd.length < (30 : Int32) ↔ rd.length < 30 := nI_ltI (b := 30) (by omega) (by decide)
  have e75 : ∀ w, sh_Reader_cutTag_75 F (nI a) (nI start) w = some (nI (start - a), w) := fun w => by
    simp only [sh_Reader_cutTag_75, pn_sub h3]
  refine ⟨fun hc => ?_, fun hc => ?_⟩
  · simp only [sh_Reader_cutTag_41, hcut, im_b2, pu_is hr.1, Option.bind_some, hrole, h0, pr_g2 hr, hp.1, h30, e75]
    rcases hc with hc | hc
    · simp only [hc, if_true]
    · have : ¬ rd.length < 30 := by omega
      simp only [this, if_false]
      split <;> rfl
  · have hv : ¬ v = 0 := fun q => hc (Or.inl q)
    have hn : rd.length < 30 := by omega
    refine ⟨_, ?_, pr_add hr hp hn hlt hok, ((pu_fr.sB (S := fun x => x = r ∨ x = r + 1 ∨ x = r + 2) (by omega)).tr (pu_fr.sA (by omega))).tr (pu_fr.sI (by omega))⟩
    have e1 : (pu_sB σ (r + 1) rd.length (pb_l c)).1 r 2 = nI rd.length := hp.1
    have e2 : (pu_sA (pu_sB σ (r + 1) rd.length (pb_l c)) (r + 2) rd.length (nI v)).1 r 2 = nI rd.length := hp.1
    simp only [sh_Reader_cutTag_41, hcut, im_b2, pu_is hr.1, Option.bind_some, hrole, h0, hv, if_false, pr_g2 hr, hp.1, h30, hn, if_true, pr_g0 hr, pr_g1 hr, pu_stLn hr.2.1 _ _ hn (by decide), e1, pu_stIn hr.2.2 (by decide) _ _ hn (by decide), e2, pr_p2 hr, sh_Reader_cutTag_118, nI_1]
def pr_at (ty : List Nat) (a b start i q : Nat) (rd : List pr_E) : Nat ⊕ List pr_E := if i = b + 1 then pr_run [] (start - a) q rd else pr_run (pr_segs ((ty.drop start).take (i - start)) ((ty.drop i).take (b - i))) (start - a) q rd
theorem pr_cutTag_14 (hF : 31 ≤ F) (hr : pr_sk r) (hT : pt_sk h cap) (hd : h + 1 < r) {a b : Nat} (hab : a ≤ b) (hb : b ≤ ty.length) : ∀ (t start i q : Nat) (σ : pu_S) (rd : List pr_E), b + 3 ≤ t + i → start ≤ i → i ≤ b + 1 → (i = b + 1 → start = b + 1) → a ≤ start → q < 10 → pt_is σ h cap ty → pr_is σ r rd →
    ∃ τ v, sh_Reader_cutTag_14 F t r h (nI a) (nI b) (nI q) (nI start) (nI i) (pu_mk σ) = some (v, pu_mk τ) ∧ pu_fr (fun x => x = r ∨ x = r + 1 ∨ x = r + 2) σ τ ∧ (match pr_at ty a b start i q rd with
      | .inl e => v = nI e
      | .inr rd' => v = -1 ∧ pr_is τ r rd') := by
  have hcp := hT.2.2
  intro t
  induction t with
  | zero => intro start i q σ rd h1 h2 h3; omega
  | succ t ih =>
    intro start i q σ rd h1 h2 h3 h4 h5 hq ht hp
    have hl := ht.2.2.1
    have hbi : nI b < nI i ↔ b < i := nI_ltI (by omega) (by omega)
    have hbi2 : nI b ≤ nI i ↔ b ≤ i := nI_leI (by omega) (by omega)
    have q5 : nI q = (5 : Int32) ↔ q = 5 := nI_eq (b := 5) (by omega) (by decide)
    have q8 : nI q = (8 : Int32) ↔ q = 8 := nI_eq (b := 8) (by omega) (by decide)
    unfold sh_Reader_cutTag_14
    simp only [hbi, hbi2, q5, q8]
    by_cases hx : b < i
    · have hi : i = b + 1 := by omega
      have hs := h4 hi
      have e144 : ∀ y w, sh_Reader_cutTag_144 F y w = some (y, w) := fun y w => rfl
      have e137 : ∀ w, sh_Reader_cutTag_137 F (nI a) (nI b) w = some (nI b - nI a, w) := fun w => rfl
      simp only [hx, if_true, e144, e137]
      have hv : pr_at ty a b start i q rd = if q = 5 ∨ q = 8 then .inl (start - a - 1) else .inr rd := by
        unfold pr_at
        rw [if_pos hi]
        rfl
      rw [hv]
      by_cases c5 : q = 5 ∨ q = 8
      · refine ⟨σ, nI b - nI a, ?_, pu_fr.rf, ?_⟩
        · rcases c5 with c5 | c5 <;> simp [c5]
        · rw [if_pos c5, pn_sub hab]
          show nI (b - a) = nI (start - a - 1)
          congr 1
          omega
      · have n5 : ¬ q = 5 := fun z => c5 (Or.inl z)
        have n8 : ¬ q = 8 := fun z => c5 (Or.inr z)
        refine ⟨σ, -1, ?_, pu_fr.rf, ?_⟩
        · simp only [n5, n8, if_false]
        · rw [if_neg c5]
          exact ⟨rfl, hp⟩
    · have hx' : i ≤ b := by omega
      have hne : ¬ i = b + 1 := by omega
      have cut : ∀ (ss : List (List Nat)), pr_at ty a b start i q rd = pr_run ((ty.drop start).take (i - start) :: ss) (start - a) q rd → (∀ rd' q', q' < 10 → pr_at ty a b (i + 1) (i + 1) q' rd' = pr_run ss (i + 1 - a) q' rd') →
          ∃ τ v, sh_Reader_cutTag_41 F (sh_Reader_cutTag_14 F t) r h (nI a) (nI b) (nI q) (nI start) (nI i) (pu_mk σ) = some (v, pu_mk τ) ∧ pu_fr (fun x => x = r ∨ x = r + 1 ∨ x = r + 2) σ τ ∧ (match pr_at ty a b start i q rd with
            | .inl e => v = nI e
            | .inr rd' => v = -1 ∧ pr_is τ r rd') := by
        intro ss hss hnx
        obtain ⟨c1, c2⟩ := pr_cutTag_41 (F := F) hF hr hT ht hp (a := a) (b := b) (start := start) (i := i) (q := q) h2 (by omega) h5 hq (sh_Reader_cutTag_14 F t)
        have hlt := pr_role_lt rd (pt_cut ((ty.drop start).take (i - start))) q
        rw [hss]
        unfold pr_run
        by_cases hc : pr_role rd (pt_cut ((ty.drop start).take (i - start))) q = 0 ∨ 30 ≤ rd.length
        · rw [if_pos hc]
          exact ⟨σ, _, c1 hc, pu_fr.rf, rfl⟩
        · rw [if_neg hc]
          obtain ⟨τ, e1, p1, f1⟩ := c2 hc
          obtain ⟨υ, v, e2, f2, m2⟩ := ih (i + 1) (i + 1) _ τ _ (by omega) (by omega) (by omega) (fun z => by omega) (by omega) hlt (ht.fr f1 (by omega) (by omega)) p1
          refine ⟨υ, v, e1.trans e2, f1.tr f2, ?_⟩
          rw [hnx _ _ hlt] at m2
          have e3 : i + 1 - a = start - a + ((ty.drop start).take (i - start)).length + 1 := by
            simp
            omega
          rw [e3] at m2
          exact m2
      by_cases hbe : b ≤ i
      · have hi : i = b := by omega
        simp only [hx, hbe, if_false, if_true]
        refine cut [] ?_ ?_
        · unfold pr_at
          rw [if_neg hne, show b - i = 0 by omega]
          rfl
        · intro rd' q' _
          unfold pr_at
          rw [if_pos (by omega)]
      · have hlt : i < b := by omega
        have hg := pb_getlt ht.2.2.2 i
        simp only [hx, hbe, if_false, pu_is hT.1, Option.bind_some, pt_at hT ht (show i < 100000 by omega), show i < ty.length by omega, if_true, im_b2, pb_isCut hg, pb_b0]
        by_cases hC : pb_isC (ty.getD i 0) = true
        · simp only [hC, Bool.true_eq_false, if_false]
          refine cut (pr_segs [] ((ty.drop (i + 1)).take (b - (i + 1)))) ?_ ?_
          · unfold pr_at
            rw [if_neg hne, pb_rest hlt hb]
            simp only [pr_segs, hC, if_true]
          · intro rd' q' _
            unfold pr_at
            rw [if_neg (by omega)]
            simp
        · have hC : pb_isC (ty.getD i 0) = false := by simpa using hC
          simp only [hC, if_true, sh_Reader_cutTag_118, nI_1]
          obtain ⟨υ, v, e2, f2, m2⟩ := ih start (i + 1) q σ rd (by omega) (by omega) (by omega) (fun z => by omega) h5 hq ht hp
          refine ⟨υ, v, e2, f2, ?_⟩
          have e3 : pr_at ty a b start i q rd = pr_at ty a b start (i + 1) q rd := by
            unfold pr_at
            rw [if_neg hne, if_neg (by omega), pb_rest hlt hb, pb_seg h2 (by omega)]
            simp only [pr_segs, hC, Bool.false_eq_true, if_false]
          rw [e3]
          exact m2
/-- the subtags, with their roles, of a part of a text; or where it is wrong -/
def pr_cut (ty : List Nat) (a b : Nat) : Nat ⊕ List pr_E := pr_run (pr_segs [] ((ty.drop a).take (b - a))) 0 0 []
theorem pr_cutTag (hF : 31 ≤ F) (hr : pr_sk r) (hT : pt_sk h cap) (hd : h + 1 < r) {a b : Nat} (hab : a ≤ b) (hb : b ≤ ty.length) (hF2 : b + 3 ≤ F) (ht : pt_is σ h cap ty) : ∃ τ v, sh_Reader_cutTag F r h (nI a) (nI b) (pu_mk σ) = some (v, pu_mk τ) ∧ pu_fr (fun x => x = r ∨ x = r + 1 ∨ x = r + 2) σ τ ∧ (match pr_cut ty a b with
      | .inl e => v = nI e
      | .inr rd' => v = -1 ∧ pr_is τ r rd') := by
  have f0 : pu_fr (fun x => x = r ∨ x = r + 1 ∨ x = r + 2) σ (pu_sI σ r 2 0) := pu_fr.sI (by omega)
  have p0 : pr_is (pu_sI σ r 2 0) r [] := ⟨by simp [pu_sI, nI_0], fun i hi => by simp at hi, by simp, by simp⟩
  obtain ⟨τ, v, e, f, m⟩ := pr_cutTag_14 (F := F) hF hr hT hd hab hb F a a 0 (pu_sI σ r 2 0) [] (by omega) (by omega) (by omega) (fun z => by omega) (by omega) (by omega) (ht.fr f0 (by omega) (by omega)) p0
  refine ⟨τ, v, ?_, f0.tr f, ?_⟩
  · simp only [sh_Reader_cutTag, pr_p2 hr, Option.bind_some]
    rw [nI_0] at e
    exact e
  · have e2 : pr_at ty a b a a 0 [] = pr_cut ty a b := by
      unfold pr_at pr_cut
      rw [if_neg (by omega)]
      simp
    rw [e2] at m
    exact m
end CTG
