/-! bringing the subtags that were cut into the form -/
theorem pb_lle {s t : List Nat} (hs : pb_ok s) (ht : pb_ok t) : pb_l s ≤ pb_l t ↔ ¬ pb_e 8 t < pb_e 8 s := by
  rw [← pn_lt64 (pb_lt63 (fun c hc => (ht.2 c hc).2)) (pb_lt63 (fun c hc => (hs.2 c hc).2))]
  exact Int64.not_lt.symm
def pr_part (l : List pr_E) (q : Nat) : List Nat := match l.find? (fun e => decide (e.1 = q)) with
  | some e => e.2
  | none => []
/-- the place of the least subtag of a role above a bound -/
def pr_lw (l : List pr_E) (b q : Nat) : List pr_E → Nat → Option Nat → Option Nat
  | [], _, best => best
  | e :: es, i, best => if e.1 = q ∧ b < pb_e 8 e.2 ∧ (∀ j, best = some j → pb_e 8 e.2 < pb_e 8 (l.getD j pr_0).2) then pr_lw l b q es (i + 1) (some i) else pr_lw l b q es (i + 1) best
def pr_la (l : List pr_E) (b q : Nat) : Option Nat := pr_lw l b q l 0 none
def pr_n (o : Option Nat) : Int32 := match o with
  | some j => nI j
  | none => -1
def pr_true : List Nat := [116, 114, 117, 101]
theorem pr_true_l : (8390898132396802048 : Int64) = pb_l pr_true := by decide
theorem pr_true_ok : pb_ok pr_true := ⟨by decide, by decide⟩
/-- the types behind a key -/
def pr_tw (l : List pr_E) : List (List Nat) := (l.takeWhile (fun e => decide (e.1 = 7))).map (·.2)
def pr_tys (l : List pr_E) (j : Nat) : List (List Nat) := if pr_tw (l.drop (j + 1)) = [pr_true] then [] else pr_tw (l.drop (j + 1))
def pr_out (l : List pr_E) (q : Nat) : Nat → Nat → List (List Nat)
  | 0, _ => []
  | n + 1, b => match pr_la l b q with
    | none => []
    | some j => (l.getD j pr_0).2 :: pr_tys l j ++ pr_out l q n (pb_e 8 (l.getD j pr_0).2)
def pr_priv (l : List pr_E) : List (List Nat) := (l.filter (fun e => decide (8 ≤ e.1))).map (·.2)
theorem pr_lw_lt {l : List pr_E} {b q : Nat} : ∀ (es : List pr_E) (i : Nat) (best : Option Nat), i + es.length = l.length → (∀ j, best = some j → j < l.length) → ∀ j, pr_lw l b q es i best = some j → j < l.length := by
  intro es
  induction es with
  | nil => intro i best _ hb j hj; exact hb j hj
  | cons e es ih =>
    intro i best hl hb j hj
    have hl : i + (es.length + 1) = l.length := hl
    unfold pr_lw at hj
    split at hj
    · exact ih (i + 1) (some i) (by omega) (fun k hk => by cases hk; omega) j hj
    · exact ih (i + 1) best (by omega) hb j hj
theorem pr_la_lt {l : List pr_E} {b q j : Nat} (h : pr_la l b q = some j) : j < l.length := pr_lw_lt l 0 none (by simp) (fun j hj => by cases hj) j h
section FIL
variable {F r f n : Nat} {σ : pu_S} {l : List pr_E} {ps : List (List Nat)}
theorem pr_partWith_2 (hr : pr_sk r) (hp : pr_is σ r l) {q : Nat} (hq : q < 100) : ∀ (t k : Nat), l.length + 1 ≤ t + k → k ≤ l.length → sh_Reader_partWith_2 F t r (nI q) (nI k) (pu_mk σ) = some (pb_l (pr_part (l.drop k) q), pu_mk σ) := by
  have hl := hp.2.2.1
  intro t
  induction t with
  | zero => intro k h1 h2; omega
  | succ t ih =>
    intro k h1 h2
    unfold sh_Reader_partWith_2
    have h6 : nI l.length ≤ nI k ↔ l.length ≤ k := nI_leI (by omega) (by omega)
    simp only [pr_g2 hr, hp.1, Option.bind_some, h6]
    by_cases h3 : l.length ≤ k
    · simp [h3, List.drop_eq_nil_of_le h3, pr_part, pb_l0]
    · have hk : k < l.length := by omega
      have hg := pr_okg hp.2.2.2 k
      have h7 : nI (l.getD k pr_0).1 = nI q ↔ (l.getD k pr_0).1 = q := nI_eq (by omega) (by omega)
      simp only [h3, if_false, pr_g0 hr, pr_g1 hr, Option.bind_some, pr_a hr hp hk, pr_b hr hp hk, h7, nI_1]
      rw [pb_dropG pr_0 hk, ih (k + 1) (by omega) (by omega)]
      by_cases a : (l.getD k pr_0).1 = q
      · simp only [a, if_true, pr_part, List.find?_cons, decide_true]
      · simp only [a, if_false, pr_part, List.find?_cons, decide_false]
theorem pr_partWith (hF : 31 ≤ F) (hr : pr_sk r) (hp : pr_is σ r l) {q : Nat} (hq : q < 100) : sh_Reader_partWith F r (nI q) (pu_mk σ) = some (pb_l (pr_part l q), pu_mk σ) := by
  have hl := hp.2.2.1
  have h := pr_partWith_2 (F := F) hr hp hq F 0 (by omega) (by omega)
  unfold sh_Reader_partWith
  simpa [nI_0] using h
theorem pr_part_ok (h : ∀ e ∈ l, e.1 < 10 ∧ pb_ok e.2) (q : Nat) : pb_ok (pr_part l q) := by
  unfold pr_part
  split
  · rename_i e he
    exact (h e (List.mem_of_find?_eq_some he)).2
  · exact pb_ok0
theorem pr_leastAbove_6 (hr : pr_sk r) (hp : pr_is σ r l) {s : List Nat} (hs : pb_ok s) {q : Nat} (hq : q < 100) : ∀ (t k : Nat) (best : Option Nat), l.length + 1 ≤ t + k → k ≤ l.length → (∀ j, best = some j → j < l.length) → sh_Reader_leastAbove_6 F t r (pb_l s) (nI q) (pr_n best) (nI k) (pu_mk σ) = some (pr_n (pr_lw l (pb_e 8 s) q (l.drop k) k best), pu_mk σ) := by
  have hl := hp.2.2.1
  intro t
  induction t with
  | zero => intro k best h1 h2; omega
  | succ t ih =>
    intro k best h1 h2 hb
    unfold sh_Reader_leastAbove_6
    have h6 : nI l.length ≤ nI k ↔ l.length ≤ k := nI_leI (by omega) (by omega)
    simp only [pr_g2 hr, hp.1, Option.bind_some, h6]
    by_cases h3 : l.length ≤ k
    · simp [h3, List.drop_eq_nil_of_le h3, pr_lw]
    · have hk : k < l.length := by omega
      have hg := pr_okg hp.2.2.2 k
      have h7 : nI (l.getD k pr_0).1 = nI q ↔ (l.getD k pr_0).1 = q := nI_eq (by omega) (by omega)
      have i1 := ih (k + 1) best (by omega) (by omega) hb
      have i2 := ih (k + 1) (some k) (by omega) (by omega) (fun j hj => by cases hj; omega)
      have i2 : sh_Reader_leastAbove_6 F t r (pb_l s) (nI q) (nI k) (nI (k + 1)) (pu_mk σ) = some (pr_n (pr_lw l (pb_e 8 s) q (l.drop (k + 1)) (k + 1) (some k)), pu_mk σ) := i2
      simp only [h3, if_false, pr_g0 hr, pr_g1 hr, Option.bind_some, pr_a hr hp hk, pr_b hr hp hk, h7, lg_cmp_le, lg_cmp_ge, pb_lle hg.2 hs, sh_Reader_leastAbove_61, sh_Reader_leastAbove_65, nI_1]
      rw [pb_dropG pr_0 hk]
      by_cases a : (l.getD k pr_0).1 = q
      · by_cases b : pb_e 8 s < pb_e 8 (l.getD k pr_0).2
        · cases hbest : best with
          | none =>
            have hn : pr_n (none : Option Nat) < 0 := by decide
            have ew : pr_lw l (pb_e 8 s) q (l.getD k pr_0 :: l.drop (k + 1)) k none = pr_lw l (pb_e 8 s) q (l.drop (k + 1)) (k + 1) (some k) := by rw [pr_lw, if_pos ⟨a, b, fun j hj => by cases hj⟩]
            rw [ew]
            simp only [a, b, if_true, not_true, if_false, hn, i2]
          | some j =>
            have hj := hb j hbest
            have hgj := pr_okg hp.2.2.2 j
            have hn : ¬ pr_n (some j) < 0 := nI_pos (by omega)
            have ej : im_lL (pu_mk σ) 1 (r + 1) (pr_n (some j)) = some (pb_l (l.getD j pr_0).2) := pr_a hr hp hj
            rw [hbest] at i1
            by_cases c : pb_e 8 (l.getD k pr_0).2 < pb_e 8 (l.getD j pr_0).2
            · have ew : pr_lw l (pb_e 8 s) q (l.getD k pr_0 :: l.drop (k + 1)) k (some j) = pr_lw l (pb_e 8 s) q (l.drop (k + 1)) (k + 1) (some k) := by rw [pr_lw, if_pos ⟨a, b, fun x hx => by cases hx; exact c⟩]
              rw [ew]
              simp only [a, b, if_true, not_true, if_false, hn, ej, Option.bind_some, pb_lle hgj.2 hg.2, c, i2]
            · have ew : pr_lw l (pb_e 8 s) q (l.getD k pr_0 :: l.drop (k + 1)) k (some j) = pr_lw l (pb_e 8 s) q (l.drop (k + 1)) (k + 1) (some j) := by rw [pr_lw, if_neg (fun z => c (z.2.2 j rfl))]
              rw [ew]
              simp only [a, b, if_true, not_true, if_false, hn, ej, Option.bind_some, pb_lle hgj.2 hg.2, c, not_false_eq_true, i1]
        · have ew : pr_lw l (pb_e 8 s) q (l.getD k pr_0 :: l.drop (k + 1)) k best = pr_lw l (pb_e 8 s) q (l.drop (k + 1)) (k + 1) best := by rw [pr_lw, if_neg (fun z => b z.2.1)]
          rw [ew]
          simp only [a, b, if_true, not_false_eq_true, i1]
      · have ew : pr_lw l (pb_e 8 s) q (l.getD k pr_0 :: l.drop (k + 1)) k best = pr_lw l (pb_e 8 s) q (l.drop (k + 1)) (k + 1) best := by rw [pr_lw, if_neg (fun z => a z.1)]
        rw [ew]
        simp only [a, if_false, i1]
theorem pr_leastAbove (hF : 31 ≤ F) (hr : pr_sk r) (hp : pr_is σ r l) {s : List Nat} (hs : pb_ok s) {q : Nat} (hq : q < 100) : sh_Reader_leastAbove F r (pb_l s) (nI q) (pu_mk σ) = some (pr_n (pr_la l (pb_e 8 s) q), pu_mk σ) := by
  have hl := hp.2.2.1
  have h := pr_leastAbove_6 (F := F) hr hp hs hq F 0 none (by omega) (by omega) (fun j hj => by cases hj)
  rw [nI_0] at h
  unfold sh_Reader_leastAbove
  exact h
theorem pr_addTypes_69 (hr : pr_sk r) (hf : pf_sk f n) (hd : r + 2 < f) {e : Nat} (he : e ≤ l.length) : ∀ (t i : Nat) (σ : pu_S) (ps : List (List Nat)), e + 1 ≤ t + i → i ≤ e → pr_is σ r l → pf_is σ f n ps → ps.length + (e - i) ≤ n → ∃ τ, sh_Reader_addTypes_69 F t r f (nI e) (nI i) (pu_mk σ) = some (pu_mk τ) ∧ pf_is τ f n (ps ++ (((l.drop i).take (e - i)).map (·.2))) ∧ pu_fr (fun x => x = f ∨ x = f + 2) σ τ := by
  intro t
  induction t with
  | zero => intro i σ ps h1 h2; omega
  | succ t ih =>
    intro i σ ps h1 h2 hp hq hn
    have hl := hp.2.2.1
    unfold sh_Reader_addTypes_69
    have h6 : nI e ≤ nI i ↔ e ≤ i := nI_leI (by omega) (by omega)
    simp only [h6]
    by_cases h3 : e ≤ i
    · refine ⟨σ, by simp only [h3, if_true], ?_, pu_fr.rf⟩
      rw [show e - i = 0 by omega]
      simpa using hq
    · have hi : i < l.length := by omega
      have hg := pr_okg hp.2.2.2 i
      obtain ⟨τ, e1, p1, f1⟩ := pf_append (F := F) hf hq hg.2 (by omega)
      obtain ⟨υ, e2, p2, f2⟩ := ih (i + 1) τ _ (by omega) (by omega) (hp.fr f1 (by omega) (by omega) (by omega)) p1 (by simp; omega)
      refine ⟨υ, ?_, ?_, f1.tr f2⟩
      · simp only [h3, if_false, pr_g0 hr, Option.bind_some, pr_a hr hp hi, pu_is hf.1, e1, nI_1, e2]
      · rw [pb_dropG pr_0 hi, show e - i = (e - (i + 1)) + 1 by omega, List.take_succ_cons, List.map_cons]
        rw [List.append_assoc] at p2
        exact p2
theorem pr_addTypes_9 (hr : pr_sk r) (hp : pr_is σ r l) {k : Nat} : ∀ (t i : Nat), l.length + 1 ≤ t + i → i ≤ l.length → sh_Reader_addTypes_9 F t r f (nI k) (nI i) (nI i) (pu_mk σ) = sh_Reader_addTypes_41 F r f (nI k) (nI (i + (pr_tw (l.drop i)).length)) (pu_mk σ) := by
  have hl := hp.2.2.1
  intro t
  induction t with
  | zero => intro i h1 h2; omega
  | succ t ih =>
    intro i h1 h2
    unfold sh_Reader_addTypes_9
    have h6 : nI l.length ≤ nI i ↔ l.length ≤ i := nI_leI (by omega) (by omega)
    simp only [pr_g2 hr, hp.1, Option.bind_some, h6]
    by_cases h3 : l.length ≤ i
    · simp [h3, List.drop_eq_nil_of_le h3, pr_tw]
    · have hi : i < l.length := by omega
      have hg := pr_okg hp.2.2.2 i
      have h7 : nI (l.getD i pr_0).1 = (7 : Int32) ↔ (l.getD i pr_0).1 = 7 := nI_eq (b := 7) (by omega) (by decide)
      simp only [h3, if_false, pr_g1 hr, Option.bind_some, pr_b hr hp hi, h7, nI_1]
      rw [pb_dropG pr_0 hi]
      by_cases a : (l.getD i pr_0).1 = 7
      · simp only [a, if_true]
        rw [ih (i + 1) (by omega) (by omega)]
        congr 2
        simp only [pr_tw, List.takeWhile_cons, a, decide_true, if_true, List.map_cons, List.length_cons]
        omega
      · simp only [a, if_false]
        simp only [pr_tw, List.takeWhile_cons, a, decide_false, Bool.false_eq_true, if_false, List.map_nil, List.length_nil]
        rfl
theorem pr_tw_take (l : List pr_E) : (l.take (pr_tw l).length).map (·.2) = pr_tw l := by
  unfold pr_tw
  induction l with
  | nil => rfl
  | cons e l ih =>
    by_cases a : e.1 = 7
    · simp only [List.takeWhile_cons, a, decide_true, if_true, List.map_cons, List.length_cons, List.take_succ_cons, ih]
    · simp only [List.takeWhile_cons, a, decide_false, Bool.false_eq_true, if_false, List.map_nil, List.length_nil, List.take_zero]
theorem pr_tw_len (l : List pr_E) : (pr_tw l).length ≤ l.length := by
  unfold pr_tw
  rw [List.length_map]
  exact (List.takeWhile_prefix _).length_le
theorem pr_addTypes (hF : 40 ≤ F) (hr : pr_sk r) (hf : pf_sk f n) (hd : r + 2 < f) (hp : pr_is σ r l) (hq : pf_is σ f n ps) {j : Nat} (hj : j < l.length) (hn : ps.length + (pr_tys l j).length ≤ n) : ∃ τ, sh_Reader_addTypes F r f (nI j) (pu_mk σ) = some (pu_mk τ) ∧ pf_is τ f n (ps ++ pr_tys l j) ∧ pu_fr (fun x => x = f ∨ x = f + 2) σ τ := by
  have hl := hp.2.2.1
  have hlen := pr_tw_len (l.drop (j + 1))
  have hlen : (pr_tw (l.drop (j + 1))).length ≤ l.length - (j + 1) := by simpa using hlen
  have e0 : sh_Reader_addTypes F r f (nI j) (pu_mk σ) = sh_Reader_addTypes_41 F r f (nI j) (nI (j + 1 + (pr_tw (l.drop (j + 1))).length)) (pu_mk σ) := by
    unfold sh_Reader_addTypes
    rw [nI_1]
    exact pr_addTypes_9 hr hp F (j + 1) (by omega) (by omega)
  have h2 : nI (j + 1 + (pr_tw (l.drop (j + 1))).length) = nI j + (2 : Int32) ↔ (pr_tw (l.drop (j + 1))).length = 1 := by
    rw [show nI j + (2 : Int32) = nI (j + 2) from nI_add j 2, nI_eq (by omega) (by omega)]
    omega
  have e64 : ¬ pr_tw (l.drop (j + 1)) = [pr_true] → ∃ τ, sh_Reader_addTypes_64 F r f (nI j) (nI (j + 1 + (pr_tw (l.drop (j + 1))).length)) (pu_mk σ) = some (pu_mk τ) ∧ pf_is τ f n (ps ++ pr_tw (l.drop (j + 1))) ∧ pu_fr (fun x => x = f ∨ x = f + 2) σ τ := by
    intro hne
    have hn : ps.length + (pr_tw (l.drop (j + 1))).length ≤ n := by
      unfold pr_tys at hn
      rwa [if_neg hne] at hn
    obtain ⟨τ, e1, p1, f1⟩ := pr_addTypes_69 (F := F) hr hf hd (l := l) (e := j + 1 + (pr_tw (l.drop (j + 1))).length) (by omega) F (j + 1) σ ps (by omega) (by omega) hp hq (by omega)
    refine ⟨τ, ?_, ?_, f1⟩
    · unfold sh_Reader_addTypes_64
      rw [nI_1]
      exact e1
    · rw [show j + 1 + (pr_tw (l.drop (j + 1))).length - (j + 1) = (pr_tw (l.drop (j + 1))).length by omega, pr_tw_take] at p1
      exact p1
  rw [e0]
  unfold sh_Reader_addTypes_41
  simp only [h2]
  by_cases h1 : (pr_tw (l.drop (j + 1))).length = 1
  · have hj1 : j + 1 < l.length := by omega
    have hg := pr_okg hp.2.2.2 (j + 1)
    have ev : pr_tw (l.drop (j + 1)) = [(l.getD (j + 1) pr_0).2] := by
      have h9 := pr_tw_take (l.drop (j + 1))
      rw [h1, pb_dropG pr_0 hj1] at h9
      rw [pb_dropG pr_0 hj1]
      exact h9.symm
    simp only [h1, if_true, pr_g0 hr, Option.bind_some, nI_1, pr_a hr hp hj1, pr_true_l, lg_cmp_eq, pb_l_inj hg.2 pr_true_ok]
    by_cases ht : (l.getD (j + 1) pr_0).2 = pr_true
    · have et : pr_tys l j = [] := by
        unfold pr_tys
        rw [if_pos (by rw [ev, ht])]
      refine ⟨σ, by simp only [ht, if_true], by rw [et, List.append_nil]; exact hq, pu_fr.rf⟩
    · have hne : ¬ pr_tw (l.drop (j + 1)) = [pr_true] := by
        rw [ev]
        simpa using ht
      obtain ⟨τ, e1, p1, f1⟩ := e64 hne
      rw [h1] at e1
      refine ⟨τ, by simp only [ht, if_false, e1], ?_, f1⟩
      unfold pr_tys
      rw [if_neg hne]
      exact p1
  · have hne : ¬ pr_tw (l.drop (j + 1)) = [pr_true] := fun z => h1 (by rw [z]; rfl)
    obtain ⟨τ, e1, p1, f1⟩ := e64 hne
    refine ⟨τ, by simp only [h1, if_false, e1], ?_, f1⟩
    unfold pr_tys
    rw [if_neg hne]
    exact p1
theorem pr_addInOrder_5 (hF : 40 ≤ F) (hr : pr_sk r) (hf : pf_sk f n) (hd : r + 2 < f) {q : Nat} (hq : q < 100) : ∀ (t k : Nat) (s : List Nat) (σ : pu_S) (ps : List (List Nat)), l.length + 1 ≤ t + k → k ≤ l.length → pb_ok s → pr_is σ r l → pf_is σ f n ps → ps.length + (pr_out l q (l.length - k) (pb_e 8 s)).length ≤ n → ∃ τ, sh_Reader_addInOrder_5 F t r f (nI q) (pb_l s) (nI k) (pu_mk σ) = some (pu_mk τ) ∧ pf_is τ f n (ps ++ pr_out l q (l.length - k) (pb_e 8 s)) ∧ pu_fr (fun x => x = f ∨ x = f + 2) σ τ := by
  intro t
  induction t with
  | zero => intro k s σ ps h1 h2; omega
  | succ t ih =>
    intro k s σ ps h1 h2 hs hp hps hn
    have hl := hp.2.2.1
    unfold sh_Reader_addInOrder_5
    have h6 : nI l.length ≤ nI k ↔ l.length ≤ k := nI_leI (by omega) (by omega)
    simp only [pr_g2 hr, hp.1, Option.bind_some, h6]
    by_cases h3 : l.length ≤ k
    · refine ⟨σ, by simp only [h3, if_true], ?_, pu_fr.rf⟩
      rw [show l.length - k = 0 by omega]
      simpa [pr_out] using hps
    · have ek : l.length - k = (l.length - (k + 1)) + 1 := by omega
      rw [ek] at hn ⊢
      simp only [h3, if_false, pu_is hr.1, Option.bind_some, pr_leastAbove (show 31 ≤ F by omega) hr hp hs hq, im_b2]
      unfold pr_out at hn ⊢
      cases hj : pr_la l (pb_e 8 s) q with
      | none =>
        have h0 : ¬ (0 : Int32) ≤ pr_n none := by decide
        refine ⟨σ, by simp only [h0, if_false], by simpa using hps, pu_fr.rf⟩
      | some j =>
        have hlt := pr_la_lt hj
        have hg := pr_okg hp.2.2.2 j
        have h0 : (0 : Int32) ≤ pr_n (some j) := nI_pos' (by omega)
        have ej : im_lL (pu_mk σ) 1 (r + 1) (pr_n (some j)) = some (pb_l (l.getD j pr_0).2) := pr_a hr hp hlt
        rw [hj] at hn
        have hn : ps.length + (1 + (pr_tys l j).length + (pr_out l q (l.length - (k + 1)) (pb_e 8 (l.getD j pr_0).2)).length) ≤ n := by
          have hn : ps.length + ((l.getD j pr_0).2 :: pr_tys l j ++ pr_out l q (l.length - (k + 1)) (pb_e 8 (l.getD j pr_0).2)).length ≤ n := hn
          simp only [List.cons_append, List.length_cons, List.length_append] at hn
          omega
        obtain ⟨σ1, e1, p1, f1⟩ := pf_append (F := F) hf hps hg.2 (by omega)
        have hp1 := hp.fr f1 (by omega) (by omega) (by omega)
        obtain ⟨σ2, e2, p2, f2⟩ := pr_addTypes (F := F) hF hr hf hd hp1 p1 hlt (by simp only [List.length_append, List.length_cons, List.length_nil]; omega)
        obtain ⟨σ3, e3, p3, f3⟩ := ih (k + 1) _ σ2 _ (by omega) (by omega) hg.2 (hp1.fr f2 (by omega) (by omega) (by omega)) p2 (by simp only [List.length_append, List.length_cons, List.length_nil]; omega)
        have e2 : sh_Reader_addTypes F r f (pr_n (some j)) (pu_mk σ1) = some (pu_mk σ2) := e2
        refine ⟨σ3, ?_, ?_, (f1.tr f2).tr f3⟩
        · simp only [h0, if_true, pr_g0 hr, Option.bind_some, ej, pu_is hf.1, pu_is hr.1, e1, e2, nI_1, e3]
        · have e9 : ps ++ [(l.getD j pr_0).2] ++ pr_tys l j ++ pr_out l q (l.length - (k + 1)) (pb_e 8 (l.getD j pr_0).2) = ps ++ ((l.getD j pr_0).2 :: pr_tys l j ++ pr_out l q (l.length - (k + 1)) (pb_e 8 (l.getD j pr_0).2)) := by
            simp only [List.append_assoc, List.cons_append, List.nil_append]
          rw [e9] at p3
          exact p3
theorem pr_addInOrder (hF : 40 ≤ F) (hr : pr_sk r) (hf : pf_sk f n) (hd : r + 2 < f) {q : Nat} (hq : q < 100) (hp : pr_is σ r l) (hps : pf_is σ f n ps) (hn : ps.length + (pr_out l q l.length 0).length ≤ n) : ∃ τ, sh_Reader_addInOrder F r f (nI q) (pu_mk σ) = some (pu_mk τ) ∧ pf_is τ f n (ps ++ pr_out l q l.length 0) ∧ pu_fr (fun x => x = f ∨ x = f + 2) σ τ := by
  have hl := hp.2.2.1
  obtain ⟨τ, e, p, fr⟩ := pr_addInOrder_5 (F := F) hF hr hf hd hq F 0 [] σ ps (by omega) (by omega) pb_ok0 hp hps hn
  rw [nI_0, pb_l0] at e
  exact ⟨τ, e, p, fr⟩
theorem pr_addPrivate_2 (hr : pr_sk r) (hf : pf_sk f n) (hd : r + 2 < f) : ∀ (t k : Nat) (σ : pu_S) (ps : List (List Nat)), l.length + 1 ≤ t + k → k ≤ l.length → pr_is σ r l → pf_is σ f n ps → ps.length + (pr_priv (l.drop k)).length ≤ n → ∃ τ, sh_Reader_addPrivate_2 F t r f (nI k) (pu_mk σ) = some (pu_mk τ) ∧ pf_is τ f n (ps ++ pr_priv (l.drop k)) ∧ pu_fr (fun x => x = f ∨ x = f + 2) σ τ := by
  intro t
  induction t with
  | zero => intro k σ ps h1 h2; omega
  | succ t ih =>
    intro k σ ps h1 h2 hp hps hn
    have hl := hp.2.2.1
    unfold sh_Reader_addPrivate_2
    have h6 : nI l.length ≤ nI k ↔ l.length ≤ k := nI_leI (by omega) (by omega)
    simp only [pr_g2 hr, hp.1, Option.bind_some, h6]
    by_cases h3 : l.length ≤ k
    · refine ⟨σ, by simp only [h3, if_true], ?_, pu_fr.rf⟩
      rw [List.drop_eq_nil_of_le h3]
      simpa [pr_priv] using hps
    · have hk : k < l.length := by omega
      have hg := pr_okg hp.2.2.2 k
      have h8 : nI (l.getD k pr_0).1 < (8 : Int32) ↔ (l.getD k pr_0).1 < 8 := nI_ltI (b := 8) (by omega) (by decide)
      rw [pb_dropG pr_0 hk] at hn ⊢
      simp only [h3, if_false, pr_g0 hr, pr_g1 hr, Option.bind_some, pr_a hr hp hk, pr_b hr hp hk, h8, sh_Reader_addPrivate_31, nI_1]
      by_cases a : (l.getD k pr_0).1 < 8
      · have na : ¬ 8 ≤ (l.getD k pr_0).1 := by omega
        have ep : pr_priv (l.getD k pr_0 :: l.drop (k + 1)) = pr_priv (l.drop (k + 1)) := by simp only [pr_priv, List.filter_cons, na, decide_false, Bool.false_eq_true, if_false]
        rw [ep] at hn ⊢
        obtain ⟨τ, e1, p1, f1⟩ := ih (k + 1) σ ps (by omega) (by omega) hp hps hn
        exact ⟨τ, by simp only [a, if_true, e1], p1, f1⟩
      · have na : 8 ≤ (l.getD k pr_0).1 := by omega
        have ep : pr_priv (l.getD k pr_0 :: l.drop (k + 1)) = (l.getD k pr_0).2 :: pr_priv (l.drop (k + 1)) := by simp only [pr_priv, List.filter_cons, na, decide_true, if_true, List.map_cons]
        rw [ep] at hn ⊢
        have hn : ps.length + (1 + (pr_priv (l.drop (k + 1))).length) ≤ n := by
          simp only [List.length_cons] at hn
          omega
        obtain ⟨σ1, e1, p1, f1⟩ := pf_append (F := F) hf hps hg.2 (by omega)
        obtain ⟨σ2, e2, p2, f2⟩ := ih (k + 1) σ1 _ (by omega) (by omega) (hp.fr f1 (by omega) (by omega) (by omega)) p1 (by simp only [List.length_append, List.length_cons, List.length_nil]; omega)
        refine ⟨σ2, by simp only [a, if_false, pu_is hf.1, Option.bind_some, e1, e2], ?_, f1.tr f2⟩
        rw [List.append_assoc] at p2
        exact p2
theorem pr_addPrivate (hF : 40 ≤ F) (hr : pr_sk r) (hf : pf_sk f n) (hd : r + 2 < f) (hp : pr_is σ r l) (hps : pf_is σ f n ps) (hn : ps.length + (pr_priv l).length ≤ n) : ∃ τ, sh_Reader_addPrivate F r f (pu_mk σ) = some (pu_mk τ) ∧ pf_is τ f n (ps ++ pr_priv l) ∧ pu_fr (fun x => x = f ∨ x = f + 2) σ τ := by
  have hl := hp.2.2.1
  obtain ⟨τ, e, p, fr⟩ := pr_addPrivate_2 (F := F) hr hf hd F 0 σ ps (by omega) (by omega) hp hps (by simpa using hn)
  rw [nI_0] at e
  exact ⟨τ, e, by simpa using p, fr⟩
end FIL
