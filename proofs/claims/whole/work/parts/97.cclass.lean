/-! likely, tags, the class, the model -/
def pw_lik (x p : Nat) : List im_E := [.inr (3, [.ref x, .ref (p + 1), .ref (p + 2), .ref (p + 3)]), pw_core, pw_core, pw_core]
def pw_tag (p : Nat) : List im_E := .inr (6, [.ref (p + 1), .ref (p + 4), .ref (p + 5), .int 0]) :: (pw_form 30 (p + 1) ++ [pw_ai 0 8, pw_ai 3 8])
section PWL
variable {F : Nat} (A : List im_E)
theorem pw_ap (x : im_E) (B C : List im_E) : A ++ x :: B ++ C = A ++ x :: (B ++ C) := by simp
theorem pw_apl (x : im_E) (B : List im_E) : (A ++ x :: B).length = A.length + 1 + B.length := by simp; omega
theorem pw_likI (x : Nat) : sh_Likely_init F A.length x (pw (A ++ [.inr (3, df0_Likely)])) = some (pw (A ++ pw_lik x A.length)) := by
  unfold sh_Likely_init df0_Likely
  rw [pw_pV _ (by simp), Option.bind_some, pw_al, im_b2_s, pw_cr, Option.bind_some, pw_sz (by simp [pw]), Option.bind_some, pw_S1, pw_L1, pw_pV _ (by simp), Option.bind_some, pw_al, im_b2_s, pw_cr, Option.bind_some, pw_sz (by simp [pw]), Option.bind_some, pw_S2, pw_L2, pw_pV _ (by simp), Option.bind_some, pw_al, im_b2_s, pw_cr, Option.bind_some, pw_sz (by simp [pw]), Option.bind_some, pw_S3, pw_L3, pw_pV _ (by simp), Option.bind_some]
  rfl
theorem pw_tagI : sh_Tag_init F A.length (pw (A ++ [.inr (6, df0_Tag)])) = some (pw (A ++ pw_tag A.length)) := by
  unfold sh_Tag_init df0_Tag
  rw [pw_al, im_b2_s, pw_f30, Option.bind_some, pw_sz (by simp [pw, pw_form]), Option.bind_some, pw_L1, pw_ap, pw_pV _ (by simp), Option.bind_some, pw_al, im_b2_s, pw_ap, pw_apl, pw_pV _ (by simp), Option.bind_some, pw_al, im_b2_s, pw_ap, pw_apl, pw_pV _ (by simp), Option.bind_some, pw_pV _ (by simp), Option.bind_some]
  simp [pw_tag, pw_form]
  rfl
/-- a new object, kept in a field -/
theorem pw_ltS {ini : Nat → im_W → Option im_W} {ci s : Nat} {df : List Value} {cells : Nat → List im_E} (hini : ∀ A : List im_E, ini A.length (pw (A ++ [.inr (ci, df)])) = some (pw (A ++ cells A.length))) (hc : ∀ p, (cells p).length = s + 1) {k : Nat} {fs : List Value} (hk : k < fs.length) {B : List im_E} {n : Nat} (hB : B.length + 1 = n) {K : im_W → Option im_W} : (im_b2 (im_al (pw (.inr (8, fs) :: B)) (.inr (ci, df))) fun n1 w2 => (ini n1 w2).bind fun w4 => (im_sz w4 (w2.1 + s)).bind fun _ => (im_pV w4 8 0 k (.ref n1)).bind K) = K (pw (.inr (8, fs.set k (.ref n)) :: (B ++ cells n))) := by
  have hl : (Sum.inr (8, fs) :: B : List im_E).length = n := by simpa using hB
  have h := hini (.inr (8, fs) :: B)
  rw [hl] at h
  rw [pw_al, im_b2_s, hl, h, Option.bind_some, pw_sz (by rw [List.length_append, hl, hc]; show _ = (Sum.inr (8, fs) :: B ++ [_] : List im_E).length + s; rw [List.length_append, hl, List.length_singleton]; omega), Option.bind_some]
  have := pw_pV (A := []) (B := B ++ cells n) (ci := 8) (fs := fs) (.ref n) hk
  rw [List.nil_append] at this
  rw [show Sum.inr (8, fs) :: B ++ cells n = Sum.inr (8, fs) :: (B ++ cells n) from rfl]
  rw [show im_pV (pw (Sum.inr (8, fs) :: (B ++ cells n))) 8 0 k (.ref n) = _ from this, Option.bind_some]
  rfl
theorem pw_ltA {e : im_E} {k : Nat} {fs : List Value} (hk : k < fs.length) {B : List im_E} {n : Nat} (hB : B.length + 1 = n) {K : im_W → Option im_W} : (im_b2 (im_al (pw (.inr (8, fs) :: B)) e) fun n1 w2 => (im_pV w2 8 0 k (.ref n1)).bind K) = K (pw (.inr (8, fs.set k (.ref n)) :: (B ++ [e]))) := by
  have hl : (Sum.inr (8, fs) :: B : List im_E).length = n := by simpa using hB
  rw [pw_al, im_b2_s, hl]
  have := pw_pV (A := []) (B := B ++ [e]) (ci := 8) (fs := fs) (.ref n) hk
  rw [List.nil_append] at this
  rw [show Sum.inr (8, fs) :: B ++ [e] = Sum.inr (8, fs) :: (B ++ [e]) from rfl]
  rw [show im_pV (pw (Sum.inr (8, fs) :: (B ++ [e]))) 8 0 k (.ref n) = _ from this, Option.bind_some]
  rfl
def pw_tk : Nat → List im_E
  | 0 => []
  | k + 1 => pw_tk k ++ pw_tag (143 + 6 * k)
theorem pw_tag_len (p : Nat) : (pw_tag p).length = 6 := rfl
theorem pw_tk_len : ∀ k, (pw_tk k).length = 6 * k
  | 0 => rfl
  | k + 1 => by rw [pw_tk, List.length_append, pw_tk_len k, pw_tag_len]; omega
def pw_TS (fs : List Value) (B : List im_E) (k : Nat) : List im_E := .inr (8, fs) :: (B ++ pw_rf (pw_r 143 0 6 k) 4 16 :: pw_tk k)
theorem pw_tg {fs : List Value} {B : List im_E} (hB : B.length = 141) (h7 : fs[7]? = some (.ref 142)) {k : Nat} {i : Int32} (hk : i.toNatClampNeg = k) (hi : ¬ (i < 0 ∨ 16 ≤ i.toNatClampNeg)) {K : im_W → Option im_W} : ((im_gR (pw (pw_TS fs B k)) 8 0 7).bind fun f64 => im_b2 (im_al (pw (pw_TS fs B k)) (.inr (6, df0_Tag))) fun n66 w67 => (sh_Tag_init F n66 w67).bind fun w69 => (im_sz w69 (w67.1 + 5)).bind fun _ => (im_sR w69 4 f64 i 6 n66).bind K) = K (pw (pw_TS fs B (k + 1))) := by
  have hl : (pw_TS fs B k).length = 143 + 6 * k := by simp [pw_TS, hB, pw_tk_len]; omega
  have e1 : pw_TS fs B k = (Sum.inr (8, fs) :: B) ++ pw_rf (pw_r 143 0 6 k) 4 16 :: pw_tk k := by simp [pw_TS]
  have hg : im_gR (pw (pw_TS fs B k)) 8 0 7 = some 142 := by
    unfold pw_TS
    exact pw_gR (A := []) h7
  rw [hg, Option.bind_some, pw_al, im_b2_s, pw_tagI, Option.bind_some, pw_sz (by rw [List.length_append, pw_tag_len]; show _ = (pw_TS fs B k ++ [_]).length + 5; rw [List.length_append, List.length_singleton]), Option.bind_some, hl]
  have sr := pw_sR (A := Sum.inr (8, fs) :: B) (B := pw_tk k) (C := pw_form 30 (143 + 6 * k + 1) ++ [pw_ai 0 8, pw_ai 3 8]) (t := 4) (n := 16) (ci := 6) (f := pw_r 143 0 6 k) (fs := [.ref (143 + 6 * k + 1), .ref (143 + 6 * k + 4), .ref (143 + 6 * k + 5), .int 0]) hi (v := 143 + 6 * k) (by rw [← e1, hl])
  rw [← e1, List.length_cons, hB, hk, pw_va (by omega)] at sr
  rw [show pw_tag (143 + 6 * k) = .inr (6, [.ref (143 + 6 * k + 1), .ref (143 + 6 * k + 4), .ref (143 + 6 * k + 5), .int 0]) :: (pw_form 30 (143 + 6 * k + 1) ++ [pw_ai 0 8, pw_ai 3 8]) from rfl, sr, Option.bind_some]
  congr 2
  unfold pw_TS
  rw [pw_tk]
  simp
  rfl
def pw_B0 : List im_E := pw_text 60 1 ++ pw_text 62 3 ++ pw_read 5 ++ pw_alia 8 ++ pw_pairs 12 ++ pw_pairs 75 ++ pw_lik 12 138
theorem pw_pairs_len (p : Nat) : (pw_pairs p).length = 63 := by
  unfold pw_pairs pw_prs
  simp [pw_fk_len]
theorem pw_B0_len : pw_B0.length = 141 := by
  unfold pw_B0
  simp [pw_pairs_len, pw_text, pw_read, pw_alia, pw_lik]
def pw_LT : List im_E := .inr (8, [.ref 1, .ref 3, .ref 5, .ref 8, .ref 12, .ref 75, .ref 138, .ref 142, .ref 239, .ref 240, .ref 243, .ref 246, .ref 247, .int 0, .int 0, .int 0]) :: (pw_B0 ++ pw_rf (pw_r 143 0 6 16) 4 16 :: pw_tk 16 ++ [pw_ai 0 16] ++ pw_form 30 240 ++ pw_form 30 243 ++ [pw_core] ++ [pw_core])
theorem pw_ltL {fs : List Value} (hk : 6 < fs.length) {x : Nat} (h4 : fs[4]? = some (.ref x)) {B : List im_E} {n : Nat} (hB : B.length + 1 = n) {K : im_W → Option im_W} : (im_b2 (im_al (pw (.inr (8, fs) :: B)) (.inr (3, df0_Likely))) fun n1 w2 => (im_gR w2 8 0 4).bind fun f52 => (sh_Likely_init F n1 f52 w2).bind fun w4 => (im_sz w4 (w2.1 + 3)).bind fun _ => (im_pV w4 8 0 6 (.ref n1)).bind K) = K (pw (.inr (8, fs.set 6 (.ref n)) :: (B ++ pw_lik x n))) := by
  have hl : (Sum.inr (8, fs) :: B : List im_E).length = n := by simpa using hB
  have h := pw_likI (F := F) (.inr (8, fs) :: B) x
  rw [hl] at h
  have hg : im_gR (pw (Sum.inr (8, fs) :: B ++ [.inr (3, df0_Likely)])) 8 0 4 = some x := pw_gR (A := []) h4
  rw [pw_al, im_b2_s, hl, hg, Option.bind_some, h, Option.bind_some, pw_sz (by rw [List.length_append, hl]; show _ = (Sum.inr (8, fs) :: B ++ [_] : List im_E).length + 3; rw [List.length_append, hl, List.length_singleton]; rfl), Option.bind_some]
  have := pw_pV (A := []) (B := B ++ pw_lik x n) (ci := 8) (fs := fs) (.ref n) hk
  rw [List.nil_append] at this
  rw [show Sum.inr (8, fs) :: B ++ pw_lik x n = Sum.inr (8, fs) :: (B ++ pw_lik x n) from rfl]
  rw [show im_pV (pw (Sum.inr (8, fs) :: (B ++ pw_lik x n))) 8 0 6 (.ref n) = _ from this, Option.bind_some]
  rfl
theorem pw_ltV {k : Nat} {v : Value} {fs : List Value} (hk : k < fs.length) {B : List im_E} {K : im_W → Option im_W} : ((im_pV (pw (.inr (8, fs) :: B)) 8 0 k v).bind K) = K (pw (.inr (8, fs.set k v) :: B)) := by
  have := pw_pV (A := []) (B := B) (ci := 8) (fs := fs) v hk
  rw [show im_pV (pw (Sum.inr (8, fs) :: B)) 8 0 k v = _ from this, Option.bind_some]
  rfl
theorem pw_ltI : sh_LT_init F 0 (pw [.inr (8, df0_LT)]) = some (pw pw_LT) := by
  unfold sh_LT_init df0_LT
  rw [pw_ltS (ini := sh_Text_init_60 F) (cells := pw_text 60) (s := 1) pw_t60 (fun _ => rfl) (by simp) (n := 1) rfl]
  rw [pw_ltS (ini := sh_Text_init_62 F) (cells := pw_text 62) (s := 1) pw_t62 (fun _ => rfl) (by simp) (n := 3) rfl]
  rw [pw_ltS (ini := sh_Reader_init F) (cells := pw_read) (s := 2) pw_rd (fun _ => rfl) (by simp) (n := 5) rfl]
  rw [pw_ltS (ini := sh_Aliases_init F) (cells := pw_alia) (s := 3) pw_als (fun _ => rfl) (by simp) (n := 8) rfl]
  rw [pw_ltS (ini := sh_Pairs_init F) (cells := pw_pairs) (s := 62) pw_prsI pw_pairs_len (by simp) (n := 12) rfl]
  rw [pw_ltS (ini := sh_Pairs_init F) (cells := pw_pairs) (s := 62) pw_prsI pw_pairs_len (by simp) (n := 75) (by simp [pw_pairs_len, pw_text, pw_read, pw_alia])]
  rw [pw_ltL (x := 12) (by simp) rfl (n := 138) (by simp [pw_pairs_len, pw_text, pw_read, pw_alia])]
  have eB : [] ++ pw_text 60 1 ++ pw_text 62 3 ++ pw_read 5 ++ pw_alia 8 ++ pw_pairs 12 ++ pw_pairs 75 ++ pw_lik 12 138 = pw_B0 := by unfold pw_B0; rw [List.nil_append]
  rw [eB, pw_ltA (by simp) (n := 142) (by rw [pw_B0_len])]
  have hB := pw_B0_len
  generalize hfs : (((((((([Value.null, Value.null, Value.null, Value.null, Value.null, Value.null, Value.null, Value.null, Value.null, Value.null, Value.null, Value.null, Value.null, Value.int 0, Value.int 0, Value.int 0].set 0 (.ref 1)).set 1 (.ref 3)).set 2 (.ref 5)).set 3 (.ref 8)).set 4 (.ref 12)).set 5 (.ref 75)).set 6 (.ref 138)).set 7 (.ref 142)) = fs
  have hfs2 : fs = [.ref 1, .ref 3, .ref 5, .ref 8, .ref 12, .ref 75, .ref 138, .ref 142, .null, .null, .null, .null, .null, .int 0, .int 0, .int 0] := by rw [← hfs]; rfl
  have h7 : fs[7]? = some (.ref 142) := by rw [hfs2]; rfl
  have hlf : fs.length = 16 := by rw [hfs2]; rfl
  have eT : Sum.inr (8, fs) :: (pw_B0 ++ [Sum.inl (4, 16, .inr (.inr (.inr (.inr (fun _ => none)))))]) = pw_TS fs pw_B0 0 := by
    unfold pw_TS pw_rf
    rw [← pw_va0]
    rfl
  rw [eT]
  rw [pw_tg hB h7 (k := 0) (i := 0) (by decide) (by decide), pw_tg hB h7 (k := 1) (i := 1) (by decide) (by decide), pw_tg hB h7 (k := 2) (i := 2) (by decide) (by decide), pw_tg hB h7 (k := 3) (i := 3) (by decide) (by decide), pw_tg hB h7 (k := 4) (i := 4) (by decide) (by decide), pw_tg hB h7 (k := 5) (i := 5) (by decide) (by decide), pw_tg hB h7 (k := 6) (i := 6) (by decide) (by decide), pw_tg hB h7 (k := 7) (i := 7) (by decide) (by decide), pw_tg hB h7 (k := 8) (i := 8) (by decide) (by decide), pw_tg hB h7 (k := 9) (i := 9) (by decide) (by decide), pw_tg hB h7 (k := 10) (i := 10) (by decide) (by decide), pw_tg hB h7 (k := 11) (i := 11) (by decide) (by decide), pw_tg hB h7 (k := 12) (i := 12) (by decide) (by decide), pw_tg hB h7 (k := 13) (i := 13) (by decide) (by decide), pw_tg hB h7 (k := 14) (i := 14) (by decide) (by decide), pw_tg hB h7 (k := 15) (i := 15) (by decide) (by decide)]
  have eU : pw_TS fs pw_B0 (15 + 1) = Sum.inr (8, fs) :: (pw_B0 ++ pw_rf (pw_r 143 0 6 16) 4 16 :: pw_tk 16) := rfl
  have hU : (pw_B0 ++ pw_rf (pw_r 143 0 6 16) 4 16 :: pw_tk 16).length = 238 := by simp [pw_B0_len, pw_tk_len]
  rw [eU]
  generalize hV : pw_B0 ++ pw_rf (pw_r 143 0 6 16) 4 16 :: pw_tk 16 = V at hU
  rw [pw_ltA (by rw [hlf]; decide) (n := 239) (by rw [hU])]
  rw [pw_ltS (ini := sh_Form_init_30 F) (cells := pw_form 30) (s := 2) pw_f30 (fun _ => rfl) (by simp [hlf]) (n := 240) (by simp [hU])]
  rw [pw_ltS (ini := sh_Form_init_30 F) (cells := pw_form 30) (s := 2) pw_f30 (fun _ => rfl) (by simp [hlf]) (n := 243) (by simp [hU, pw_form])]
  rw [pw_ltS (ini := sh_Core_init F) (cells := fun _ => [pw_core]) (s := 0) pw_cr (fun _ => rfl) (by simp [hlf]) (n := 246) (by simp [hU, pw_form])]
  rw [pw_ltS (ini := sh_Core_init F) (cells := fun _ => [pw_core]) (s := 0) pw_cr (fun _ => rfl) (by simp [hlf]) (n := 247) (by simp [hU, pw_form])]
  rw [pw_ltV (by simp [hlf]), pw_ltV (by simp [hlf]), pw_ltV (by simp [hlf]), hfs2]
  unfold pw_LT
  rw [hV]
  rfl
end PWL
