/-! the model's constructor, and the first world -/
section PWM
variable {F : Nat} (A : List im_E)
theorem pw_mo {e : im_E} {k : Nat} {fs : List Value} {B : List im_E} {m : Nat} (hB : B.length = m) (hk : k < fs.length) {K : im_W → Option im_W} : (im_b2 (im_al (pw (A ++ .inr (9, fs) :: B)) e) fun n1 w2 => (im_pV w2 9 A.length k (.ref n1)).bind K) = K (pw (A ++ .inr (9, fs.set k (.ref (A.length + 1 + m))) :: (B ++ [e]))) := by
  rw [pw_al, im_b2_s, pw_apl, hB, pw_ap, pw_pV _ hk, Option.bind_some]
def pw_Mo : List im_E := [.inr (9, [.int 0, .ref 249, .int 0, .int 0, .int 0, .int 0, .ref 250, .ref 251, .int 0, .ref 252, .ref 253, .int 0, .int 0, .int 0, .ref 254, .int 0, .ref 255, .int 0, .ref 256, .ref 257, .ref 258, .ref 259, .ref 260, .ref 261, .ref 262, .ref 263, .ref 264, .ref 265, .int 0, .int 0, .int 0, .int 0, .ref 266, .ref 267, .ref 268, .ref 269, .ref 270, .ref 271, .ref 272, .int 0, .ref 273, .int 0, .ref 274, .int 0]), pw_ai 2 60, pw_ai 0 32, pw_ai 0 32, pw_ai 0 32, pw_ai 0 32, pw_ai 2 80, pw_ai 2 80, pw_ai 0 8, pw_ai 0 8, pw_ai 3 8, pw_ai 0 2, pw_ai 0 20, pw_ai 0 20, pw_ai 0 20, pw_ai 0 20, pw_ai 0 20, pw_ai 0 20, pw_ai 2 1280, pw_ai 0 16, pw_ai 0 16, pw_ai 0 16, pw_ai 0 16, pw_ai 0 128, pw_ai 3 128, pw_ai 0 16, pw_ai 2 80]
theorem pw_moI (hA : A.length = 248) : sh_Model_init F 248 (pw (A ++ [.inr (9, df0_Model)])) = some (pw (A ++ pw_Mo)) := by
  unfold sh_Model_init df0_Model
  have mo : ∀ {e : im_E} {k : Nat} {fs : List Value} {B : List im_E} {m n : Nat} (hB : B.length = m) (hn : 249 + m = n) (hk : k < fs.length) {K : im_W → Option im_W}, (im_b2 (im_al (pw (A ++ .inr (9, fs) :: B)) e) fun n1 w2 => (im_pV w2 9 248 k (.ref n1)).bind K) = K (pw (A ++ .inr (9, fs.set k (.ref n)) :: (B ++ [e]))) := by
    intro e k fs B m n hB hn hk K
    have := pw_mo A (e := e) (k := k) (fs := fs) hB hk (K := K)
    rw [hA, show 248 + 1 + m = n by omega] at this
    exact this
  rw [mo (m := 0) (n := 249) rfl rfl (by simp)]
  rw [mo (m := 1) (n := 250) rfl rfl (by simp)]
  rw [mo (m := 2) (n := 251) rfl rfl (by simp)]
  rw [mo (m := 3) (n := 252) rfl rfl (by simp)]
  rw [mo (m := 4) (n := 253) rfl rfl (by simp)]
  rw [mo (m := 5) (n := 254) rfl rfl (by simp)]
  rw [mo (m := 6) (n := 255) rfl rfl (by simp)]
  rw [mo (m := 7) (n := 256) rfl rfl (by simp)]
  rw [mo (m := 8) (n := 257) rfl rfl (by simp)]
  rw [mo (m := 9) (n := 258) rfl rfl (by simp)]
  rw [mo (m := 10) (n := 259) rfl rfl (by simp)]
  rw [mo (m := 11) (n := 260) rfl rfl (by simp)]
  rw [mo (m := 12) (n := 261) rfl rfl (by simp)]
  rw [mo (m := 13) (n := 262) rfl rfl (by simp)]
  rw [mo (m := 14) (n := 263) rfl rfl (by simp)]
  rw [mo (m := 15) (n := 264) rfl rfl (by simp)]
  rw [mo (m := 16) (n := 265) rfl rfl (by simp)]
  rw [mo (m := 17) (n := 266) rfl rfl (by simp)]
  rw [mo (m := 18) (n := 267) rfl rfl (by simp)]
  rw [mo (m := 19) (n := 268) rfl rfl (by simp)]
  rw [mo (m := 20) (n := 269) rfl rfl (by simp)]
  rw [mo (m := 21) (n := 270) rfl rfl (by simp)]
  rw [mo (m := 22) (n := 271) rfl rfl (by simp)]
  rw [mo (m := 23) (n := 272) rfl rfl (by simp)]
  rw [mo (m := 24) (n := 273) rfl rfl (by simp)]
  rw [mo (m := 25) (n := 274) rfl rfl (by simp)]
  rfl
end PWM
def pu_z : pu_S := (fun _ _ => 0, fun _ _ => 0, fun _ _ => 0, fun _ _ => 0)
set_option maxRecDepth 100000 in
theorem pw_range : pw_LT ++ pw_Mo = (List.range 275).map (pu_c pu_z) := by rfl
theorem pw_first : pw (pw_LT ++ pw_Mo) = pu_mk pu_z := by
  rw [pw_range]
  unfold pw pu_mk
  rw [List.length_map, List.length_range]
  congr 1
  funext k
  rw [List.getD_eq_getElem?_getD, List.getElem?_map]
  by_cases hk : k < 275
  · rw [List.getElem?_range hk]
    rfl
  · rw [List.getElem?_eq_none (by rw [List.length_range]; omega)]
    have : pu_sk k = none := by
      unfold pu_sk
      exact List.getElem?_eq_none (by rw [pu_len]; omega)
    show pw_0 = pu_c pu_z k
    unfold pu_c
    rw [this]
    rfl
theorem pw_LT_len : pw_LT.length = 248 := by
  unfold pw_LT
  simp [pw_B0_len, pw_tk_len, pw_form]
theorem pw_law (F L : Nat) (xs : Nat → Int32) : sh_Law F L xs = sh_Law_law_18 F L xs F 0 248 0 (pu_mk pu_z) := by
  have hm := pw_moI (F := F) pw_LT pw_LT_len
  unfold sh_Law
  rw [pw_nil, pw_al, im_b2_s]
  rw [show sh_LT_init F ([] : List im_E).length (pw ([] ++ [.inr (8, df0_LT)])) = _ from pw_ltI, Option.bind_some]
  rw [pw_sz (by rw [pw_LT_len]; rfl), Option.bind_some, pw_al, im_b2_s, pw_LT_len, hm, Option.bind_some]
  rw [pw_sz (by rw [List.length_append, pw_LT_len]; show _ = (pw_LT ++ [_]).length + 26; rw [List.length_append, pw_LT_len]; rfl), Option.bind_some, pw_first]
  rfl
