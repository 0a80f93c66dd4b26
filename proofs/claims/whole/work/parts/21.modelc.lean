section GEN
variable {l : Launch} {D : va_G} {tA : Nat → ClassId} {lo : Nat} {p : Program} {e : Env} {s : State} {m : MethodId} {args : Array Value} {below : List Frame} {meth : Method} {c : Code}
theorem wd_864 : (Jvm.Cond.methodLink "LanguageTagsModel" (191 : Nat) ({ cls := "LanguageTagsModel", name := "putNumber", desc := "(II)V" } : Jvm.MethodName)) ∈ im_T := im_memT (i := 864) (by decide +kernel) (by decide +kernel)
theorem wd_866 : (Jvm.Cond.instanceMethod ({ cls := "LanguageTagsModel", name := "putNumber", desc := "(II)V" } : Jvm.MethodName)) ∈ im_T := im_memT (i := 866) (by decide +kernel) (by decide +kernel)
theorem wd_867 : (Jvm.Cond.code ({ cls := "LanguageTagsModel", name := "putNumber", desc := "(II)V" } : Jvm.MethodName) prog_12_method_25_code (6 : Nat) (Option.none : Option Jvm.ClassFile.FieldType)) ∈ im_T := im_memT (i := 867) (by decide +kernel) (by decide +kernel)
theorem d_Model_putShort_0 : decode c_Model_putShort 0 = .ok (.aload_n 0, 1) := by decide +kernel
theorem d_Model_putShort_1 : decode c_Model_putShort 1 = .ok (.iconst 0, 1) := by decide +kernel
theorem d_Model_putShort_2 : decode c_Model_putShort 2 = .ok (.putfield 177, 3) := by decide +kernel
theorem d_Model_putShort_5 : decode c_Model_putShort 5 = .ok (.aload_n 0, 1) := by decide +kernel
theorem d_Model_putShort_6 : decode c_Model_putShort 6 = .ok (.iload_n 1, 1) := by decide +kernel
theorem d_Model_putShort_7 : decode c_Model_putShort 7 = .ok (.iconst 0, 1) := by decide +kernel
theorem d_Model_putShort_8 : decode c_Model_putShort 8 = .ok (.invokevirtual 191, 3) := by decide +kernel
theorem d_Model_putShort_11 : decode c_Model_putShort 11 = .ok (.iload_n 2, 1) := by decide +kernel
theorem d_Model_putShort_12 : decode c_Model_putShort 12 = .ok (.ifCond .le (15), 3) := by decide +kernel
theorem d_Model_putShort_15 : decode c_Model_putShort 15 = .ok (.aload_n 0, 1) := by decide +kernel
theorem d_Model_putShort_16 : decode c_Model_putShort 16 = .ok (.bipush (45), 2) := by decide +kernel
theorem d_Model_putShort_18 : decode c_Model_putShort 18 = .ok (.invokevirtual 187, 3) := by decide +kernel
theorem d_Model_putShort_21 : decode c_Model_putShort 21 = .ok (.aload_n 0, 1) := by decide +kernel
theorem d_Model_putShort_22 : decode c_Model_putShort 22 = .ok (.iload_n 2, 1) := by decide +kernel
theorem d_Model_putShort_23 : decode c_Model_putShort 23 = .ok (.iconst 1, 1) := by decide +kernel
theorem d_Model_putShort_24 : decode c_Model_putShort 24 = .ok (.invokevirtual 191, 3) := by decide +kernel
theorem d_Model_putShort_27 : decode c_Model_putShort 27 = .ok (.iload_n 3, 1) := by decide +kernel
theorem d_Model_putShort_28 : decode c_Model_putShort 28 = .ok (.ifCond .le (15), 3) := by decide +kernel
theorem d_Model_putShort_31 : decode c_Model_putShort 31 = .ok (.aload_n 0, 1) := by decide +kernel
theorem d_Model_putShort_32 : decode c_Model_putShort 32 = .ok (.bipush (45), 2) := by decide +kernel
theorem d_Model_putShort_34 : decode c_Model_putShort 34 = .ok (.invokevirtual 187, 3) := by decide +kernel
theorem d_Model_putShort_37 : decode c_Model_putShort 37 = .ok (.aload_n 0, 1) := by decide +kernel
theorem d_Model_putShort_38 : decode c_Model_putShort 38 = .ok (.iload_n 3, 1) := by decide +kernel
theorem d_Model_putShort_39 : decode c_Model_putShort 39 = .ok (.iconst 3, 1) := by decide +kernel
theorem d_Model_putShort_40 : decode c_Model_putShort 40 = .ok (.invokevirtual 191, 3) := by decide +kernel
theorem d_Model_putShort_43 : decode c_Model_putShort 43 = .ok (.return_, 1) := by decide +kernel
def sh_Model_putShort_43 (F : Nat)  (w : im_W) : Option (im_W) :=
  some w
set_option maxHeartbeats 4000000 in
set_option maxRecDepth 100000 in
theorem bk_Model_putShort_43 {F : Nat} {r : im_W} (X : im_X D vwCl tA lo im_NW c_Model_putShort 4 none RC_Model im_T p s m args meth c)  (w : im_W) (hsh : sh_Model_putShort_43 F w = some r) : im_WW D vwCl tA lo 4 p l e (im_rm 2 46) s m args below meth c 0 0 (MQ below (im_Post D vwCl tA lo none r) args s 0 0 (fun q => lo ≤ q)) 43 [] [] w := by
  obtain ⟨hx, hb, hr, hts, hown, hlk, hml, hK, hN⟩ := id X
  intro H locs ls hH hl
  unfold sh_Model_putShort_43 at hsh
  obtain rfl := Option.some.inj hsh
  exact im_vret hx hb hr hlk hH d_Model_putShort_43
def sh_Model_putShort_27 (F : Nat) (x0 : Nat) (x3 : Int32) (w : im_W) : Option (im_W) :=
  (if x3 ≤ 0 then sh_Model_putShort_43 F w else (im_is w 9 x0).bind fun u1 => (sh_Model_putChar F x0 (45 : Int32) w).bind fun w5 => (im_is w5 9 x0).bind fun u7 => (sh_Model_putNumber F x0 x3 (3 : Int32) w5).bind fun w11 => sh_Model_putShort_43 F w11)
set_option maxHeartbeats 4000000 in
set_option maxRecDepth 100000 in
theorem bk_Model_putShort_27 {F : Nat} {r : im_W} (X : im_X D vwCl tA lo im_NW c_Model_putShort 4 none RC_Model im_T p s m args meth c) (x0 : Nat) (x3 : Int32) (w : im_W) (hsh : sh_Model_putShort_27 F x0 x3 w = some r) : im_WW D vwCl tA lo 4 p l e (im_rm 2 46) s m args below meth c 0 0 (MQ below (im_Post D vwCl tA lo none r) args s 0 0 (fun q => lo ≤ q)) 27 [(0, .ref (lo + x0)), (3, .int x3)] [] w := by
  obtain ⟨hx, hb, hr, hts, hown, hlk, hml, hK, hN⟩ := id X
  intro H locs ls hH hl
  unfold sh_Model_putShort_27 at hsh
  refine lv_iload_n hx hb d_Model_putShort_27 rfl (lv_at hl 1 rfl) ?_
  refine lv_if_le (tgt := 43) hx hb d_Model_putShort_28 (by decide) (fun cc => ?_) (fun cc => ?_)
  · have hsh := im_it hsh cc
    exact bk_Model_putShort_43 X w hsh H locs ls hH (lv_sub hl [] rfl)
  · have hsh := im_if hsh cc
    refine lv_aload_n hx hb d_Model_putShort_31 rfl (lv_at hl 0 rfl) ?_
    refine lv_bipush (v := 45) hx hb d_Model_putShort_32 (by decide) ?_
    obtain ⟨u1, h2, hsh⟩ := im_bd hsh
    obtain ⟨g3, h4⟩ := im_is_s h2
    obtain ⟨w5, h6, hsh⟩ := im_bd hsh
    refine im_afterV (va_runV (As := [.int (45 : Int32)]) (rest := []) (C := RC_Model) ⟨hx, hb, hml, hown, hts⟩ (met_Model_putChar h6) ⟨(callB_of 1 hts (im_good wd_879) rfl rfl rfl (hts _ wd_10) (hts _ wd_876) (by decide +kernel) ⟨Nat.le_of_ble_eq_true rfl, Nat.le_of_ble_eq_true rfl⟩), hts _ wd_878, hts _ sl_Model_putChar⟩ (im_preV im_NW_ok hK hN hH (ci := 9) rfl rfl h4 _) rfl rfl hl.1 rfl (lv_room (Nat.le_of_ble_eq_true rfl)) d_Model_putShort_34 ⟨Nat.le_of_ble_eq_true rfl, Nat.le_of_ble_eq_true rfl⟩) hH (fun H locs hH => ?_)
    refine lv_aload_n hx hb d_Model_putShort_37 rfl (lv_at hl 0 rfl) ?_
    refine lv_iload_n hx hb d_Model_putShort_38 rfl (lv_at hl 1 rfl) ?_
    refine lv_iconst (v := 3) hx hb d_Model_putShort_39 (by decide) ?_
    obtain ⟨u7, h8, hsh⟩ := im_bd hsh
    obtain ⟨g9, h10⟩ := im_is_s h8
    obtain ⟨w11, h12, hsh⟩ := im_bd hsh
    refine im_afterV (va_runV (As := [.int x3, .int (3 : Int32)]) (rest := []) (C := RC_Model) ⟨hx, hb, hml, hown, hts⟩ (met_Model_putNumber h12) ⟨(callB_of 2 hts (im_good wd_867) rfl rfl rfl (hts _ wd_10) (hts _ wd_864) (by decide +kernel) ⟨Nat.le_of_ble_eq_true rfl, Nat.le_of_ble_eq_true rfl⟩), hts _ wd_866, hts _ sl_Model_putNumber⟩ (im_preV im_NW_ok hK hN hH (ci := 9) rfl rfl h10 _) rfl rfl hl.1 rfl (lv_room (Nat.le_of_ble_eq_true rfl)) d_Model_putShort_40 ⟨Nat.le_of_ble_eq_true rfl, Nat.le_of_ble_eq_true rfl⟩) hH (fun H locs hH => ?_)
    exact bk_Model_putShort_43 X w11 hsh H locs ls hH (lv_sub hl [] rfl)
def sh_Model_putShort (F : Nat) (x0 : Nat) (x1 : Int32) (x2 : Int32) (x3 : Int32) (w : im_W) : Option (im_W) :=
  (im_pV w 9 x0 13 (.int (0 : Int32))).bind fun w1 => (im_is w1 9 x0).bind fun u3 => (sh_Model_putNumber F x0 x1 (0 : Int32) w1).bind fun w7 => (if x2 ≤ 0 then sh_Model_putShort_27 F x0 x3 w7 else (im_is w7 9 x0).bind fun u9 => (sh_Model_putChar F x0 (45 : Int32) w7).bind fun w13 => (im_is w13 9 x0).bind fun u15 => (sh_Model_putNumber F x0 x2 (1 : Int32) w13).bind fun w19 => sh_Model_putShort_27 F x0 x3 w19)
set_option maxHeartbeats 4000000 in
set_option maxRecDepth 100000 in
theorem met_Model_putShort {F : Nat} {x0 : Nat} {x1 : Int32} {x2 : Int32} {x3 : Int32} {w : im_W} {r : im_W} (hsh : sh_Model_putShort F x0 x1 x2 x3 w = some r) : Met l y_Model_putShort (Cond.code y_Model_putShort c_Model_putShort 4 none :: im_T) (im_rm 2 46) (im_Pre D vwCl tA lo im_NW [.ref (lo + x0), .int x1, .int x2, .int x3] w) (im_Post D vwCl tA lo none r) 0 0 (fun q => lo ≤ q) := by
  refine im_ofW (cc := c_Model_putShort) (nL := 4) (ret := none) (by decide) (Nat.le_of_ble_eq_true rfl) ?_
  intro p e s m args below meth c X H locs ls hH hl
  obtain ⟨hx, hb, hr, hts, hown, hlk, hml, hK, hN⟩ := id X
  have hl : lv_has ls 4 [(0, .ref (lo + x0)), (1, .int x1), (2, .int x2), (3, .int x3)] := hl
  unfold sh_Model_putShort at hsh
  refine lv_aload_n hx hb d_Model_putShort_0 rfl (lv_at hl 0 rfl) ?_
  refine lv_iconst (v := 0) hx hb d_Model_putShort_1 (by decide) ?_
  obtain ⟨w1, h2, hsh⟩ := im_bd hsh
  refine im_put (v := .int (0 : Int32)) hx hb hts inC_Model tyC_Model tyC_Model_ok nmC_Model hown hK hH (ci := 9) rfl 13 (by decide) (hts _ wd_644) rfl rfl rfl rfl h2 d_Model_putShort_2 (fun H locs hH => ?_)
  refine lv_aload_n hx hb d_Model_putShort_5 rfl (lv_at hl 0 rfl) ?_
  refine lv_iload_n hx hb d_Model_putShort_6 rfl (lv_at hl 1 rfl) ?_
  refine lv_iconst (v := 0) hx hb d_Model_putShort_7 (by decide) ?_
  obtain ⟨u3, h4, hsh⟩ := im_bd hsh
  obtain ⟨g5, h6⟩ := im_is_s h4
  obtain ⟨w7, h8, hsh⟩ := im_bd hsh
  refine im_afterV (va_runV (As := [.int x1, .int (0 : Int32)]) (rest := []) (C := RC_Model) ⟨hx, hb, hml, hown, hts⟩ (met_Model_putNumber h8) ⟨(callB_of 2 hts (im_good wd_867) rfl rfl rfl (hts _ wd_10) (hts _ wd_864) (by decide +kernel) ⟨Nat.le_of_ble_eq_true rfl, Nat.le_of_ble_eq_true rfl⟩), hts _ wd_866, hts _ sl_Model_putNumber⟩ (im_preV im_NW_ok hK hN hH (ci := 9) rfl rfl h6 _) rfl rfl hl.1 rfl (lv_room (Nat.le_of_ble_eq_true rfl)) d_Model_putShort_8 ⟨Nat.le_of_ble_eq_true rfl, Nat.le_of_ble_eq_true rfl⟩) hH (fun H locs hH => ?_)
  refine lv_iload_n hx hb d_Model_putShort_11 rfl (lv_at hl 2 rfl) ?_
  refine lv_if_le (tgt := 27) hx hb d_Model_putShort_12 (by decide) (fun cc => ?_) (fun cc => ?_)
  · have hsh := im_it hsh cc
    exact bk_Model_putShort_27 X x0 x3 w7 hsh H locs ls hH (lv_sub hl [0, 3] rfl)
  · have hsh := im_if hsh cc
    refine lv_aload_n hx hb d_Model_putShort_15 rfl (lv_at hl 0 rfl) ?_
    refine lv_bipush (v := 45) hx hb d_Model_putShort_16 (by decide) ?_
    obtain ⟨u9, h10, hsh⟩ := im_bd hsh
    obtain ⟨g11, h12⟩ := im_is_s h10
    obtain ⟨w13, h14, hsh⟩ := im_bd hsh
    refine im_afterV (va_runV (As := [.int (45 : Int32)]) (rest := []) (C := RC_Model) ⟨hx, hb, hml, hown, hts⟩ (met_Model_putChar h14) ⟨(callB_of 1 hts (im_good wd_879) rfl rfl rfl (hts _ wd_10) (hts _ wd_876) (by decide +kernel) ⟨Nat.le_of_ble_eq_true rfl, Nat.le_of_ble_eq_true rfl⟩), hts _ wd_878, hts _ sl_Model_putChar⟩ (im_preV im_NW_ok hK hN hH (ci := 9) rfl rfl h12 _) rfl rfl hl.1 rfl (lv_room (Nat.le_of_ble_eq_true rfl)) d_Model_putShort_18 ⟨Nat.le_of_ble_eq_true rfl, Nat.le_of_ble_eq_true rfl⟩) hH (fun H locs hH => ?_)
    refine lv_aload_n hx hb d_Model_putShort_21 rfl (lv_at hl 0 rfl) ?_
    refine lv_iload_n hx hb d_Model_putShort_22 rfl (lv_at hl 2 rfl) ?_
    refine lv_iconst (v := 1) hx hb d_Model_putShort_23 (by decide) ?_
    obtain ⟨u15, h16, hsh⟩ := im_bd hsh
    obtain ⟨g17, h18⟩ := im_is_s h16
    obtain ⟨w19, h20, hsh⟩ := im_bd hsh
    refine im_afterV (va_runV (As := [.int x2, .int (1 : Int32)]) (rest := []) (C := RC_Model) ⟨hx, hb, hml, hown, hts⟩ (met_Model_putNumber h20) ⟨(callB_of 2 hts (im_good wd_867) rfl rfl rfl (hts _ wd_10) (hts _ wd_864) (by decide +kernel) ⟨Nat.le_of_ble_eq_true rfl, Nat.le_of_ble_eq_true rfl⟩), hts _ wd_866, hts _ sl_Model_putNumber⟩ (im_preV im_NW_ok hK hN hH (ci := 9) rfl rfl h18 _) rfl rfl hl.1 rfl (lv_room (Nat.le_of_ble_eq_true rfl)) d_Model_putShort_24 ⟨Nat.le_of_ble_eq_true rfl, Nat.le_of_ble_eq_true rfl⟩) hH (fun H locs hH => ?_)
    exact bk_Model_putShort_27 X x0 x3 w19 hsh H locs ls hH (lv_sub hl [0, 3] rfl)
theorem d_Model_putTyped_0 : decode c_Model_putTyped 0 = .ok (.aload_n 0, 1) := by decide +kernel
theorem d_Model_putTyped_1 : decode c_Model_putTyped 1 = .ok (.bipush (45), 2) := by decide +kernel
theorem d_Model_putTyped_3 : decode c_Model_putTyped 3 = .ok (.invokevirtual 187, 3) := by decide +kernel
theorem d_Model_putTyped_6 : decode c_Model_putTyped 6 = .ok (.iload_n 1, 1) := by decide +kernel
theorem d_Model_putTyped_7 : decode c_Model_putTyped 7 = .ok (.istore_n 3, 1) := by decide +kernel
theorem d_Model_putTyped_8 : decode c_Model_putTyped 8 = .ok (.iload_n 3, 1) := by decide +kernel
theorem d_Model_putTyped_9 : decode c_Model_putTyped 9 = .ok (.iload_n 2, 1) := by decide +kernel
theorem d_Model_putTyped_10 : decode c_Model_putTyped 10 = .ok (.if_icmp .ge (39), 3) := by decide +kernel
theorem d_Model_putTyped_13 : decode c_Model_putTyped 13 = .ok (.aload_n 0, 1) := by decide +kernel
theorem d_Model_putTyped_14 : decode c_Model_putTyped 14 = .ok (.aload_n 0, 1) := by decide +kernel
theorem d_Model_putTyped_15 : decode c_Model_putTyped 15 = .ok (.getfield 7, 3) := by decide +kernel
theorem d_Model_putTyped_18 : decode c_Model_putTyped 18 = .ok (.iload_n 3, 1) := by decide +kernel
theorem d_Model_putTyped_19 : decode c_Model_putTyped 19 = .ok (.caload, 1) := by decide +kernel
theorem d_Model_putTyped_20 : decode c_Model_putTyped 20 = .ok (.bipush (95), 2) := by decide +kernel
theorem d_Model_putTyped_22 : decode c_Model_putTyped 22 = .ok (.if_icmp .ne (8), 3) := by decide +kernel
theorem d_Model_putTyped_25 : decode c_Model_putTyped 25 = .ok (.bipush (45), 2) := by decide +kernel
theorem d_Model_putTyped_27 : decode c_Model_putTyped 27 = .ok (.goto (13), 3) := by decide +kernel
theorem d_Model_putTyped_30 : decode c_Model_putTyped 30 = .ok (.aload_n 0, 1) := by decide +kernel
theorem d_Model_putTyped_31 : decode c_Model_putTyped 31 = .ok (.aload_n 0, 1) := by decide +kernel
theorem d_Model_putTyped_32 : decode c_Model_putTyped 32 = .ok (.getfield 7, 3) := by decide +kernel
theorem d_Model_putTyped_35 : decode c_Model_putTyped 35 = .ok (.iload_n 3, 1) := by decide +kernel
theorem d_Model_putTyped_36 : decode c_Model_putTyped 36 = .ok (.caload, 1) := by decide +kernel
theorem d_Model_putTyped_37 : decode c_Model_putTyped 37 = .ok (.invokevirtual 90, 3) := by decide +kernel
theorem d_Model_putTyped_40 : decode c_Model_putTyped 40 = .ok (.invokevirtual 187, 3) := by decide +kernel
theorem d_Model_putTyped_43 : decode c_Model_putTyped 43 = .ok (.iinc 3 (1), 3) := by decide +kernel
theorem d_Model_putTyped_46 : decode c_Model_putTyped 46 = .ok (.goto (-38), 3) := by decide +kernel
theorem d_Model_putTyped_49 : decode c_Model_putTyped 49 = .ok (.return_, 1) := by decide +kernel
def sh_Model_putTyped_40 (F : Nat) (k8 : Nat → Int32 → Int32 → im_W → Option (im_W)) (x0 : Nat) (x2 : Int32) (x3 : Int32) (y0 : Int32) (y1 : Nat) (w : im_W) : Option (im_W) :=
  (im_is w 9 y1).bind fun u1 => (sh_Model_putChar F y1 y0 w).bind fun w5 => k8 x0 x2 (x3 + (1 : Int32)) w5
set_option maxHeartbeats 4000000 in
set_option maxRecDepth 100000 in
theorem bk_Model_putTyped_40 {F : Nat} {r : im_W} (X : im_X D vwCl tA lo im_NW c_Model_putTyped 4 none RC_Model im_T p s m args meth c) {k8 : Nat → Int32 → Int32 → im_W → Option (im_W)} (hk8 : ∀ (x0 : Nat) (x2 : Int32) (x3 : Int32) (w : im_W), k8 x0 x2 x3 w = some r → im_WW D vwCl tA lo 4 p l e (im_rm 1 21) s m args below meth c 0 0 (MQ below (im_Post D vwCl tA lo none r) args s 0 0 (fun q => lo ≤ q)) 8 [(0, .ref (lo + x0)), (2, .int x2), (3, .int x3)] [] w) (x0 : Nat) (x2 : Int32) (x3 : Int32) (y0 : Int32) (y1 : Nat) (w : im_W) (hsh : sh_Model_putTyped_40 F k8 x0 x2 x3 y0 y1 w = some r) : im_WW D vwCl tA lo 4 p l e (im_rm 1 21) s m args below meth c 0 0 (MQ below (im_Post D vwCl tA lo none r) args s 0 0 (fun q => lo ≤ q)) 40 [(0, .ref (lo + x0)), (2, .int x2), (3, .int x3)] [.int y0, .ref (lo + y1)] w := by
  obtain ⟨hx, hb, hr, hts, hown, hlk, hml, hK, hN⟩ := id X
  intro H locs ls hH hl
  unfold sh_Model_putTyped_40 at hsh
  obtain ⟨u1, h2, hsh⟩ := im_bd hsh
  obtain ⟨g3, h4⟩ := im_is_s h2
  obtain ⟨w5, h6, hsh⟩ := im_bd hsh
  refine im_afterV (va_runV (As := [.int y0]) (rest := []) (C := RC_Model) ⟨hx, hb, hml, hown, hts⟩ (met_Model_putChar h6) ⟨(callB_of 1 hts (im_good wd_879) rfl rfl rfl (hts _ wd_10) (hts _ wd_876) (by decide +kernel) ⟨Nat.le_of_ble_eq_true rfl, Nat.le_of_ble_eq_true rfl⟩), hts _ wd_878, hts _ sl_Model_putChar⟩ (im_preV im_NW_ok hK hN hH (ci := 9) rfl rfl h4 _) rfl rfl hl.1 rfl (lv_room (Nat.le_of_ble_eq_true rfl)) d_Model_putTyped_40 ⟨Nat.le_of_ble_eq_true rfl, Nat.le_of_ble_eq_true rfl⟩) hH (fun H locs hH => ?_)
  refine lv_iinc (v := (x3 + (1 : Int32))) (lv' := [(3, .int (x3 + (1 : Int32))), (0, .ref (lo + x0)), (2, .int x2)]) hx hb d_Model_putTyped_43 hl (k := 2) rfl rfl (by decide) rfl (fun ls hl => ?_)
  refine lv_goto (tgt := 8) hx hb d_Model_putTyped_46 (by decide) ?_
  exact hk8 x0 x2 (x3 + (1 : Int32)) w5 hsh H locs ls hH (lv_sub hl [1, 2, 0] rfl)
def sh_Model_putTyped_8 (F : Nat) : Nat → Nat → Int32 → Int32 → im_W → Option (im_W)
  | 0, _, _, _, _ => none
  | f + 1, x0, x2, x3, w => (if x2 ≤ x3 then some w else (im_gR w 9 x0 1).bind fun f1 => (im_lI w 2 f1 x3).bind fun e3 => (if e3 = (95 : Int32) then sh_Model_putTyped_40 F (sh_Model_putTyped_8 F f) x0 x2 x3 (45 : Int32) x0 w else (im_gR w 9 x0 1).bind fun f5 => (im_lI w 2 f5 x3).bind fun e7 => (im_is w 9 x0).bind fun u9 => im_b2 (sh_Model_small F x0 e7 w) fun v15 w13 => sh_Model_putTyped_40 F (sh_Model_putTyped_8 F f) x0 x2 x3 v15 x0 w13))
set_option maxHeartbeats 4000000 in
set_option maxRecDepth 100000 in
theorem bk_Model_putTyped_8 {F : Nat} {r : im_W} (X : im_X D vwCl tA lo im_NW c_Model_putTyped 4 none RC_Model im_T p s m args meth c) : ∀ (f : Nat) (x0 : Nat) (x2 : Int32) (x3 : Int32) (w : im_W), sh_Model_putTyped_8 F f x0 x2 x3 w = some r → im_WW D vwCl tA lo 4 p l e (im_rm 1 21) s m args below meth c 0 0 (MQ below (im_Post D vwCl tA lo none r) args s 0 0 (fun q => lo ≤ q)) 8 [(0, .ref (lo + x0)), (2, .int x2), (3, .int x3)] [] w := by
  obtain ⟨hx, hb, hr, hts, hown, hlk, hml, hK, hN⟩ := id X
  intro f
  induction f with
  | zero =>
    intro x0 x2 x3 w hsh
    cases hsh
  | succ f ih =>
    intro x0 x2 x3 w hsh H locs ls hH hl
    unfold sh_Model_putTyped_8 at hsh
    refine lv_iload_n hx hb d_Model_putTyped_8 rfl (lv_at hl 2 rfl) ?_
    refine lv_iload_n hx hb d_Model_putTyped_9 rfl (lv_at hl 1 rfl) ?_
    refine lv_icmp_ge (tgt := 49) hx hb d_Model_putTyped_10 (by decide) (fun cc => ?_) (fun cc => ?_)
    · have hsh := im_it hsh cc
      obtain rfl := Option.some.inj hsh
      exact im_vret hx hb hr hlk hH d_Model_putTyped_49
    · have hsh := im_if hsh cc
      refine lv_aload_n hx hb d_Model_putTyped_13 rfl (lv_at hl 0 rfl) ?_
      refine lv_aload_n hx hb d_Model_putTyped_14 rfl (lv_at hl 0 rfl) ?_
      obtain ⟨f1, h2, hsh⟩ := im_bd hsh
      refine im_getR hx hb hts inC_Model hown hK hH (ci := 9) rfl 1 (by decide) (hts _ wd_632) rfl h2 d_Model_putTyped_15 ?_
      refine lv_iload_n hx hb d_Model_putTyped_18 rfl (lv_at hl 2 rfl) ?_
      obtain ⟨e3, h4, hsh⟩ := im_bd hsh
      refine im_cald hx hb hK hH h4 d_Model_putTyped_19 ?_
      refine lv_bipush (v := 95) hx hb d_Model_putTyped_20 (by decide) ?_
      refine lv_icmp_ne (tgt := 30) hx hb d_Model_putTyped_22 (by decide) (fun cc => ?_) (fun cc => ?_)
      · have hsh := im_if hsh cc
        refine lv_aload_n hx hb d_Model_putTyped_30 rfl (lv_at hl 0 rfl) ?_
        refine lv_aload_n hx hb d_Model_putTyped_31 rfl (lv_at hl 0 rfl) ?_
        obtain ⟨f5, h6, hsh⟩ := im_bd hsh
        refine im_getR hx hb hts inC_Model hown hK hH (ci := 9) rfl 1 (by decide) (hts _ wd_632) rfl h6 d_Model_putTyped_32 ?_
        refine lv_iload_n hx hb d_Model_putTyped_35 rfl (lv_at hl 2 rfl) ?_
        obtain ⟨e7, h8, hsh⟩ := im_bd hsh
        refine im_cald hx hb hK hH h8 d_Model_putTyped_36 ?_
        obtain ⟨u9, h10, hsh⟩ := im_bd hsh
        obtain ⟨g11, h12⟩ := im_is_s h10
        obtain ⟨v15, w13, h14, hsh⟩ := im_bd2 hsh
        refine im_afterI (va_runV (As := [.int e7]) (rest := [.ref (lo + x0)]) (C := RC_Model) ⟨hx, hb, hml, hown, hts⟩ (met_Model_small h14) ⟨(callB_of 1 hts (im_good wd_775) rfl rfl rfl (hts _ wd_10) (hts _ wd_772) (by decide +kernel) ⟨Nat.le_of_ble_eq_true rfl, Nat.le_of_ble_eq_true rfl⟩), hts _ wd_774, hts _ sl_Model_small⟩ (im_preV im_NW_ok hK hN hH (ci := 9) rfl rfl h12 _) rfl rfl hl.1 rfl (lv_room (Nat.le_of_ble_eq_true rfl)) d_Model_putTyped_37 ⟨Nat.le_of_ble_eq_true rfl, Nat.le_of_ble_eq_true rfl⟩) hH (fun H locs hH => ?_)
        exact bk_Model_putTyped_40 X ih x0 x2 x3 v15 x0 w13 hsh H locs ls hH (lv_sub hl [0, 1, 2] rfl)
      · have hsh := im_it hsh cc
        refine lv_bipush (v := 45) hx hb d_Model_putTyped_25 (by decide) ?_
        refine lv_goto (tgt := 40) hx hb d_Model_putTyped_27 (by decide) ?_
        exact bk_Model_putTyped_40 X ih x0 x2 x3 (45 : Int32) x0 w hsh H locs ls hH (lv_sub hl [0, 1, 2] rfl)
def sh_Model_putTyped (F : Nat) (x0 : Nat) (x1 : Int32) (x2 : Int32) (w : im_W) : Option (im_W) :=
  (im_is w 9 x0).bind fun u1 => (sh_Model_putChar F x0 (45 : Int32) w).bind fun w5 => sh_Model_putTyped_8 F F x0 x2 x1 w5
set_option maxHeartbeats 4000000 in
set_option maxRecDepth 100000 in
theorem met_Model_putTyped {F : Nat} {x0 : Nat} {x1 : Int32} {x2 : Int32} {w : im_W} {r : im_W} (hsh : sh_Model_putTyped F x0 x1 x2 w = some r) : Met l y_Model_putTyped (Cond.code y_Model_putTyped c_Model_putTyped 4 none :: im_T) (im_rm 1 21) (im_Pre D vwCl tA lo im_NW [.ref (lo + x0), .int x1, .int x2] w) (im_Post D vwCl tA lo none r) 0 0 (fun q => lo ≤ q) := by
  refine im_ofW (cc := c_Model_putTyped) (nL := 4) (ret := none) (by decide) (Nat.le_of_ble_eq_true rfl) ?_
  intro p e s m args below meth c X H locs ls hH hl
  obtain ⟨hx, hb, hr, hts, hown, hlk, hml, hK, hN⟩ := id X
  have hl : lv_has ls 4 [(0, .ref (lo + x0)), (1, .int x1), (2, .int x2)] := hl
  unfold sh_Model_putTyped at hsh
  refine lv_aload_n hx hb d_Model_putTyped_0 rfl (lv_at hl 0 rfl) ?_
  refine lv_bipush (v := 45) hx hb d_Model_putTyped_1 (by decide) ?_
  obtain ⟨u1, h2, hsh⟩ := im_bd hsh
  obtain ⟨g3, h4⟩ := im_is_s h2
  obtain ⟨w5, h6, hsh⟩ := im_bd hsh
  refine im_afterV (va_runV (As := [.int (45 : Int32)]) (rest := []) (C := RC_Model) ⟨hx, hb, hml, hown, hts⟩ (met_Model_putChar h6) ⟨(callB_of 1 hts (im_good wd_879) rfl rfl rfl (hts _ wd_10) (hts _ wd_876) (by decide +kernel) ⟨Nat.le_of_ble_eq_true rfl, Nat.le_of_ble_eq_true rfl⟩), hts _ wd_878, hts _ sl_Model_putChar⟩ (im_preV im_NW_ok hK hN hH (ci := 9) rfl rfl h4 _) rfl rfl hl.1 rfl (lv_room (Nat.le_of_ble_eq_true rfl)) d_Model_putTyped_3 ⟨Nat.le_of_ble_eq_true rfl, Nat.le_of_ble_eq_true rfl⟩) hH (fun H locs hH => ?_)
  refine lv_iload_n hx hb d_Model_putTyped_6 rfl (lv_at hl 1 rfl) ?_
  refine lv_istore_n (lv' := [(3, .int x1), (0, .ref (lo + x0)), (1, .int x1), (2, .int x2)]) hx hb d_Model_putTyped_7 rfl hl (by decide) rfl (fun ls hl => ?_)
  exact bk_Model_putTyped_8 X F x0 x2 x1 w5 hsh H locs ls hH (lv_sub hl [1, 3, 0] rfl)
theorem d_Model_before_0 : decode c_Model_before 0 = .ok (.iload_n 2, 1) := by decide +kernel
theorem d_Model_before_1 : decode c_Model_before 1 = .ok (.iload_n 1, 1) := by decide +kernel
theorem d_Model_before_2 : decode c_Model_before 2 = .ok (.isub, 1) := by decide +kernel
theorem d_Model_before_3 : decode c_Model_before 3 = .ok (.iload 4, 2) := by decide +kernel
theorem d_Model_before_5 : decode c_Model_before 5 = .ok (.iload_n 3, 1) := by decide +kernel
theorem d_Model_before_6 : decode c_Model_before 6 = .ok (.isub, 1) := by decide +kernel
theorem d_Model_before_7 : decode c_Model_before 7 = .ok (.if_icmp .ge (9), 3) := by decide +kernel
theorem d_Model_before_10 : decode c_Model_before 10 = .ok (.iload_n 2, 1) := by decide +kernel
theorem d_Model_before_11 : decode c_Model_before 11 = .ok (.iload_n 1, 1) := by decide +kernel
theorem d_Model_before_12 : decode c_Model_before 12 = .ok (.isub, 1) := by decide +kernel
theorem d_Model_before_13 : decode c_Model_before 13 = .ok (.goto (7), 3) := by decide +kernel
theorem d_Model_before_16 : decode c_Model_before 16 = .ok (.iload 4, 2) := by decide +kernel
theorem d_Model_before_18 : decode c_Model_before 18 = .ok (.iload_n 3, 1) := by decide +kernel
theorem d_Model_before_19 : decode c_Model_before 19 = .ok (.isub, 1) := by decide +kernel
theorem d_Model_before_20 : decode c_Model_before 20 = .ok (.istore 5, 2) := by decide +kernel
theorem d_Model_before_22 : decode c_Model_before 22 = .ok (.iconst 0, 1) := by decide +kernel
theorem d_Model_before_23 : decode c_Model_before 23 = .ok (.istore 6, 2) := by decide +kernel
theorem d_Model_before_25 : decode c_Model_before 25 = .ok (.iload 6, 2) := by decide +kernel
theorem d_Model_before_27 : decode c_Model_before 27 = .ok (.iload 5, 2) := by decide +kernel
theorem d_Model_before_29 : decode c_Model_before 29 = .ok (.if_icmp .ge (59), 3) := by decide +kernel
theorem d_Model_before_32 : decode c_Model_before 32 = .ok (.aload_n 0, 1) := by decide +kernel
theorem d_Model_before_33 : decode c_Model_before 33 = .ok (.aload_n 0, 1) := by decide +kernel
theorem d_Model_before_34 : decode c_Model_before 34 = .ok (.getfield 7, 3) := by decide +kernel
theorem d_Model_before_37 : decode c_Model_before 37 = .ok (.iload_n 1, 1) := by decide +kernel
theorem d_Model_before_38 : decode c_Model_before 38 = .ok (.iload 6, 2) := by decide +kernel
theorem d_Model_before_40 : decode c_Model_before 40 = .ok (.iadd, 1) := by decide +kernel
theorem d_Model_before_41 : decode c_Model_before 41 = .ok (.caload, 1) := by decide +kernel
theorem d_Model_before_42 : decode c_Model_before 42 = .ok (.invokevirtual 90, 3) := by decide +kernel
theorem d_Model_before_45 : decode c_Model_before 45 = .ok (.istore 7, 2) := by decide +kernel
theorem d_Model_before_47 : decode c_Model_before 47 = .ok (.aload_n 0, 1) := by decide +kernel
theorem d_Model_before_48 : decode c_Model_before 48 = .ok (.aload_n 0, 1) := by decide +kernel
theorem d_Model_before_49 : decode c_Model_before 49 = .ok (.getfield 7, 3) := by decide +kernel
theorem d_Model_before_52 : decode c_Model_before 52 = .ok (.iload_n 3, 1) := by decide +kernel
theorem d_Model_before_53 : decode c_Model_before 53 = .ok (.iload 6, 2) := by decide +kernel
theorem d_Model_before_55 : decode c_Model_before 55 = .ok (.iadd, 1) := by decide +kernel
theorem d_Model_before_56 : decode c_Model_before 56 = .ok (.caload, 1) := by decide +kernel
theorem d_Model_before_57 : decode c_Model_before 57 = .ok (.invokevirtual 90, 3) := by decide +kernel
theorem d_Model_before_60 : decode c_Model_before 60 = .ok (.istore 8, 2) := by decide +kernel
theorem d_Model_before_62 : decode c_Model_before 62 = .ok (.iload 7, 2) := by decide +kernel
theorem d_Model_before_64 : decode c_Model_before 64 = .ok (.iload 8, 2) := by decide +kernel
theorem d_Model_before_66 : decode c_Model_before 66 = .ok (.if_icmp .eq (16), 3) := by decide +kernel
theorem d_Model_before_69 : decode c_Model_before 69 = .ok (.iload 7, 2) := by decide +kernel
theorem d_Model_before_71 : decode c_Model_before 71 = .ok (.iload 8, 2) := by decide +kernel
theorem d_Model_before_73 : decode c_Model_before 73 = .ok (.if_icmp .ge (7), 3) := by decide +kernel
theorem d_Model_before_76 : decode c_Model_before 76 = .ok (.iconst 1, 1) := by decide +kernel
theorem d_Model_before_77 : decode c_Model_before 77 = .ok (.goto (4), 3) := by decide +kernel
theorem d_Model_before_80 : decode c_Model_before 80 = .ok (.iconst 0, 1) := by decide +kernel
theorem d_Model_before_81 : decode c_Model_before 81 = .ok (.ireturn, 1) := by decide +kernel
theorem d_Model_before_82 : decode c_Model_before 82 = .ok (.iinc 6 (1), 3) := by decide +kernel
theorem d_Model_before_85 : decode c_Model_before 85 = .ok (.goto (-60), 3) := by decide +kernel
theorem d_Model_before_88 : decode c_Model_before 88 = .ok (.iload_n 2, 1) := by decide +kernel
theorem d_Model_before_89 : decode c_Model_before 89 = .ok (.iload_n 1, 1) := by decide +kernel
theorem d_Model_before_90 : decode c_Model_before 90 = .ok (.isub, 1) := by decide +kernel
theorem d_Model_before_91 : decode c_Model_before 91 = .ok (.iload 4, 2) := by decide +kernel
theorem d_Model_before_93 : decode c_Model_before 93 = .ok (.iload_n 3, 1) := by decide +kernel
theorem d_Model_before_94 : decode c_Model_before 94 = .ok (.isub, 1) := by decide +kernel
theorem d_Model_before_95 : decode c_Model_before 95 = .ok (.if_icmp .ge (7), 3) := by decide +kernel
theorem d_Model_before_98 : decode c_Model_before 98 = .ok (.iconst 1, 1) := by decide +kernel
theorem d_Model_before_99 : decode c_Model_before 99 = .ok (.goto (4), 3) := by decide +kernel
theorem d_Model_before_102 : decode c_Model_before 102 = .ok (.iconst 0, 1) := by decide +kernel
theorem d_Model_before_103 : decode c_Model_before 103 = .ok (.ireturn, 1) := by decide +kernel
def sh_Model_before_81 (F : Nat) (y0 : Int32) (w : im_W) : Option (Int32 × im_W) :=
  im_rz y0 w
set_option maxHeartbeats 4000000 in
set_option maxRecDepth 100000 in
theorem bk_Model_before_81 {F : Nat} {r : Int32 × im_W} (X : im_X D vwCl tA lo im_NW c_Model_before 9 (some .boolean) RC_Model im_T p s m args meth c) (y0 : Int32) (w : im_W) (hsh : sh_Model_before_81 F y0 w = some r) : im_WW D vwCl tA lo 9 p l e (im_rm 1 21) s m args below meth c 0 0 (MQ below (im_Post D vwCl tA lo (some (.int r.1)) r.2) args s 0 0 (fun q => lo ≤ q)) 81 [] [.int y0] w := by
  obtain ⟨hx, hb, hr, hts, hown, hlk, hml, hK, hN⟩ := id X
  intro H locs ls hH hl
  unfold sh_Model_before_81 at hsh
  obtain ⟨rfl, hn⟩ := im_rz_s hsh
  exact im_zret hx hb hr hlk hn hH d_Model_before_81
def sh_Model_before_103 (F : Nat) (y0 : Int32) (w : im_W) : Option (Int32 × im_W) :=
  im_rz y0 w
set_option maxHeartbeats 4000000 in
set_option maxRecDepth 100000 in
theorem bk_Model_before_103 {F : Nat} {r : Int32 × im_W} (X : im_X D vwCl tA lo im_NW c_Model_before 9 (some .boolean) RC_Model im_T p s m args meth c) (y0 : Int32) (w : im_W) (hsh : sh_Model_before_103 F y0 w = some r) : im_WW D vwCl tA lo 9 p l e (im_rm 1 21) s m args below meth c 0 0 (MQ below (im_Post D vwCl tA lo (some (.int r.1)) r.2) args s 0 0 (fun q => lo ≤ q)) 103 [] [.int y0] w := by
  obtain ⟨hx, hb, hr, hts, hown, hlk, hml, hK, hN⟩ := id X
  intro H locs ls hH hl
  unfold sh_Model_before_103 at hsh
  obtain ⟨rfl, hn⟩ := im_rz_s hsh
  exact im_zret hx hb hr hlk hn hH d_Model_before_103
def sh_Model_before_25 (F : Nat) : Nat → Nat → Int32 → Int32 → Int32 → Int32 → Int32 → Int32 → im_W → Option (Int32 × im_W)
  | 0, _, _, _, _, _, _, _, _ => none
  | f + 1, x0, x1, x2, x3, x4, x5, x6, w => (if x5 ≤ x6 then (if (x4 - x3) ≤ (x2 - x1) then sh_Model_before_103 F (0 : Int32) w else sh_Model_before_103 F (1 : Int32) w) else (im_gR w 9 x0 1).bind fun f1 => (im_lI w 2 f1 (x1 + x6)).bind fun e3 => (im_is w 9 x0).bind fun u5 => im_b2 (sh_Model_small F x0 e3 w) fun v11 w9 => (im_gR w9 9 x0 1).bind fun f12 => (im_lI w9 2 f12 (x3 + x6)).bind fun e14 => (im_is w9 9 x0).bind fun u16 => im_b2 (sh_Model_small F x0 e14 w9) fun v22 w20 => (if v11 = v22 then (sh_Model_before_25 F f) x0 x1 x2 x3 x4 x5 (x6 + (1 : Int32)) w20 else (if v22 ≤ v11 then sh_Model_before_81 F (0 : Int32) w20 else sh_Model_before_81 F (1 : Int32) w20)))
set_option maxHeartbeats 4000000 in
set_option maxRecDepth 100000 in
theorem bk_Model_before_25 {F : Nat} {r : Int32 × im_W} (X : im_X D vwCl tA lo im_NW c_Model_before 9 (some .boolean) RC_Model im_T p s m args meth c) : ∀ (f : Nat) (x0 : Nat) (x1 : Int32) (x2 : Int32) (x3 : Int32) (x4 : Int32) (x5 : Int32) (x6 : Int32) (w : im_W), sh_Model_before_25 F f x0 x1 x2 x3 x4 x5 x6 w = some r → im_WW D vwCl tA lo 9 p l e (im_rm 1 21) s m args below meth c 0 0 (MQ below (im_Post D vwCl tA lo (some (.int r.1)) r.2) args s 0 0 (fun q => lo ≤ q)) 25 [(0, .ref (lo + x0)), (1, .int x1), (2, .int x2), (3, .int x3), (4, .int x4), (5, .int x5), (6, .int x6)] [] w := by
  obtain ⟨hx, hb, hr, hts, hown, hlk, hml, hK, hN⟩ := id X
  intro f
  induction f with
  | zero =>
    intro x0 x1 x2 x3 x4 x5 x6 w hsh
    cases hsh
  | succ f ih =>
    intro x0 x1 x2 x3 x4 x5 x6 w hsh H locs ls hH hl
    unfold sh_Model_before_25 at hsh
    refine lv_iload hx hb d_Model_before_25 (lv_at hl 6 rfl) ?_
    refine lv_iload hx hb d_Model_before_27 (lv_at hl 5 rfl) ?_
    refine lv_icmp_ge (tgt := 88) hx hb d_Model_before_29 (by decide) (fun cc => ?_) (fun cc => ?_)
    · have hsh := im_it hsh cc
      refine lv_iload_n hx hb d_Model_before_88 rfl (lv_at hl 2 rfl) ?_
      refine lv_iload_n hx hb d_Model_before_89 rfl (lv_at hl 1 rfl) ?_
      refine lv_isub hx hb d_Model_before_90 ?_
      refine lv_iload hx hb d_Model_before_91 (lv_at hl 4 rfl) ?_
      refine lv_iload_n hx hb d_Model_before_93 rfl (lv_at hl 3 rfl) ?_
      refine lv_isub hx hb d_Model_before_94 ?_
      refine lv_icmp_ge (tgt := 102) hx hb d_Model_before_95 (by decide) (fun cc => ?_) (fun cc => ?_)
      · have hsh := im_it hsh cc
        refine lv_iconst (v := 0) hx hb d_Model_before_102 (by decide) ?_
        exact bk_Model_before_103 X (0 : Int32) w hsh H locs ls hH (lv_sub hl [] rfl)
      · have hsh := im_if hsh cc
        refine lv_iconst (v := 1) hx hb d_Model_before_98 (by decide) ?_
        refine lv_goto (tgt := 103) hx hb d_Model_before_99 (by decide) ?_
        exact bk_Model_before_103 X (1 : Int32) w hsh H locs ls hH (lv_sub hl [] rfl)
    · have hsh := im_if hsh cc
      refine lv_aload_n hx hb d_Model_before_32 rfl (lv_at hl 0 rfl) ?_
      refine lv_aload_n hx hb d_Model_before_33 rfl (lv_at hl 0 rfl) ?_
      obtain ⟨f1, h2, hsh⟩ := im_bd hsh
      refine im_getR hx hb hts inC_Model hown hK hH (ci := 9) rfl 1 (by decide) (hts _ wd_632) rfl h2 d_Model_before_34 ?_
      refine lv_iload_n hx hb d_Model_before_37 rfl (lv_at hl 1 rfl) ?_
      refine lv_iload hx hb d_Model_before_38 (lv_at hl 6 rfl) ?_
      refine lv_iadd hx hb d_Model_before_40 ?_
      obtain ⟨e3, h4, hsh⟩ := im_bd hsh
      refine im_cald hx hb hK hH h4 d_Model_before_41 ?_
      obtain ⟨u5, h6, hsh⟩ := im_bd hsh
      obtain ⟨g7, h8⟩ := im_is_s h6
      obtain ⟨v11, w9, h10, hsh⟩ := im_bd2 hsh
      refine im_afterI (va_runV (As := [.int e3]) (rest := []) (C := RC_Model) ⟨hx, hb, hml, hown, hts⟩ (met_Model_small h10) ⟨(callB_of 1 hts (im_good wd_775) rfl rfl rfl (hts _ wd_10) (hts _ wd_772) (by decide +kernel) ⟨Nat.le_of_ble_eq_true rfl, Nat.le_of_ble_eq_true rfl⟩), hts _ wd_774, hts _ sl_Model_small⟩ (im_preV im_NW_ok hK hN hH (ci := 9) rfl rfl h8 _) rfl rfl hl.1 rfl (lv_room (Nat.le_of_ble_eq_true rfl)) d_Model_before_42 ⟨Nat.le_of_ble_eq_true rfl, Nat.le_of_ble_eq_true rfl⟩) hH (fun H locs hH => ?_)
      refine lv_istore (lv' := [(7, .int v11), (0, .ref (lo + x0)), (1, .int x1), (2, .int x2), (3, .int x3), (4, .int x4), (5, .int x5), (6, .int x6)]) hx hb d_Model_before_45 hl (by decide) rfl (fun ls hl => ?_)
      refine lv_aload_n hx hb d_Model_before_47 rfl (lv_at hl 1 rfl) ?_
      refine lv_aload_n hx hb d_Model_before_48 rfl (lv_at hl 1 rfl) ?_
      obtain ⟨f12, h13, hsh⟩ := im_bd hsh
      refine im_getR hx hb hts inC_Model hown hK hH (ci := 9) rfl 1 (by decide) (hts _ wd_632) rfl h13 d_Model_before_49 ?_
      refine lv_iload_n hx hb d_Model_before_52 rfl (lv_at hl 4 rfl) ?_
      refine lv_iload hx hb d_Model_before_53 (lv_at hl 7 rfl) ?_
      refine lv_iadd hx hb d_Model_before_55 ?_
      obtain ⟨e14, h15, hsh⟩ := im_bd hsh
      refine im_cald hx hb hK hH h15 d_Model_before_56 ?_
      obtain ⟨u16, h17, hsh⟩ := im_bd hsh
      obtain ⟨g18, h19⟩ := im_is_s h17
      obtain ⟨v22, w20, h21, hsh⟩ := im_bd2 hsh
      refine im_afterI (va_runV (As := [.int e14]) (rest := []) (C := RC_Model) ⟨hx, hb, hml, hown, hts⟩ (met_Model_small h21) ⟨(callB_of 1 hts (im_good wd_775) rfl rfl rfl (hts _ wd_10) (hts _ wd_772) (by decide +kernel) ⟨Nat.le_of_ble_eq_true rfl, Nat.le_of_ble_eq_true rfl⟩), hts _ wd_774, hts _ sl_Model_small⟩ (im_preV im_NW_ok hK hN hH (ci := 9) rfl rfl h19 _) rfl rfl hl.1 rfl (lv_room (Nat.le_of_ble_eq_true rfl)) d_Model_before_57 ⟨Nat.le_of_ble_eq_true rfl, Nat.le_of_ble_eq_true rfl⟩) hH (fun H locs hH => ?_)
      refine lv_istore (lv' := [(8, .int v22), (7, .int v11), (0, .ref (lo + x0)), (1, .int x1), (2, .int x2), (3, .int x3), (4, .int x4), (5, .int x5), (6, .int x6)]) hx hb d_Model_before_60 hl (by decide) rfl (fun ls hl => ?_)
      refine lv_iload hx hb d_Model_before_62 (lv_at hl 1 rfl) ?_
      refine lv_iload hx hb d_Model_before_64 (lv_at hl 0 rfl) ?_
      refine lv_icmp_eq (tgt := 82) hx hb d_Model_before_66 (by decide) (fun cc => ?_) (fun cc => ?_)
      · have hsh := im_it hsh cc
        refine lv_iinc (v := (x6 + (1 : Int32))) (lv' := [(6, .int (x6 + (1 : Int32))), (8, .int v22), (7, .int v11), (0, .ref (lo + x0)), (1, .int x1), (2, .int x2), (3, .int x3), (4, .int x4), (5, .int x5)]) hx hb d_Model_before_82 hl (k := 8) rfl rfl (by decide) rfl (fun ls hl => ?_)
        refine lv_goto (tgt := 25) hx hb d_Model_before_85 (by decide) ?_
        exact ih x0 x1 x2 x3 x4 x5 (x6 + (1 : Int32)) w20 hsh H locs ls hH (lv_sub hl [3, 4, 5, 6, 7, 8, 0] rfl)
      · have hsh := im_if hsh cc
        refine lv_iload hx hb d_Model_before_69 (lv_at hl 1 rfl) ?_
        refine lv_iload hx hb d_Model_before_71 (lv_at hl 0 rfl) ?_
        refine lv_icmp_ge (tgt := 80) hx hb d_Model_before_73 (by decide) (fun cc => ?_) (fun cc => ?_)
        · have hsh := im_it hsh cc
          refine lv_iconst (v := 0) hx hb d_Model_before_80 (by decide) ?_
          exact bk_Model_before_81 X (0 : Int32) w20 hsh H locs ls hH (lv_sub hl [] rfl)
        · have hsh := im_if hsh cc
          refine lv_iconst (v := 1) hx hb d_Model_before_76 (by decide) ?_
          refine lv_goto (tgt := 81) hx hb d_Model_before_77 (by decide) ?_
          exact bk_Model_before_81 X (1 : Int32) w20 hsh H locs ls hH (lv_sub hl [] rfl)
def sh_Model_before_20 (F : Nat) (x0 : Nat) (x1 : Int32) (x2 : Int32) (x3 : Int32) (x4 : Int32) (y0 : Int32) (w : im_W) : Option (Int32 × im_W) :=
  sh_Model_before_25 F F x0 x1 x2 x3 x4 y0 (0 : Int32) w
set_option maxHeartbeats 4000000 in
set_option maxRecDepth 100000 in
theorem bk_Model_before_20 {F : Nat} {r : Int32 × im_W} (X : im_X D vwCl tA lo im_NW c_Model_before 9 (some .boolean) RC_Model im_T p s m args meth c) (x0 : Nat) (x1 : Int32) (x2 : Int32) (x3 : Int32) (x4 : Int32) (y0 : Int32) (w : im_W) (hsh : sh_Model_before_20 F x0 x1 x2 x3 x4 y0 w = some r) : im_WW D vwCl tA lo 9 p l e (im_rm 1 21) s m args below meth c 0 0 (MQ below (im_Post D vwCl tA lo (some (.int r.1)) r.2) args s 0 0 (fun q => lo ≤ q)) 20 [(0, .ref (lo + x0)), (1, .int x1), (2, .int x2), (3, .int x3), (4, .int x4)] [.int y0] w := by
  obtain ⟨hx, hb, hr, hts, hown, hlk, hml, hK, hN⟩ := id X
  intro H locs ls hH hl
  unfold sh_Model_before_20 at hsh
  refine lv_istore (lv' := [(5, .int y0), (0, .ref (lo + x0)), (1, .int x1), (2, .int x2), (3, .int x3), (4, .int x4)]) hx hb d_Model_before_20 hl (by decide) rfl (fun ls hl => ?_)
  refine lv_iconst (v := 0) hx hb d_Model_before_22 (by decide) ?_
  refine lv_istore (lv' := [(6, .int (0 : Int32)), (5, .int y0), (0, .ref (lo + x0)), (1, .int x1), (2, .int x2), (3, .int x3), (4, .int x4)]) hx hb d_Model_before_23 hl (by decide) rfl (fun ls hl => ?_)
  exact bk_Model_before_25 X F x0 x1 x2 x3 x4 y0 (0 : Int32) w hsh H locs ls hH (lv_sub hl [2, 3, 4, 5, 6, 1, 0] rfl)
def sh_Model_before (F : Nat) (x0 : Nat) (x1 : Int32) (x2 : Int32) (x3 : Int32) (x4 : Int32) (w : im_W) : Option (Int32 × im_W) :=
  (if (x4 - x3) ≤ (x2 - x1) then sh_Model_before_20 F x0 x1 x2 x3 x4 (x4 - x3) w else sh_Model_before_20 F x0 x1 x2 x3 x4 (x2 - x1) w)
set_option maxHeartbeats 4000000 in
set_option maxRecDepth 100000 in
theorem met_Model_before {F : Nat} {x0 : Nat} {x1 : Int32} {x2 : Int32} {x3 : Int32} {x4 : Int32} {w : im_W} {r : Int32 × im_W} (hsh : sh_Model_before F x0 x1 x2 x3 x4 w = some r) : Met l y_Model_before (Cond.code y_Model_before c_Model_before 9 (some .boolean) :: im_T) (im_rm 1 21) (im_Pre D vwCl tA lo im_NW [.ref (lo + x0), .int x1, .int x2, .int x3, .int x4] w) (im_Post D vwCl tA lo (some (.int r.1)) r.2) 0 0 (fun q => lo ≤ q) := by
  refine im_ofW (cc := c_Model_before) (nL := 9) (ret := (some .boolean)) (by decide) (Nat.le_of_ble_eq_true rfl) ?_
  intro p e s m args below meth c X H locs ls hH hl
  obtain ⟨hx, hb, hr, hts, hown, hlk, hml, hK, hN⟩ := id X
  have hl : lv_has ls 9 [(0, .ref (lo + x0)), (1, .int x1), (2, .int x2), (3, .int x3), (4, .int x4)] := hl
  unfold sh_Model_before at hsh
  refine lv_iload_n hx hb d_Model_before_0 rfl (lv_at hl 2 rfl) ?_
  refine lv_iload_n hx hb d_Model_before_1 rfl (lv_at hl 1 rfl) ?_
  refine lv_isub hx hb d_Model_before_2 ?_
  refine lv_iload hx hb d_Model_before_3 (lv_at hl 4 rfl) ?_
  refine lv_iload_n hx hb d_Model_before_5 rfl (lv_at hl 3 rfl) ?_
  refine lv_isub hx hb d_Model_before_6 ?_
  refine lv_icmp_ge (tgt := 16) hx hb d_Model_before_7 (by decide) (fun cc => ?_) (fun cc => ?_)
  · have hsh := im_it hsh cc
    refine lv_iload hx hb d_Model_before_16 (lv_at hl 4 rfl) ?_
    refine lv_iload_n hx hb d_Model_before_18 rfl (lv_at hl 3 rfl) ?_
    refine lv_isub hx hb d_Model_before_19 ?_
    exact bk_Model_before_20 X x0 x1 x2 x3 x4 (x4 - x3) w hsh H locs ls hH (lv_sub hl [0, 1, 2, 3, 4] rfl)
  · have hsh := im_if hsh cc
    refine lv_iload_n hx hb d_Model_before_10 rfl (lv_at hl 2 rfl) ?_
    refine lv_iload_n hx hb d_Model_before_11 rfl (lv_at hl 1 rfl) ?_
    refine lv_isub hx hb d_Model_before_12 ?_
    refine lv_goto (tgt := 20) hx hb d_Model_before_13 (by decide) ?_
    exact bk_Model_before_20 X x0 x1 x2 x3 x4 (x2 - x1) w hsh H locs ls hH (lv_sub hl [0, 1, 2, 3, 4] rfl)
theorem wd_880 : (Jvm.Cond.methodLink "LanguageTagsModel" (199 : Nat) ({ cls := "LanguageTagsModel", name := "before", desc := "(IIII)Z" } : Jvm.MethodName)) ∈ im_T := im_memT (i := 880) (by decide +kernel) (by decide +kernel)
theorem wd_882 : (Jvm.Cond.instanceMethod ({ cls := "LanguageTagsModel", name := "before", desc := "(IIII)Z" } : Jvm.MethodName)) ∈ im_T := im_memT (i := 882) (by decide +kernel) (by decide +kernel)
theorem wd_883 : (Jvm.Cond.code ({ cls := "LanguageTagsModel", name := "before", desc := "(IIII)Z" } : Jvm.MethodName) prog_12_method_28_code (9 : Nat) (Option.some Jvm.ClassFile.FieldType.boolean)) ∈ im_T := im_memT (i := 883) (by decide +kernel) (by decide +kernel)
theorem wd_884 : (Jvm.Cond.methodLink "LanguageTagsModel" (202 : Nat) ({ cls := "LanguageTagsModel", name := "putTyped", desc := "(II)V" } : Jvm.MethodName)) ∈ im_T := im_memT (i := 884) (by decide +kernel) (by decide +kernel)
theorem wd_886 : (Jvm.Cond.instanceMethod ({ cls := "LanguageTagsModel", name := "putTyped", desc := "(II)V" } : Jvm.MethodName)) ∈ im_T := im_memT (i := 886) (by decide +kernel) (by decide +kernel)
theorem wd_887 : (Jvm.Cond.code ({ cls := "LanguageTagsModel", name := "putTyped", desc := "(II)V" } : Jvm.MethodName) prog_12_method_27_code (4 : Nat) (Option.none : Option Jvm.ClassFile.FieldType)) ∈ im_T := im_memT (i := 887) (by decide +kernel) (by decide +kernel)
theorem d_Model_makeKeywords_0 : decode c_Model_makeKeywords 0 = .ok (.iconst (-1), 1) := by decide +kernel
theorem d_Model_makeKeywords_1 : decode c_Model_makeKeywords 1 = .ok (.istore_n 1, 1) := by decide +kernel
theorem d_Model_makeKeywords_2 : decode c_Model_makeKeywords 2 = .ok (.iconst 0, 1) := by decide +kernel
theorem d_Model_makeKeywords_3 : decode c_Model_makeKeywords 3 = .ok (.istore_n 2, 1) := by decide +kernel
theorem d_Model_makeKeywords_4 : decode c_Model_makeKeywords 4 = .ok (.iload_n 2, 1) := by decide +kernel
theorem d_Model_makeKeywords_5 : decode c_Model_makeKeywords 5 = .ok (.aload_n 0, 1) := by decide +kernel
theorem d_Model_makeKeywords_6 : decode c_Model_makeKeywords 6 = .ok (.getfield 161, 3) := by decide +kernel
theorem d_Model_makeKeywords_9 : decode c_Model_makeKeywords 9 = .ok (.if_icmp .ge (254), 3) := by decide +kernel
theorem d_Model_makeKeywords_12 : decode c_Model_makeKeywords 12 = .ok (.iconst (-1), 1) := by decide +kernel
theorem d_Model_makeKeywords_13 : decode c_Model_makeKeywords 13 = .ok (.istore_n 3, 1) := by decide +kernel
theorem d_Model_makeKeywords_14 : decode c_Model_makeKeywords 14 = .ok (.iconst 0, 1) := by decide +kernel
theorem d_Model_makeKeywords_15 : decode c_Model_makeKeywords 15 = .ok (.istore 4, 2) := by decide +kernel
theorem d_Model_makeKeywords_17 : decode c_Model_makeKeywords 17 = .ok (.iload 4, 2) := by decide +kernel
theorem d_Model_makeKeywords_19 : decode c_Model_makeKeywords 19 = .ok (.aload_n 0, 1) := by decide +kernel
theorem d_Model_makeKeywords_20 : decode c_Model_makeKeywords 20 = .ok (.getfield 161, 3) := by decide +kernel
theorem d_Model_makeKeywords_23 : decode c_Model_makeKeywords 23 = .ok (.if_icmp .ge (106), 3) := by decide +kernel
theorem d_Model_makeKeywords_26 : decode c_Model_makeKeywords 26 = .ok (.iload_n 1, 1) := by decide +kernel
theorem d_Model_makeKeywords_27 : decode c_Model_makeKeywords 27 = .ok (.ifCond .lt (40), 3) := by decide +kernel
theorem d_Model_makeKeywords_30 : decode c_Model_makeKeywords 30 = .ok (.aload_n 0, 1) := by decide +kernel
theorem d_Model_makeKeywords_31 : decode c_Model_makeKeywords 31 = .ok (.aload_n 0, 1) := by decide +kernel
theorem d_Model_makeKeywords_32 : decode c_Model_makeKeywords 32 = .ok (.getfield 20, 3) := by decide +kernel
theorem d_Model_makeKeywords_35 : decode c_Model_makeKeywords 35 = .ok (.iload_n 1, 1) := by decide +kernel
theorem d_Model_makeKeywords_36 : decode c_Model_makeKeywords 36 = .ok (.iaload, 1) := by decide +kernel
theorem d_Model_makeKeywords_37 : decode c_Model_makeKeywords 37 = .ok (.aload_n 0, 1) := by decide +kernel
theorem d_Model_makeKeywords_38 : decode c_Model_makeKeywords 38 = .ok (.getfield 20, 3) := by decide +kernel
theorem d_Model_makeKeywords_41 : decode c_Model_makeKeywords 41 = .ok (.iload_n 1, 1) := by decide +kernel
theorem d_Model_makeKeywords_42 : decode c_Model_makeKeywords 42 = .ok (.iaload, 1) := by decide +kernel
theorem d_Model_makeKeywords_43 : decode c_Model_makeKeywords 43 = .ok (.iconst 2, 1) := by decide +kernel
theorem d_Model_makeKeywords_44 : decode c_Model_makeKeywords 44 = .ok (.iadd, 1) := by decide +kernel
theorem d_Model_makeKeywords_45 : decode c_Model_makeKeywords 45 = .ok (.aload_n 0, 1) := by decide +kernel
theorem d_Model_makeKeywords_46 : decode c_Model_makeKeywords 46 = .ok (.getfield 20, 3) := by decide +kernel
theorem d_Model_makeKeywords_49 : decode c_Model_makeKeywords 49 = .ok (.iload 4, 2) := by decide +kernel
theorem d_Model_makeKeywords_51 : decode c_Model_makeKeywords 51 = .ok (.iaload, 1) := by decide +kernel
theorem d_Model_makeKeywords_52 : decode c_Model_makeKeywords 52 = .ok (.aload_n 0, 1) := by decide +kernel
theorem d_Model_makeKeywords_53 : decode c_Model_makeKeywords 53 = .ok (.getfield 20, 3) := by decide +kernel
theorem d_Model_makeKeywords_56 : decode c_Model_makeKeywords 56 = .ok (.iload 4, 2) := by decide +kernel
theorem d_Model_makeKeywords_58 : decode c_Model_makeKeywords 58 = .ok (.iaload, 1) := by decide +kernel
theorem d_Model_makeKeywords_59 : decode c_Model_makeKeywords 59 = .ok (.iconst 2, 1) := by decide +kernel
theorem d_Model_makeKeywords_60 : decode c_Model_makeKeywords 60 = .ok (.iadd, 1) := by decide +kernel
theorem d_Model_makeKeywords_61 : decode c_Model_makeKeywords 61 = .ok (.invokevirtual 199, 3) := by decide +kernel
theorem d_Model_makeKeywords_64 : decode c_Model_makeKeywords 64 = .ok (.ifCond .eq (7), 3) := by decide +kernel
theorem d_Model_makeKeywords_67 : decode c_Model_makeKeywords 67 = .ok (.iconst 1, 1) := by decide +kernel
theorem d_Model_makeKeywords_68 : decode c_Model_makeKeywords 68 = .ok (.goto (4), 3) := by decide +kernel
theorem d_Model_makeKeywords_71 : decode c_Model_makeKeywords 71 = .ok (.iconst 0, 1) := by decide +kernel
theorem d_Model_makeKeywords_72 : decode c_Model_makeKeywords 72 = .ok (.istore 5, 2) := by decide +kernel
theorem d_Model_makeKeywords_74 : decode c_Model_makeKeywords 74 = .ok (.iload 5, 2) := by decide +kernel
theorem d_Model_makeKeywords_76 : decode c_Model_makeKeywords 76 = .ok (.ifCond .eq (47), 3) := by decide +kernel
theorem d_Model_makeKeywords_79 : decode c_Model_makeKeywords 79 = .ok (.iload_n 3, 1) := by decide +kernel
theorem d_Model_makeKeywords_80 : decode c_Model_makeKeywords 80 = .ok (.ifCond .lt (40), 3) := by decide +kernel
theorem d_Model_makeKeywords_83 : decode c_Model_makeKeywords 83 = .ok (.aload_n 0, 1) := by decide +kernel
theorem d_Model_makeKeywords_84 : decode c_Model_makeKeywords 84 = .ok (.aload_n 0, 1) := by decide +kernel
theorem d_Model_makeKeywords_85 : decode c_Model_makeKeywords 85 = .ok (.getfield 20, 3) := by decide +kernel
theorem d_Model_makeKeywords_88 : decode c_Model_makeKeywords 88 = .ok (.iload 4, 2) := by decide +kernel
theorem d_Model_makeKeywords_90 : decode c_Model_makeKeywords 90 = .ok (.iaload, 1) := by decide +kernel
theorem d_Model_makeKeywords_91 : decode c_Model_makeKeywords 91 = .ok (.aload_n 0, 1) := by decide +kernel
theorem d_Model_makeKeywords_92 : decode c_Model_makeKeywords 92 = .ok (.getfield 20, 3) := by decide +kernel
theorem d_Model_makeKeywords_95 : decode c_Model_makeKeywords 95 = .ok (.iload 4, 2) := by decide +kernel
theorem d_Model_makeKeywords_97 : decode c_Model_makeKeywords 97 = .ok (.iaload, 1) := by decide +kernel
theorem d_Model_makeKeywords_98 : decode c_Model_makeKeywords 98 = .ok (.iconst 2, 1) := by decide +kernel
theorem d_Model_makeKeywords_99 : decode c_Model_makeKeywords 99 = .ok (.iadd, 1) := by decide +kernel
theorem d_Model_makeKeywords_100 : decode c_Model_makeKeywords 100 = .ok (.aload_n 0, 1) := by decide +kernel
theorem d_Model_makeKeywords_101 : decode c_Model_makeKeywords 101 = .ok (.getfield 20, 3) := by decide +kernel
theorem d_Model_makeKeywords_104 : decode c_Model_makeKeywords 104 = .ok (.iload_n 3, 1) := by decide +kernel
theorem d_Model_makeKeywords_105 : decode c_Model_makeKeywords 105 = .ok (.iaload, 1) := by decide +kernel
theorem d_Model_makeKeywords_106 : decode c_Model_makeKeywords 106 = .ok (.aload_n 0, 1) := by decide +kernel
theorem d_Model_makeKeywords_107 : decode c_Model_makeKeywords 107 = .ok (.getfield 20, 3) := by decide +kernel
theorem d_Model_makeKeywords_110 : decode c_Model_makeKeywords 110 = .ok (.iload_n 3, 1) := by decide +kernel
theorem d_Model_makeKeywords_111 : decode c_Model_makeKeywords 111 = .ok (.iaload, 1) := by decide +kernel
theorem d_Model_makeKeywords_112 : decode c_Model_makeKeywords 112 = .ok (.iconst 2, 1) := by decide +kernel
theorem d_Model_makeKeywords_113 : decode c_Model_makeKeywords 113 = .ok (.iadd, 1) := by decide +kernel
theorem d_Model_makeKeywords_114 : decode c_Model_makeKeywords 114 = .ok (.invokevirtual 199, 3) := by decide +kernel
theorem d_Model_makeKeywords_117 : decode c_Model_makeKeywords 117 = .ok (.ifCond .eq (6), 3) := by decide +kernel
theorem d_Model_makeKeywords_120 : decode c_Model_makeKeywords 120 = .ok (.iload 4, 2) := by decide +kernel
theorem d_Model_makeKeywords_122 : decode c_Model_makeKeywords 122 = .ok (.istore_n 3, 1) := by decide +kernel
theorem d_Model_makeKeywords_123 : decode c_Model_makeKeywords 123 = .ok (.iinc 4 (1), 3) := by decide +kernel
theorem d_Model_makeKeywords_126 : decode c_Model_makeKeywords 126 = .ok (.goto (-109), 3) := by decide +kernel
theorem d_Model_makeKeywords_129 : decode c_Model_makeKeywords 129 = .ok (.aload_n 0, 1) := by decide +kernel
theorem d_Model_makeKeywords_130 : decode c_Model_makeKeywords 130 = .ok (.getfield 20, 3) := by decide +kernel
theorem d_Model_makeKeywords_133 : decode c_Model_makeKeywords 133 = .ok (.iload_n 3, 1) := by decide +kernel
theorem d_Model_makeKeywords_134 : decode c_Model_makeKeywords 134 = .ok (.iaload, 1) := by decide +kernel
theorem d_Model_makeKeywords_135 : decode c_Model_makeKeywords 135 = .ok (.istore 4, 2) := by decide +kernel
theorem d_Model_makeKeywords_137 : decode c_Model_makeKeywords 137 = .ok (.aload_n 0, 1) := by decide +kernel
theorem d_Model_makeKeywords_138 : decode c_Model_makeKeywords 138 = .ok (.getfield 23, 3) := by decide +kernel
theorem d_Model_makeKeywords_141 : decode c_Model_makeKeywords 141 = .ok (.iload_n 3, 1) := by decide +kernel
theorem d_Model_makeKeywords_142 : decode c_Model_makeKeywords 142 = .ok (.iaload, 1) := by decide +kernel
theorem d_Model_makeKeywords_143 : decode c_Model_makeKeywords 143 = .ok (.iload 4, 2) := by decide +kernel
theorem d_Model_makeKeywords_145 : decode c_Model_makeKeywords 145 = .ok (.bipush (7), 2) := by decide +kernel
theorem d_Model_makeKeywords_147 : decode c_Model_makeKeywords 147 = .ok (.iadd, 1) := by decide +kernel
theorem d_Model_makeKeywords_148 : decode c_Model_makeKeywords 148 = .ok (.if_icmp .ne (80), 3) := by decide +kernel
theorem d_Model_makeKeywords_151 : decode c_Model_makeKeywords 151 = .ok (.aload_n 0, 1) := by decide +kernel
theorem d_Model_makeKeywords_152 : decode c_Model_makeKeywords 152 = .ok (.aload_n 0, 1) := by decide +kernel
theorem d_Model_makeKeywords_153 : decode c_Model_makeKeywords 153 = .ok (.getfield 7, 3) := by decide +kernel
theorem d_Model_makeKeywords_156 : decode c_Model_makeKeywords 156 = .ok (.iload 4, 2) := by decide +kernel
theorem d_Model_makeKeywords_158 : decode c_Model_makeKeywords 158 = .ok (.iconst 3, 1) := by decide +kernel
theorem d_Model_makeKeywords_159 : decode c_Model_makeKeywords 159 = .ok (.iadd, 1) := by decide +kernel
theorem d_Model_makeKeywords_160 : decode c_Model_makeKeywords 160 = .ok (.caload, 1) := by decide +kernel
theorem d_Model_makeKeywords_161 : decode c_Model_makeKeywords 161 = .ok (.invokevirtual 90, 3) := by decide +kernel
theorem d_Model_makeKeywords_164 : decode c_Model_makeKeywords 164 = .ok (.bipush (116), 2) := by decide +kernel
theorem d_Model_makeKeywords_166 : decode c_Model_makeKeywords 166 = .ok (.if_icmp .ne (62), 3) := by decide +kernel
theorem d_Model_makeKeywords_169 : decode c_Model_makeKeywords 169 = .ok (.aload_n 0, 1) := by decide +kernel
theorem d_Model_makeKeywords_170 : decode c_Model_makeKeywords 170 = .ok (.aload_n 0, 1) := by decide +kernel
theorem d_Model_makeKeywords_171 : decode c_Model_makeKeywords 171 = .ok (.getfield 7, 3) := by decide +kernel
theorem d_Model_makeKeywords_174 : decode c_Model_makeKeywords 174 = .ok (.iload 4, 2) := by decide +kernel
theorem d_Model_makeKeywords_176 : decode c_Model_makeKeywords 176 = .ok (.iconst 4, 1) := by decide +kernel
theorem d_Model_makeKeywords_177 : decode c_Model_makeKeywords 177 = .ok (.iadd, 1) := by decide +kernel
theorem d_Model_makeKeywords_178 : decode c_Model_makeKeywords 178 = .ok (.caload, 1) := by decide +kernel
theorem d_Model_makeKeywords_179 : decode c_Model_makeKeywords 179 = .ok (.invokevirtual 90, 3) := by decide +kernel
theorem d_Model_makeKeywords_182 : decode c_Model_makeKeywords 182 = .ok (.bipush (114), 2) := by decide +kernel
theorem d_Model_makeKeywords_184 : decode c_Model_makeKeywords 184 = .ok (.if_icmp .ne (44), 3) := by decide +kernel
theorem d_Model_makeKeywords_187 : decode c_Model_makeKeywords 187 = .ok (.aload_n 0, 1) := by decide +kernel
theorem d_Model_makeKeywords_188 : decode c_Model_makeKeywords 188 = .ok (.aload_n 0, 1) := by decide +kernel
theorem d_Model_makeKeywords_189 : decode c_Model_makeKeywords 189 = .ok (.getfield 7, 3) := by decide +kernel
theorem d_Model_makeKeywords_192 : decode c_Model_makeKeywords 192 = .ok (.iload 4, 2) := by decide +kernel
theorem d_Model_makeKeywords_194 : decode c_Model_makeKeywords 194 = .ok (.iconst 5, 1) := by decide +kernel
theorem d_Model_makeKeywords_195 : decode c_Model_makeKeywords 195 = .ok (.iadd, 1) := by decide +kernel
theorem d_Model_makeKeywords_196 : decode c_Model_makeKeywords 196 = .ok (.caload, 1) := by decide +kernel
theorem d_Model_makeKeywords_197 : decode c_Model_makeKeywords 197 = .ok (.invokevirtual 90, 3) := by decide +kernel
theorem d_Model_makeKeywords_200 : decode c_Model_makeKeywords 200 = .ok (.bipush (117), 2) := by decide +kernel
theorem d_Model_makeKeywords_202 : decode c_Model_makeKeywords 202 = .ok (.if_icmp .ne (26), 3) := by decide +kernel
theorem d_Model_makeKeywords_205 : decode c_Model_makeKeywords 205 = .ok (.aload_n 0, 1) := by decide +kernel
theorem d_Model_makeKeywords_206 : decode c_Model_makeKeywords 206 = .ok (.aload_n 0, 1) := by decide +kernel
theorem d_Model_makeKeywords_207 : decode c_Model_makeKeywords 207 = .ok (.getfield 7, 3) := by decide +kernel
theorem d_Model_makeKeywords_210 : decode c_Model_makeKeywords 210 = .ok (.iload 4, 2) := by decide +kernel
theorem d_Model_makeKeywords_212 : decode c_Model_makeKeywords 212 = .ok (.bipush (6), 2) := by decide +kernel
theorem d_Model_makeKeywords_214 : decode c_Model_makeKeywords 214 = .ok (.iadd, 1) := by decide +kernel
theorem d_Model_makeKeywords_215 : decode c_Model_makeKeywords 215 = .ok (.caload, 1) := by decide +kernel
theorem d_Model_makeKeywords_216 : decode c_Model_makeKeywords 216 = .ok (.invokevirtual 90, 3) := by decide +kernel
theorem d_Model_makeKeywords_219 : decode c_Model_makeKeywords 219 = .ok (.bipush (101), 2) := by decide +kernel
theorem d_Model_makeKeywords_221 : decode c_Model_makeKeywords 221 = .ok (.if_icmp .ne (7), 3) := by decide +kernel
theorem d_Model_makeKeywords_224 : decode c_Model_makeKeywords 224 = .ok (.iconst 1, 1) := by decide +kernel
theorem d_Model_makeKeywords_225 : decode c_Model_makeKeywords 225 = .ok (.goto (4), 3) := by decide +kernel
theorem d_Model_makeKeywords_228 : decode c_Model_makeKeywords 228 = .ok (.iconst 0, 1) := by decide +kernel
theorem d_Model_makeKeywords_229 : decode c_Model_makeKeywords 229 = .ok (.istore 5, 2) := by decide +kernel
theorem d_Model_makeKeywords_231 : decode c_Model_makeKeywords 231 = .ok (.aload_n 0, 1) := by decide +kernel
theorem d_Model_makeKeywords_232 : decode c_Model_makeKeywords 232 = .ok (.iload 4, 2) := by decide +kernel
theorem d_Model_makeKeywords_234 : decode c_Model_makeKeywords 234 = .ok (.iload 5, 2) := by decide +kernel
theorem d_Model_makeKeywords_236 : decode c_Model_makeKeywords 236 = .ok (.ifCond .eq (10), 3) := by decide +kernel
theorem d_Model_makeKeywords_239 : decode c_Model_makeKeywords 239 = .ok (.iload 4, 2) := by decide +kernel
theorem d_Model_makeKeywords_241 : decode c_Model_makeKeywords 241 = .ok (.iconst 2, 1) := by decide +kernel
theorem d_Model_makeKeywords_242 : decode c_Model_makeKeywords 242 = .ok (.iadd, 1) := by decide +kernel
theorem d_Model_makeKeywords_243 : decode c_Model_makeKeywords 243 = .ok (.goto (9), 3) := by decide +kernel
theorem d_Model_makeKeywords_246 : decode c_Model_makeKeywords 246 = .ok (.aload_n 0, 1) := by decide +kernel
theorem d_Model_makeKeywords_247 : decode c_Model_makeKeywords 247 = .ok (.getfield 23, 3) := by decide +kernel
theorem d_Model_makeKeywords_250 : decode c_Model_makeKeywords 250 = .ok (.iload_n 3, 1) := by decide +kernel
theorem d_Model_makeKeywords_251 : decode c_Model_makeKeywords 251 = .ok (.iaload, 1) := by decide +kernel
theorem d_Model_makeKeywords_252 : decode c_Model_makeKeywords 252 = .ok (.invokevirtual 202, 3) := by decide +kernel
theorem d_Model_makeKeywords_255 : decode c_Model_makeKeywords 255 = .ok (.iload_n 3, 1) := by decide +kernel
theorem d_Model_makeKeywords_256 : decode c_Model_makeKeywords 256 = .ok (.istore_n 1, 1) := by decide +kernel
theorem d_Model_makeKeywords_257 : decode c_Model_makeKeywords 257 = .ok (.iinc 2 (1), 3) := by decide +kernel
theorem d_Model_makeKeywords_260 : decode c_Model_makeKeywords 260 = .ok (.goto (-256), 3) := by decide +kernel
theorem d_Model_makeKeywords_263 : decode c_Model_makeKeywords 263 = .ok (.return_, 1) := by decide +kernel
def sh_Model_makeKeywords_123 (F : Nat) (k4 : Nat → Int32 → Int32 → im_W → Option (im_W)) (k17 : Nat → Int32 → Int32 → Int32 → Int32 → im_W → Option (im_W)) (x0 : Nat) (x1 : Int32) (x2 : Int32) (x3 : Int32) (x4 : Int32) (w : im_W) : Option (im_W) :=
  k17 x0 x1 x2 x3 (x4 + (1 : Int32)) w
set_option maxHeartbeats 4000000 in
set_option maxRecDepth 100000 in
theorem bk_Model_makeKeywords_123 {F : Nat} {r : im_W} (X : im_X D vwCl tA lo im_NW c_Model_makeKeywords 6 none RC_Model im_T p s m args meth c) {k4 : Nat → Int32 → Int32 → im_W → Option (im_W)} (hk4 : ∀ (x0 : Nat) (x1 : Int32) (x2 : Int32) (w : im_W), k4 x0 x1 x2 w = some r → im_WW D vwCl tA lo 6 p l e (im_rm 2 49) s m args below meth c 0 0 (MQ below (im_Post D vwCl tA lo none r) args s 0 0 (fun q => lo ≤ q)) 4 [(0, .ref (lo + x0)), (1, .int x1), (2, .int x2)] [] w) {k17 : Nat → Int32 → Int32 → Int32 → Int32 → im_W → Option (im_W)} (hk17 : ∀ (x0 : Nat) (x1 : Int32) (x2 : Int32) (x3 : Int32) (x4 : Int32) (w : im_W), k17 x0 x1 x2 x3 x4 w = some r → im_WW D vwCl tA lo 6 p l e (im_rm 2 49) s m args below meth c 0 0 (MQ below (im_Post D vwCl tA lo none r) args s 0 0 (fun q => lo ≤ q)) 17 [(0, .ref (lo + x0)), (1, .int x1), (2, .int x2), (3, .int x3), (4, .int x4)] [] w) (x0 : Nat) (x1 : Int32) (x2 : Int32) (x3 : Int32) (x4 : Int32) (w : im_W) (hsh : sh_Model_makeKeywords_123 F k4 k17 x0 x1 x2 x3 x4 w = some r) : im_WW D vwCl tA lo 6 p l e (im_rm 2 49) s m args below meth c 0 0 (MQ below (im_Post D vwCl tA lo none r) args s 0 0 (fun q => lo ≤ q)) 123 [(0, .ref (lo + x0)), (1, .int x1), (2, .int x2), (3, .int x3), (4, .int x4)] [] w := by
  obtain ⟨hx, hb, hr, hts, hown, hlk, hml, hK, hN⟩ := id X
  intro H locs ls hH hl
  unfold sh_Model_makeKeywords_123 at hsh
  refine lv_iinc (v := (x4 + (1 : Int32))) (lv' := [(4, .int (x4 + (1 : Int32))), (0, .ref (lo + x0)), (1, .int x1), (2, .int x2), (3, .int x3)]) hx hb d_Model_makeKeywords_123 hl (k := 4) rfl rfl (by decide) rfl (fun ls hl => ?_)
  refine lv_goto (tgt := 17) hx hb d_Model_makeKeywords_126 (by decide) ?_
  exact hk17 x0 x1 x2 x3 (x4 + (1 : Int32)) w hsh H locs ls hH (lv_sub hl [1, 2, 3, 4, 0] rfl)
def sh_Model_makeKeywords_120 (F : Nat) (k4 : Nat → Int32 → Int32 → im_W → Option (im_W)) (k17 : Nat → Int32 → Int32 → Int32 → Int32 → im_W → Option (im_W)) (x0 : Nat) (x1 : Int32) (x2 : Int32) (x4 : Int32) (w : im_W) : Option (im_W) :=
  sh_Model_makeKeywords_123 F k4 k17 x0 x1 x2 x4 x4 w
set_option maxHeartbeats 4000000 in
set_option maxRecDepth 100000 in
theorem bk_Model_makeKeywords_120 {F : Nat} {r : im_W} (X : im_X D vwCl tA lo im_NW c_Model_makeKeywords 6 none RC_Model im_T p s m args meth c) {k4 : Nat → Int32 → Int32 → im_W → Option (im_W)} (hk4 : ∀ (x0 : Nat) (x1 : Int32) (x2 : Int32) (w : im_W), k4 x0 x1 x2 w = some r → im_WW D vwCl tA lo 6 p l e (im_rm 2 49) s m args below meth c 0 0 (MQ below (im_Post D vwCl tA lo none r) args s 0 0 (fun q => lo ≤ q)) 4 [(0, .ref (lo + x0)), (1, .int x1), (2, .int x2)] [] w) {k17 : Nat → Int32 → Int32 → Int32 → Int32 → im_W → Option (im_W)} (hk17 : ∀ (x0 : Nat) (x1 : Int32) (x2 : Int32) (x3 : Int32) (x4 : Int32) (w : im_W), k17 x0 x1 x2 x3 x4 w = some r → im_WW D vwCl tA lo 6 p l e (im_rm 2 49) s m args below meth c 0 0 (MQ below (im_Post D vwCl tA lo none r) args s 0 0 (fun q => lo ≤ q)) 17 [(0, .ref (lo + x0)), (1, .int x1), (2, .int x2), (3, .int x3), (4, .int x4)] [] w) (x0 : Nat) (x1 : Int32) (x2 : Int32) (x4 : Int32) (w : im_W) (hsh : sh_Model_makeKeywords_120 F k4 k17 x0 x1 x2 x4 w = some r) : im_WW D vwCl tA lo 6 p l e (im_rm 2 49) s m args below meth c 0 0 (MQ below (im_Post D vwCl tA lo none r) args s 0 0 (fun q => lo ≤ q)) 120 [(0, .ref (lo + x0)), (1, .int x1), (2, .int x2), (4, .int x4)] [] w := by
  obtain ⟨hx, hb, hr, hts, hown, hlk, hml, hK, hN⟩ := id X
  intro H locs ls hH hl
  unfold sh_Model_makeKeywords_120 at hsh
  refine lv_iload hx hb d_Model_makeKeywords_120 (lv_at hl 3 rfl) ?_
  refine lv_istore_n (lv' := [(3, .int x4), (0, .ref (lo + x0)), (1, .int x1), (2, .int x2), (4, .int x4)]) hx hb d_Model_makeKeywords_122 rfl hl (by decide) rfl (fun ls hl => ?_)
  exact bk_Model_makeKeywords_123 X hk4 hk17 x0 x1 x2 x4 x4 w hsh H locs ls hH (lv_sub hl [1, 2, 3, 0, 4] rfl)
def sh_Model_makeKeywords_72 (F : Nat) (k4 : Nat → Int32 → Int32 → im_W → Option (im_W)) (k17 : Nat → Int32 → Int32 → Int32 → Int32 → im_W → Option (im_W)) (x0 : Nat) (x1 : Int32) (x2 : Int32) (x3 : Int32) (x4 : Int32) (y0 : Int32) (w : im_W) : Option (im_W) :=
  (if y0 = 0 then sh_Model_makeKeywords_123 F k4 k17 x0 x1 x2 x3 x4 w else (if x3 < 0 then sh_Model_makeKeywords_120 F k4 k17 x0 x1 x2 x4 w else (im_gR w 9 x0 9).bind fun f1 => (im_lI w 0 f1 x4).bind fun e3 => (im_gR w 9 x0 9).bind fun f5 => (im_lI w 0 f5 x4).bind fun e7 => (im_gR w 9 x0 9).bind fun f9 => (im_lI w 0 f9 x3).bind fun e11 => (im_gR w 9 x0 9).bind fun f13 => (im_lI w 0 f13 x3).bind fun e15 => (im_is w 9 x0).bind fun u17 => im_b2 (sh_Model_before F x0 e3 (e7 + (2 : Int32)) e11 (e15 + (2 : Int32)) w) fun v23 w21 => (if v23 = 0 then sh_Model_makeKeywords_123 F k4 k17 x0 x1 x2 x3 x4 w21 else sh_Model_makeKeywords_120 F k4 k17 x0 x1 x2 x4 w21)))
set_option maxHeartbeats 4000000 in
set_option maxRecDepth 100000 in
theorem bk_Model_makeKeywords_72 {F : Nat} {r : im_W} (X : im_X D vwCl tA lo im_NW c_Model_makeKeywords 6 none RC_Model im_T p s m args meth c) {k4 : Nat → Int32 → Int32 → im_W → Option (im_W)} (hk4 : ∀ (x0 : Nat) (x1 : Int32) (x2 : Int32) (w : im_W), k4 x0 x1 x2 w = some r → im_WW D vwCl tA lo 6 p l e (im_rm 2 49) s m args below meth c 0 0 (MQ below (im_Post D vwCl tA lo none r) args s 0 0 (fun q => lo ≤ q)) 4 [(0, .ref (lo + x0)), (1, .int x1), (2, .int x2)] [] w) {k17 : Nat → Int32 → Int32 → Int32 → Int32 → im_W → Option (im_W)} (hk17 : ∀ (x0 : Nat) (x1 : Int32) (x2 : Int32) (x3 : Int32) (x4 : Int32) (w : im_W), k17 x0 x1 x2 x3 x4 w = some r → im_WW D vwCl tA lo 6 p l e (im_rm 2 49) s m args below meth c 0 0 (MQ below (im_Post D vwCl tA lo none r) args s 0 0 (fun q => lo ≤ q)) 17 [(0, .ref (lo + x0)), (1, .int x1), (2, .int x2), (3, .int x3), (4, .int x4)] [] w) (x0 : Nat) (x1 : Int32) (x2 : Int32) (x3 : Int32) (x4 : Int32) (y0 : Int32) (w : im_W) (hsh : sh_Model_makeKeywords_72 F k4 k17 x0 x1 x2 x3 x4 y0 w = some r) : im_WW D vwCl tA lo 6 p l e (im_rm 2 49) s m args below meth c 0 0 (MQ below (im_Post D vwCl tA lo none r) args s 0 0 (fun q => lo ≤ q)) 72 [(0, .ref (lo + x0)), (1, .int x1), (2, .int x2), (3, .int x3), (4, .int x4)] [.int y0] w := by
  obtain ⟨hx, hb, hr, hts, hown, hlk, hml, hK, hN⟩ := id X
  intro H locs ls hH hl
  unfold sh_Model_makeKeywords_72 at hsh
  refine lv_istore (lv' := [(5, .int y0), (0, .ref (lo + x0)), (1, .int x1), (2, .int x2), (3, .int x3), (4, .int x4)]) hx hb d_Model_makeKeywords_72 hl (by decide) rfl (fun ls hl => ?_)
  refine lv_iload hx hb d_Model_makeKeywords_74 (lv_at hl 0 rfl) ?_
  refine lv_if_eq (tgt := 123) hx hb d_Model_makeKeywords_76 (by decide) (fun cc => ?_) (fun cc => ?_)
  · have hsh := im_it hsh cc
    exact bk_Model_makeKeywords_123 X hk4 hk17 x0 x1 x2 x3 x4 w hsh H locs ls hH (lv_sub hl [1, 2, 3, 4, 5] rfl)
  · have hsh := im_if hsh cc
    refine lv_iload_n hx hb d_Model_makeKeywords_79 rfl (lv_at hl 4 rfl) ?_
    refine lv_if_lt (tgt := 120) hx hb d_Model_makeKeywords_80 (by decide) (fun cc => ?_) (fun cc => ?_)
    · have hsh := im_it hsh cc
      exact bk_Model_makeKeywords_120 X hk4 hk17 x0 x1 x2 x4 w hsh H locs ls hH (lv_sub hl [1, 2, 3, 5] rfl)
    · have hsh := im_if hsh cc
      refine lv_aload_n hx hb d_Model_makeKeywords_83 rfl (lv_at hl 1 rfl) ?_
      refine lv_aload_n hx hb d_Model_makeKeywords_84 rfl (lv_at hl 1 rfl) ?_
      obtain ⟨f1, h2, hsh⟩ := im_bd hsh
      refine im_getR hx hb hts inC_Model hown hK hH (ci := 9) rfl 9 (by decide) (hts _ wd_640) rfl h2 d_Model_makeKeywords_85 ?_
      refine lv_iload hx hb d_Model_makeKeywords_88 (lv_at hl 5 rfl) ?_
      obtain ⟨e3, h4, hsh⟩ := im_bd hsh
      refine im_iald hx hb hK hH h4 d_Model_makeKeywords_90 ?_
      refine lv_aload_n hx hb d_Model_makeKeywords_91 rfl (lv_at hl 1 rfl) ?_
      obtain ⟨f5, h6, hsh⟩ := im_bd hsh
      refine im_getR hx hb hts inC_Model hown hK hH (ci := 9) rfl 9 (by decide) (hts _ wd_640) rfl h6 d_Model_makeKeywords_92 ?_
      refine lv_iload hx hb d_Model_makeKeywords_95 (lv_at hl 5 rfl) ?_
      obtain ⟨e7, h8, hsh⟩ := im_bd hsh
      refine im_iald hx hb hK hH h8 d_Model_makeKeywords_97 ?_
      refine lv_iconst (v := 2) hx hb d_Model_makeKeywords_98 (by decide) ?_
      refine lv_iadd hx hb d_Model_makeKeywords_99 ?_
      refine lv_aload_n hx hb d_Model_makeKeywords_100 rfl (lv_at hl 1 rfl) ?_
      obtain ⟨f9, h10, hsh⟩ := im_bd hsh
      refine im_getR hx hb hts inC_Model hown hK hH (ci := 9) rfl 9 (by decide) (hts _ wd_640) rfl h10 d_Model_makeKeywords_101 ?_
      refine lv_iload_n hx hb d_Model_makeKeywords_104 rfl (lv_at hl 4 rfl) ?_
      obtain ⟨e11, h12, hsh⟩ := im_bd hsh
      refine im_iald hx hb hK hH h12 d_Model_makeKeywords_105 ?_
      refine lv_aload_n hx hb d_Model_makeKeywords_106 rfl (lv_at hl 1 rfl) ?_
      obtain ⟨f13, h14, hsh⟩ := im_bd hsh
      refine im_getR hx hb hts inC_Model hown hK hH (ci := 9) rfl 9 (by decide) (hts _ wd_640) rfl h14 d_Model_makeKeywords_107 ?_
      refine lv_iload_n hx hb d_Model_makeKeywords_110 rfl (lv_at hl 4 rfl) ?_
      obtain ⟨e15, h16, hsh⟩ := im_bd hsh
      refine im_iald hx hb hK hH h16 d_Model_makeKeywords_111 ?_
      refine lv_iconst (v := 2) hx hb d_Model_makeKeywords_112 (by decide) ?_
      refine lv_iadd hx hb d_Model_makeKeywords_113 ?_
      obtain ⟨u17, h18, hsh⟩ := im_bd hsh
      obtain ⟨g19, h20⟩ := im_is_s h18
      obtain ⟨v23, w21, h22, hsh⟩ := im_bd2 hsh
      refine im_afterI (va_runV (As := [.int e3, .int (e7 + (2 : Int32)), .int e11, .int (e15 + (2 : Int32))]) (rest := []) (C := RC_Model) ⟨hx, hb, hml, hown, hts⟩ (met_Model_before h22) ⟨(callB_of 4 hts (im_good wd_883) rfl rfl rfl (hts _ wd_10) (hts _ wd_880) (by decide +kernel) ⟨Nat.le_of_ble_eq_true rfl, Nat.le_of_ble_eq_true rfl⟩), hts _ wd_882, hts _ sl_Model_before⟩ (im_preV im_NW_ok hK hN hH (ci := 9) rfl rfl h20 _) rfl rfl hl.1 rfl (lv_room (Nat.le_of_ble_eq_true rfl)) d_Model_makeKeywords_114 ⟨Nat.le_of_ble_eq_true rfl, Nat.le_of_ble_eq_true rfl⟩) hH (fun H locs hH => ?_)
      refine lv_if_eq (tgt := 123) hx hb d_Model_makeKeywords_117 (by decide) (fun cc => ?_) (fun cc => ?_)
      · have hsh := im_it hsh cc
        exact bk_Model_makeKeywords_123 X hk4 hk17 x0 x1 x2 x3 x4 w21 hsh H locs ls hH (lv_sub hl [1, 2, 3, 4, 5] rfl)
      · have hsh := im_if hsh cc
        exact bk_Model_makeKeywords_120 X hk4 hk17 x0 x1 x2 x4 w21 hsh H locs ls hH (lv_sub hl [1, 2, 3, 5] rfl)
def sh_Model_makeKeywords_67 (F : Nat) (k4 : Nat → Int32 → Int32 → im_W → Option (im_W)) (k17 : Nat → Int32 → Int32 → Int32 → Int32 → im_W → Option (im_W)) (x0 : Nat) (x1 : Int32) (x2 : Int32) (x3 : Int32) (x4 : Int32) (w : im_W) : Option (im_W) :=
  sh_Model_makeKeywords_72 F k4 k17 x0 x1 x2 x3 x4 (1 : Int32) w
set_option maxHeartbeats 4000000 in
set_option maxRecDepth 100000 in
theorem bk_Model_makeKeywords_67 {F : Nat} {r : im_W} (X : im_X D vwCl tA lo im_NW c_Model_makeKeywords 6 none RC_Model im_T p s m args meth c) {k4 : Nat → Int32 → Int32 → im_W → Option (im_W)} (hk4 : ∀ (x0 : Nat) (x1 : Int32) (x2 : Int32) (w : im_W), k4 x0 x1 x2 w = some r → im_WW D vwCl tA lo 6 p l e (im_rm 2 49) s m args below meth c 0 0 (MQ below (im_Post D vwCl tA lo none r) args s 0 0 (fun q => lo ≤ q)) 4 [(0, .ref (lo + x0)), (1, .int x1), (2, .int x2)] [] w) {k17 : Nat → Int32 → Int32 → Int32 → Int32 → im_W → Option (im_W)} (hk17 : ∀ (x0 : Nat) (x1 : Int32) (x2 : Int32) (x3 : Int32) (x4 : Int32) (w : im_W), k17 x0 x1 x2 x3 x4 w = some r → im_WW D vwCl tA lo 6 p l e (im_rm 2 49) s m args below meth c 0 0 (MQ below (im_Post D vwCl tA lo none r) args s 0 0 (fun q => lo ≤ q)) 17 [(0, .ref (lo + x0)), (1, .int x1), (2, .int x2), (3, .int x3), (4, .int x4)] [] w) (x0 : Nat) (x1 : Int32) (x2 : Int32) (x3 : Int32) (x4 : Int32) (w : im_W) (hsh : sh_Model_makeKeywords_67 F k4 k17 x0 x1 x2 x3 x4 w = some r) : im_WW D vwCl tA lo 6 p l e (im_rm 2 49) s m args below meth c 0 0 (MQ below (im_Post D vwCl tA lo none r) args s 0 0 (fun q => lo ≤ q)) 67 [(0, .ref (lo + x0)), (1, .int x1), (2, .int x2), (3, .int x3), (4, .int x4)] [] w := by
  obtain ⟨hx, hb, hr, hts, hown, hlk, hml, hK, hN⟩ := id X
  intro H locs ls hH hl
  unfold sh_Model_makeKeywords_67 at hsh
  refine lv_iconst (v := 1) hx hb d_Model_makeKeywords_67 (by decide) ?_
  refine lv_goto (tgt := 72) hx hb d_Model_makeKeywords_68 (by decide) ?_
  exact bk_Model_makeKeywords_72 X hk4 hk17 x0 x1 x2 x3 x4 (1 : Int32) w hsh H locs ls hH (lv_sub hl [0, 1, 2, 3, 4] rfl)
def sh_Model_makeKeywords_252 (F : Nat) (k4 : Nat → Int32 → Int32 → im_W → Option (im_W)) (x0 : Nat) (x2 : Int32) (x3 : Int32) (y0 : Int32) (y1 : Int32) (y2 : Nat) (w : im_W) : Option (im_W) :=
  (im_is w 9 y2).bind fun u1 => (sh_Model_putTyped F y2 y1 y0 w).bind fun w5 => k4 x0 x3 (x2 + (1 : Int32)) w5
set_option maxHeartbeats 4000000 in
set_option maxRecDepth 100000 in
theorem bk_Model_makeKeywords_252 {F : Nat} {r : im_W} (X : im_X D vwCl tA lo im_NW c_Model_makeKeywords 6 none RC_Model im_T p s m args meth c) {k4 : Nat → Int32 → Int32 → im_W → Option (im_W)} (hk4 : ∀ (x0 : Nat) (x1 : Int32) (x2 : Int32) (w : im_W), k4 x0 x1 x2 w = some r → im_WW D vwCl tA lo 6 p l e (im_rm 2 49) s m args below meth c 0 0 (MQ below (im_Post D vwCl tA lo none r) args s 0 0 (fun q => lo ≤ q)) 4 [(0, .ref (lo + x0)), (1, .int x1), (2, .int x2)] [] w) (x0 : Nat) (x2 : Int32) (x3 : Int32) (y0 : Int32) (y1 : Int32) (y2 : Nat) (w : im_W) (hsh : sh_Model_makeKeywords_252 F k4 x0 x2 x3 y0 y1 y2 w = some r) : im_WW D vwCl tA lo 6 p l e (im_rm 2 49) s m args below meth c 0 0 (MQ below (im_Post D vwCl tA lo none r) args s 0 0 (fun q => lo ≤ q)) 252 [(0, .ref (lo + x0)), (2, .int x2), (3, .int x3)] [.int y0, .int y1, .ref (lo + y2)] w := by
  obtain ⟨hx, hb, hr, hts, hown, hlk, hml, hK, hN⟩ := id X
  intro H locs ls hH hl
  unfold sh_Model_makeKeywords_252 at hsh
  obtain ⟨u1, h2, hsh⟩ := im_bd hsh
  obtain ⟨g3, h4⟩ := im_is_s h2
  obtain ⟨w5, h6, hsh⟩ := im_bd hsh
  refine im_afterV (va_runV (As := [.int y1, .int y0]) (rest := []) (C := RC_Model) ⟨hx, hb, hml, hown, hts⟩ (met_Model_putTyped h6) ⟨(callB_of 2 hts (im_good wd_887) rfl rfl rfl (hts _ wd_10) (hts _ wd_884) (by decide +kernel) ⟨Nat.le_of_ble_eq_true rfl, Nat.le_of_ble_eq_true rfl⟩), hts _ wd_886, hts _ sl_Model_putTyped⟩ (im_preV im_NW_ok hK hN hH (ci := 9) rfl rfl h4 _) rfl rfl hl.1 rfl (lv_room (Nat.le_of_ble_eq_true rfl)) d_Model_makeKeywords_252 ⟨Nat.le_of_ble_eq_true rfl, Nat.le_of_ble_eq_true rfl⟩) hH (fun H locs hH => ?_)
  refine lv_iload_n hx hb d_Model_makeKeywords_255 rfl (lv_at hl 2 rfl) ?_
  refine lv_istore_n (lv' := [(1, .int x3), (0, .ref (lo + x0)), (2, .int x2), (3, .int x3)]) hx hb d_Model_makeKeywords_256 rfl hl (by decide) rfl (fun ls hl => ?_)
  refine lv_iinc (v := (x2 + (1 : Int32))) (lv' := [(2, .int (x2 + (1 : Int32))), (1, .int x3), (0, .ref (lo + x0)), (3, .int x3)]) hx hb d_Model_makeKeywords_257 hl (k := 2) rfl rfl (by decide) rfl (fun ls hl => ?_)
  refine lv_goto (tgt := 4) hx hb d_Model_makeKeywords_260 (by decide) ?_
  exact hk4 x0 x3 (x2 + (1 : Int32)) w5 hsh H locs ls hH (lv_sub hl [2, 1, 0] rfl)
def sh_Model_makeKeywords_229 (F : Nat) (k4 : Nat → Int32 → Int32 → im_W → Option (im_W)) (x0 : Nat) (x2 : Int32) (x3 : Int32) (x4 : Int32) (y0 : Int32) (w : im_W) : Option (im_W) :=
  (if y0 = 0 then (im_gR w 9 x0 10).bind fun f1 => (im_lI w 0 f1 x3).bind fun e3 => sh_Model_makeKeywords_252 F k4 x0 x2 x3 e3 x4 x0 w else sh_Model_makeKeywords_252 F k4 x0 x2 x3 (x4 + (2 : Int32)) x4 x0 w)
set_option maxHeartbeats 4000000 in
set_option maxRecDepth 100000 in
theorem bk_Model_makeKeywords_229 {F : Nat} {r : im_W} (X : im_X D vwCl tA lo im_NW c_Model_makeKeywords 6 none RC_Model im_T p s m args meth c) {k4 : Nat → Int32 → Int32 → im_W → Option (im_W)} (hk4 : ∀ (x0 : Nat) (x1 : Int32) (x2 : Int32) (w : im_W), k4 x0 x1 x2 w = some r → im_WW D vwCl tA lo 6 p l e (im_rm 2 49) s m args below meth c 0 0 (MQ below (im_Post D vwCl tA lo none r) args s 0 0 (fun q => lo ≤ q)) 4 [(0, .ref (lo + x0)), (1, .int x1), (2, .int x2)] [] w) (x0 : Nat) (x2 : Int32) (x3 : Int32) (x4 : Int32) (y0 : Int32) (w : im_W) (hsh : sh_Model_makeKeywords_229 F k4 x0 x2 x3 x4 y0 w = some r) : im_WW D vwCl tA lo 6 p l e (im_rm 2 49) s m args below meth c 0 0 (MQ below (im_Post D vwCl tA lo none r) args s 0 0 (fun q => lo ≤ q)) 229 [(0, .ref (lo + x0)), (2, .int x2), (3, .int x3), (4, .int x4)] [.int y0] w := by
  obtain ⟨hx, hb, hr, hts, hown, hlk, hml, hK, hN⟩ := id X
  intro H locs ls hH hl
  unfold sh_Model_makeKeywords_229 at hsh
  refine lv_istore (lv' := [(5, .int y0), (0, .ref (lo + x0)), (2, .int x2), (3, .int x3), (4, .int x4)]) hx hb d_Model_makeKeywords_229 hl (by decide) rfl (fun ls hl => ?_)
  refine lv_aload_n hx hb d_Model_makeKeywords_231 rfl (lv_at hl 1 rfl) ?_
  refine lv_iload hx hb d_Model_makeKeywords_232 (lv_at hl 4 rfl) ?_
  refine lv_iload hx hb d_Model_makeKeywords_234 (lv_at hl 0 rfl) ?_
  refine lv_if_eq (tgt := 246) hx hb d_Model_makeKeywords_236 (by decide) (fun cc => ?_) (fun cc => ?_)
  · have hsh := im_it hsh cc
    refine lv_aload_n hx hb d_Model_makeKeywords_246 rfl (lv_at hl 1 rfl) ?_
    obtain ⟨f1, h2, hsh⟩ := im_bd hsh
    refine im_getR hx hb hts inC_Model hown hK hH (ci := 9) rfl 10 (by decide) (hts _ wd_641) rfl h2 d_Model_makeKeywords_247 ?_
    refine lv_iload_n hx hb d_Model_makeKeywords_250 rfl (lv_at hl 3 rfl) ?_
    obtain ⟨e3, h4, hsh⟩ := im_bd hsh
    refine im_iald hx hb hK hH h4 d_Model_makeKeywords_251 ?_
    exact bk_Model_makeKeywords_252 X hk4 x0 x2 x3 e3 x4 x0 w hsh H locs ls hH (lv_sub hl [1, 2, 3] rfl)
  · have hsh := im_if hsh cc
    refine lv_iload hx hb d_Model_makeKeywords_239 (lv_at hl 4 rfl) ?_
    refine lv_iconst (v := 2) hx hb d_Model_makeKeywords_241 (by decide) ?_
    refine lv_iadd hx hb d_Model_makeKeywords_242 ?_
    refine lv_goto (tgt := 252) hx hb d_Model_makeKeywords_243 (by decide) ?_
    exact bk_Model_makeKeywords_252 X hk4 x0 x2 x3 (x4 + (2 : Int32)) x4 x0 w hsh H locs ls hH (lv_sub hl [1, 2, 3] rfl)
def sh_Model_makeKeywords_228 (F : Nat) (k4 : Nat → Int32 → Int32 → im_W → Option (im_W)) (x0 : Nat) (x2 : Int32) (x3 : Int32) (x4 : Int32) (w : im_W) : Option (im_W) :=
  sh_Model_makeKeywords_229 F k4 x0 x2 x3 x4 (0 : Int32) w
set_option maxHeartbeats 4000000 in
set_option maxRecDepth 100000 in
theorem bk_Model_makeKeywords_228 {F : Nat} {r : im_W} (X : im_X D vwCl tA lo im_NW c_Model_makeKeywords 6 none RC_Model im_T p s m args meth c) {k4 : Nat → Int32 → Int32 → im_W → Option (im_W)} (hk4 : ∀ (x0 : Nat) (x1 : Int32) (x2 : Int32) (w : im_W), k4 x0 x1 x2 w = some r → im_WW D vwCl tA lo 6 p l e (im_rm 2 49) s m args below meth c 0 0 (MQ below (im_Post D vwCl tA lo none r) args s 0 0 (fun q => lo ≤ q)) 4 [(0, .ref (lo + x0)), (1, .int x1), (2, .int x2)] [] w) (x0 : Nat) (x2 : Int32) (x3 : Int32) (x4 : Int32) (w : im_W) (hsh : sh_Model_makeKeywords_228 F k4 x0 x2 x3 x4 w = some r) : im_WW D vwCl tA lo 6 p l e (im_rm 2 49) s m args below meth c 0 0 (MQ below (im_Post D vwCl tA lo none r) args s 0 0 (fun q => lo ≤ q)) 228 [(0, .ref (lo + x0)), (2, .int x2), (3, .int x3), (4, .int x4)] [] w := by
  obtain ⟨hx, hb, hr, hts, hown, hlk, hml, hK, hN⟩ := id X
  intro H locs ls hH hl
  unfold sh_Model_makeKeywords_228 at hsh
  refine lv_iconst (v := 0) hx hb d_Model_makeKeywords_228 (by decide) ?_
  exact bk_Model_makeKeywords_229 X hk4 x0 x2 x3 x4 (0 : Int32) w hsh H locs ls hH (lv_sub hl [0, 1, 2, 3] rfl)
def sh_Model_makeKeywords_17 (F : Nat) (k4 : Nat → Int32 → Int32 → im_W → Option (im_W)) : Nat → Nat → Int32 → Int32 → Int32 → Int32 → im_W → Option (im_W)
  | 0, _, _, _, _, _, _ => none
  | f + 1, x0, x1, x2, x3, x4, w => (im_gI w 9 x0 8).bind fun f1 => (if f1 ≤ x4 then (im_gR w 9 x0 9).bind fun f3 => (im_lI w 0 f3 x3).bind fun e5 => (im_gR w 9 x0 10).bind fun f7 => (im_lI w 0 f7 x3).bind fun e9 => (if e9 = (e5 + (7 : Int32)) then (im_gR w 9 x0 1).bind fun f11 => (im_lI w 2 f11 (e5 + (3 : Int32))).bind fun e13 => (im_is w 9 x0).bind fun u15 => im_b2 (sh_Model_small F x0 e13 w) fun v21 w19 => (if v21 = (116 : Int32) then (im_gR w19 9 x0 1).bind fun f22 => (im_lI w19 2 f22 (e5 + (4 : Int32))).bind fun e24 => (im_is w19 9 x0).bind fun u26 => im_b2 (sh_Model_small F x0 e24 w19) fun v32 w30 => (if v32 = (114 : Int32) then (im_gR w30 9 x0 1).bind fun f33 => (im_lI w30 2 f33 (e5 + (5 : Int32))).bind fun e35 => (im_is w30 9 x0).bind fun u37 => im_b2 (sh_Model_small F x0 e35 w30) fun v43 w41 => (if v43 = (117 : Int32) then (im_gR w41 9 x0 1).bind fun f44 => (im_lI w41 2 f44 (e5 + (6 : Int32))).bind fun e46 => (im_is w41 9 x0).bind fun u48 => im_b2 (sh_Model_small F x0 e46 w41) fun v54 w52 => (if v54 = (101 : Int32) then sh_Model_makeKeywords_229 F k4 x0 x2 x3 e5 (1 : Int32) w52 else sh_Model_makeKeywords_228 F k4 x0 x2 x3 e5 w52) else sh_Model_makeKeywords_228 F k4 x0 x2 x3 e5 w41) else sh_Model_makeKeywords_228 F k4 x0 x2 x3 e5 w30) else sh_Model_makeKeywords_228 F k4 x0 x2 x3 e5 w19) else sh_Model_makeKeywords_228 F k4 x0 x2 x3 e5 w) else (if x1 < 0 then sh_Model_makeKeywords_67 F k4 (sh_Model_makeKeywords_17 F k4 f) x0 x1 x2 x3 x4 w else (im_gR w 9 x0 9).bind fun f55 => (im_lI w 0 f55 x1).bind fun e57 => (im_gR w 9 x0 9).bind fun f59 => (im_lI w 0 f59 x1).bind fun e61 => (im_gR w 9 x0 9).bind fun f63 => (im_lI w 0 f63 x4).bind fun e65 => (im_gR w 9 x0 9).bind fun f67 => (im_lI w 0 f67 x4).bind fun e69 => (im_is w 9 x0).bind fun u71 => im_b2 (sh_Model_before F x0 e57 (e61 + (2 : Int32)) e65 (e69 + (2 : Int32)) w) fun v77 w75 => (if v77 = 0 then sh_Model_makeKeywords_72 F k4 (sh_Model_makeKeywords_17 F k4 f) x0 x1 x2 x3 x4 (0 : Int32) w75 else sh_Model_makeKeywords_67 F k4 (sh_Model_makeKeywords_17 F k4 f) x0 x1 x2 x3 x4 w75)))
set_option maxHeartbeats 4000000 in
set_option maxRecDepth 100000 in
theorem bk_Model_makeKeywords_17 {F : Nat} {r : im_W} (X : im_X D vwCl tA lo im_NW c_Model_makeKeywords 6 none RC_Model im_T p s m args meth c) {k4 : Nat → Int32 → Int32 → im_W → Option (im_W)} (hk4 : ∀ (x0 : Nat) (x1 : Int32) (x2 : Int32) (w : im_W), k4 x0 x1 x2 w = some r → im_WW D vwCl tA lo 6 p l e (im_rm 2 49) s m args below meth c 0 0 (MQ below (im_Post D vwCl tA lo none r) args s 0 0 (fun q => lo ≤ q)) 4 [(0, .ref (lo + x0)), (1, .int x1), (2, .int x2)] [] w) : ∀ (f : Nat) (x0 : Nat) (x1 : Int32) (x2 : Int32) (x3 : Int32) (x4 : Int32) (w : im_W), sh_Model_makeKeywords_17 F k4 f x0 x1 x2 x3 x4 w = some r → im_WW D vwCl tA lo 6 p l e (im_rm 2 49) s m args below meth c 0 0 (MQ below (im_Post D vwCl tA lo none r) args s 0 0 (fun q => lo ≤ q)) 17 [(0, .ref (lo + x0)), (1, .int x1), (2, .int x2), (3, .int x3), (4, .int x4)] [] w := by
  obtain ⟨hx, hb, hr, hts, hown, hlk, hml, hK, hN⟩ := id X
  intro f
  induction f with
  | zero =>
    intro x0 x1 x2 x3 x4 w hsh
    cases hsh
  | succ f ih =>
    intro x0 x1 x2 x3 x4 w hsh H locs ls hH hl
    unfold sh_Model_makeKeywords_17 at hsh
    refine lv_iload hx hb d_Model_makeKeywords_17 (lv_at hl 4 rfl) ?_
    refine lv_aload_n hx hb d_Model_makeKeywords_19 rfl (lv_at hl 0 rfl) ?_
    obtain ⟨f1, h2, hsh⟩ := im_bd hsh
    refine im_getI hx hb hts inC_Model hown hK hH (ci := 9) rfl 8 (by decide) (hts _ wd_639) rfl h2 d_Model_makeKeywords_20 ?_
    refine lv_icmp_ge (tgt := 129) hx hb d_Model_makeKeywords_23 (by decide) (fun cc => ?_) (fun cc => ?_)
    · have hsh := im_it hsh cc
      refine lv_aload_n hx hb d_Model_makeKeywords_129 rfl (lv_at hl 0 rfl) ?_
      obtain ⟨f3, h4, hsh⟩ := im_bd hsh
      refine im_getR hx hb hts inC_Model hown hK hH (ci := 9) rfl 9 (by decide) (hts _ wd_640) rfl h4 d_Model_makeKeywords_130 ?_
      refine lv_iload_n hx hb d_Model_makeKeywords_133 rfl (lv_at hl 3 rfl) ?_
      obtain ⟨e5, h6, hsh⟩ := im_bd hsh
      refine im_iald hx hb hK hH h6 d_Model_makeKeywords_134 ?_
      refine lv_istore (lv' := [(4, .int e5), (0, .ref (lo + x0)), (1, .int x1), (2, .int x2), (3, .int x3)]) hx hb d_Model_makeKeywords_135 hl (by decide) rfl (fun ls hl => ?_)
      refine lv_aload_n hx hb d_Model_makeKeywords_137 rfl (lv_at hl 1 rfl) ?_
      obtain ⟨f7, h8, hsh⟩ := im_bd hsh
      refine im_getR hx hb hts inC_Model hown hK hH (ci := 9) rfl 10 (by decide) (hts _ wd_641) rfl h8 d_Model_makeKeywords_138 ?_
      refine lv_iload_n hx hb d_Model_makeKeywords_141 rfl (lv_at hl 4 rfl) ?_
      obtain ⟨e9, h10, hsh⟩ := im_bd hsh
      refine im_iald hx hb hK hH h10 d_Model_makeKeywords_142 ?_
      refine lv_iload hx hb d_Model_makeKeywords_143 (lv_at hl 0 rfl) ?_
      refine lv_bipush (v := 7) hx hb d_Model_makeKeywords_145 (by decide) ?_
      refine lv_iadd hx hb d_Model_makeKeywords_147 ?_
      refine lv_icmp_ne (tgt := 228) hx hb d_Model_makeKeywords_148 (by decide) (fun cc => ?_) (fun cc => ?_)
      · have hsh := im_if hsh cc
        exact bk_Model_makeKeywords_228 X hk4 x0 x2 x3 e5 w hsh H locs ls hH (lv_sub hl [1, 3, 4, 0] rfl)
      · have hsh := im_it hsh cc
        refine lv_aload_n hx hb d_Model_makeKeywords_151 rfl (lv_at hl 1 rfl) ?_
        refine lv_aload_n hx hb d_Model_makeKeywords_152 rfl (lv_at hl 1 rfl) ?_
        obtain ⟨f11, h12, hsh⟩ := im_bd hsh
        refine im_getR hx hb hts inC_Model hown hK hH (ci := 9) rfl 1 (by decide) (hts _ wd_632) rfl h12 d_Model_makeKeywords_153 ?_
        refine lv_iload hx hb d_Model_makeKeywords_156 (lv_at hl 0 rfl) ?_
        refine lv_iconst (v := 3) hx hb d_Model_makeKeywords_158 (by decide) ?_
        refine lv_iadd hx hb d_Model_makeKeywords_159 ?_
        obtain ⟨e13, h14, hsh⟩ := im_bd hsh
        refine im_cald hx hb hK hH h14 d_Model_makeKeywords_160 ?_
        obtain ⟨u15, h16, hsh⟩ := im_bd hsh
        obtain ⟨g17, h18⟩ := im_is_s h16
        obtain ⟨v21, w19, h20, hsh⟩ := im_bd2 hsh
        refine im_afterI (va_runV (As := [.int e13]) (rest := []) (C := RC_Model) ⟨hx, hb, hml, hown, hts⟩ (met_Model_small h20) ⟨(callB_of 1 hts (im_good wd_775) rfl rfl rfl (hts _ wd_10) (hts _ wd_772) (by decide +kernel) ⟨Nat.le_of_ble_eq_true rfl, Nat.le_of_ble_eq_true rfl⟩), hts _ wd_774, hts _ sl_Model_small⟩ (im_preV im_NW_ok hK hN hH (ci := 9) rfl rfl h18 _) rfl rfl hl.1 rfl (lv_room (Nat.le_of_ble_eq_true rfl)) d_Model_makeKeywords_161 ⟨Nat.le_of_ble_eq_true rfl, Nat.le_of_ble_eq_true rfl⟩) hH (fun H locs hH => ?_)
        refine lv_bipush (v := 116) hx hb d_Model_makeKeywords_164 (by decide) ?_
        refine lv_icmp_ne (tgt := 228) hx hb d_Model_makeKeywords_166 (by decide) (fun cc => ?_) (fun cc => ?_)
        · have hsh := im_if hsh cc
          exact bk_Model_makeKeywords_228 X hk4 x0 x2 x3 e5 w19 hsh H locs ls hH (lv_sub hl [1, 3, 4, 0] rfl)
        · have hsh := im_it hsh cc
          refine lv_aload_n hx hb d_Model_makeKeywords_169 rfl (lv_at hl 1 rfl) ?_
          refine lv_aload_n hx hb d_Model_makeKeywords_170 rfl (lv_at hl 1 rfl) ?_
          obtain ⟨f22, h23, hsh⟩ := im_bd hsh
          refine im_getR hx hb hts inC_Model hown hK hH (ci := 9) rfl 1 (by decide) (hts _ wd_632) rfl h23 d_Model_makeKeywords_171 ?_
          refine lv_iload hx hb d_Model_makeKeywords_174 (lv_at hl 0 rfl) ?_
          refine lv_iconst (v := 4) hx hb d_Model_makeKeywords_176 (by decide) ?_
          refine lv_iadd hx hb d_Model_makeKeywords_177 ?_
          obtain ⟨e24, h25, hsh⟩ := im_bd hsh
          refine im_cald hx hb hK hH h25 d_Model_makeKeywords_178 ?_
          obtain ⟨u26, h27, hsh⟩ := im_bd hsh
          obtain ⟨g28, h29⟩ := im_is_s h27
          obtain ⟨v32, w30, h31, hsh⟩ := im_bd2 hsh
          refine im_afterI (va_runV (As := [.int e24]) (rest := []) (C := RC_Model) ⟨hx, hb, hml, hown, hts⟩ (met_Model_small h31) ⟨(callB_of 1 hts (im_good wd_775) rfl rfl rfl (hts _ wd_10) (hts _ wd_772) (by decide +kernel) ⟨Nat.le_of_ble_eq_true rfl, Nat.le_of_ble_eq_true rfl⟩), hts _ wd_774, hts _ sl_Model_small⟩ (im_preV im_NW_ok hK hN hH (ci := 9) rfl rfl h29 _) rfl rfl hl.1 rfl (lv_room (Nat.le_of_ble_eq_true rfl)) d_Model_makeKeywords_179 ⟨Nat.le_of_ble_eq_true rfl, Nat.le_of_ble_eq_true rfl⟩) hH (fun H locs hH => ?_)
          refine lv_bipush (v := 114) hx hb d_Model_makeKeywords_182 (by decide) ?_
          refine lv_icmp_ne (tgt := 228) hx hb d_Model_makeKeywords_184 (by decide) (fun cc => ?_) (fun cc => ?_)
          · have hsh := im_if hsh cc
            exact bk_Model_makeKeywords_228 X hk4 x0 x2 x3 e5 w30 hsh H locs ls hH (lv_sub hl [1, 3, 4, 0] rfl)
          · have hsh := im_it hsh cc
            refine lv_aload_n hx hb d_Model_makeKeywords_187 rfl (lv_at hl 1 rfl) ?_
            refine lv_aload_n hx hb d_Model_makeKeywords_188 rfl (lv_at hl 1 rfl) ?_
            obtain ⟨f33, h34, hsh⟩ := im_bd hsh
            refine im_getR hx hb hts inC_Model hown hK hH (ci := 9) rfl 1 (by decide) (hts _ wd_632) rfl h34 d_Model_makeKeywords_189 ?_
            refine lv_iload hx hb d_Model_makeKeywords_192 (lv_at hl 0 rfl) ?_
            refine lv_iconst (v := 5) hx hb d_Model_makeKeywords_194 (by decide) ?_
            refine lv_iadd hx hb d_Model_makeKeywords_195 ?_
            obtain ⟨e35, h36, hsh⟩ := im_bd hsh
            refine im_cald hx hb hK hH h36 d_Model_makeKeywords_196 ?_
            obtain ⟨u37, h38, hsh⟩ := im_bd hsh
            obtain ⟨g39, h40⟩ := im_is_s h38
            obtain ⟨v43, w41, h42, hsh⟩ := im_bd2 hsh
            refine im_afterI (va_runV (As := [.int e35]) (rest := []) (C := RC_Model) ⟨hx, hb, hml, hown, hts⟩ (met_Model_small h42) ⟨(callB_of 1 hts (im_good wd_775) rfl rfl rfl (hts _ wd_10) (hts _ wd_772) (by decide +kernel) ⟨Nat.le_of_ble_eq_true rfl, Nat.le_of_ble_eq_true rfl⟩), hts _ wd_774, hts _ sl_Model_small⟩ (im_preV im_NW_ok hK hN hH (ci := 9) rfl rfl h40 _) rfl rfl hl.1 rfl (lv_room (Nat.le_of_ble_eq_true rfl)) d_Model_makeKeywords_197 ⟨Nat.le_of_ble_eq_true rfl, Nat.le_of_ble_eq_true rfl⟩) hH (fun H locs hH => ?_)
            refine lv_bipush (v := 117) hx hb d_Model_makeKeywords_200 (by decide) ?_
            refine lv_icmp_ne (tgt := 228) hx hb d_Model_makeKeywords_202 (by decide) (fun cc => ?_) (fun cc => ?_)
            · have hsh := im_if hsh cc
              exact bk_Model_makeKeywords_228 X hk4 x0 x2 x3 e5 w41 hsh H locs ls hH (lv_sub hl [1, 3, 4, 0] rfl)
            · have hsh := im_it hsh cc
              refine lv_aload_n hx hb d_Model_makeKeywords_205 rfl (lv_at hl 1 rfl) ?_
              refine lv_aload_n hx hb d_Model_makeKeywords_206 rfl (lv_at hl 1 rfl) ?_
              obtain ⟨f44, h45, hsh⟩ := im_bd hsh
              refine im_getR hx hb hts inC_Model hown hK hH (ci := 9) rfl 1 (by decide) (hts _ wd_632) rfl h45 d_Model_makeKeywords_207 ?_
              refine lv_iload hx hb d_Model_makeKeywords_210 (lv_at hl 0 rfl) ?_
              refine lv_bipush (v := 6) hx hb d_Model_makeKeywords_212 (by decide) ?_
              refine lv_iadd hx hb d_Model_makeKeywords_214 ?_
              obtain ⟨e46, h47, hsh⟩ := im_bd hsh
              refine im_cald hx hb hK hH h47 d_Model_makeKeywords_215 ?_
              obtain ⟨u48, h49, hsh⟩ := im_bd hsh
              obtain ⟨g50, h51⟩ := im_is_s h49
              obtain ⟨v54, w52, h53, hsh⟩ := im_bd2 hsh
              refine im_afterI (va_runV (As := [.int e46]) (rest := []) (C := RC_Model) ⟨hx, hb, hml, hown, hts⟩ (met_Model_small h53) ⟨(callB_of 1 hts (im_good wd_775) rfl rfl rfl (hts _ wd_10) (hts _ wd_772) (by decide +kernel) ⟨Nat.le_of_ble_eq_true rfl, Nat.le_of_ble_eq_true rfl⟩), hts _ wd_774, hts _ sl_Model_small⟩ (im_preV im_NW_ok hK hN hH (ci := 9) rfl rfl h51 _) rfl rfl hl.1 rfl (lv_room (Nat.le_of_ble_eq_true rfl)) d_Model_makeKeywords_216 ⟨Nat.le_of_ble_eq_true rfl, Nat.le_of_ble_eq_true rfl⟩) hH (fun H locs hH => ?_)
              refine lv_bipush (v := 101) hx hb d_Model_makeKeywords_219 (by decide) ?_
              refine lv_icmp_ne (tgt := 228) hx hb d_Model_makeKeywords_221 (by decide) (fun cc => ?_) (fun cc => ?_)
              · have hsh := im_if hsh cc
                exact bk_Model_makeKeywords_228 X hk4 x0 x2 x3 e5 w52 hsh H locs ls hH (lv_sub hl [1, 3, 4, 0] rfl)
              · have hsh := im_it hsh cc
                refine lv_iconst (v := 1) hx hb d_Model_makeKeywords_224 (by decide) ?_
                refine lv_goto (tgt := 229) hx hb d_Model_makeKeywords_225 (by decide) ?_
                exact bk_Model_makeKeywords_229 X hk4 x0 x2 x3 e5 (1 : Int32) w52 hsh H locs ls hH (lv_sub hl [1, 3, 4, 0] rfl)
    · have hsh := im_if hsh cc
      refine lv_iload_n hx hb d_Model_makeKeywords_26 rfl (lv_at hl 1 rfl) ?_
      refine lv_if_lt (tgt := 67) hx hb d_Model_makeKeywords_27 (by decide) (fun cc => ?_) (fun cc => ?_)
      · have hsh := im_it hsh cc
        exact bk_Model_makeKeywords_67 X hk4 ih x0 x1 x2 x3 x4 w hsh H locs ls hH (lv_sub hl [0, 1, 2, 3, 4] rfl)
      · have hsh := im_if hsh cc
        refine lv_aload_n hx hb d_Model_makeKeywords_30 rfl (lv_at hl 0 rfl) ?_
        refine lv_aload_n hx hb d_Model_makeKeywords_31 rfl (lv_at hl 0 rfl) ?_
        obtain ⟨f55, h56, hsh⟩ := im_bd hsh
        refine im_getR hx hb hts inC_Model hown hK hH (ci := 9) rfl 9 (by decide) (hts _ wd_640) rfl h56 d_Model_makeKeywords_32 ?_
        refine lv_iload_n hx hb d_Model_makeKeywords_35 rfl (lv_at hl 1 rfl) ?_
        obtain ⟨e57, h58, hsh⟩ := im_bd hsh
        refine im_iald hx hb hK hH h58 d_Model_makeKeywords_36 ?_
        refine lv_aload_n hx hb d_Model_makeKeywords_37 rfl (lv_at hl 0 rfl) ?_
        obtain ⟨f59, h60, hsh⟩ := im_bd hsh
        refine im_getR hx hb hts inC_Model hown hK hH (ci := 9) rfl 9 (by decide) (hts _ wd_640) rfl h60 d_Model_makeKeywords_38 ?_
        refine lv_iload_n hx hb d_Model_makeKeywords_41 rfl (lv_at hl 1 rfl) ?_
        obtain ⟨e61, h62, hsh⟩ := im_bd hsh
        refine im_iald hx hb hK hH h62 d_Model_makeKeywords_42 ?_
        refine lv_iconst (v := 2) hx hb d_Model_makeKeywords_43 (by decide) ?_
        refine lv_iadd hx hb d_Model_makeKeywords_44 ?_
        refine lv_aload_n hx hb d_Model_makeKeywords_45 rfl (lv_at hl 0 rfl) ?_
        obtain ⟨f63, h64, hsh⟩ := im_bd hsh
        refine im_getR hx hb hts inC_Model hown hK hH (ci := 9) rfl 9 (by decide) (hts _ wd_640) rfl h64 d_Model_makeKeywords_46 ?_
        refine lv_iload hx hb d_Model_makeKeywords_49 (lv_at hl 4 rfl) ?_
        obtain ⟨e65, h66, hsh⟩ := im_bd hsh
        refine im_iald hx hb hK hH h66 d_Model_makeKeywords_51 ?_
        refine lv_aload_n hx hb d_Model_makeKeywords_52 rfl (lv_at hl 0 rfl) ?_
        obtain ⟨f67, h68, hsh⟩ := im_bd hsh
        refine im_getR hx hb hts inC_Model hown hK hH (ci := 9) rfl 9 (by decide) (hts _ wd_640) rfl h68 d_Model_makeKeywords_53 ?_
        refine lv_iload hx hb d_Model_makeKeywords_56 (lv_at hl 4 rfl) ?_
        obtain ⟨e69, h70, hsh⟩ := im_bd hsh
        refine im_iald hx hb hK hH h70 d_Model_makeKeywords_58 ?_
        refine lv_iconst (v := 2) hx hb d_Model_makeKeywords_59 (by decide) ?_
        refine lv_iadd hx hb d_Model_makeKeywords_60 ?_
        obtain ⟨u71, h72, hsh⟩ := im_bd hsh
        obtain ⟨g73, h74⟩ := im_is_s h72
        obtain ⟨v77, w75, h76, hsh⟩ := im_bd2 hsh
        refine im_afterI (va_runV (As := [.int e57, .int (e61 + (2 : Int32)), .int e65, .int (e69 + (2 : Int32))]) (rest := []) (C := RC_Model) ⟨hx, hb, hml, hown, hts⟩ (met_Model_before h76) ⟨(callB_of 4 hts (im_good wd_883) rfl rfl rfl (hts _ wd_10) (hts _ wd_880) (by decide +kernel) ⟨Nat.le_of_ble_eq_true rfl, Nat.le_of_ble_eq_true rfl⟩), hts _ wd_882, hts _ sl_Model_before⟩ (im_preV im_NW_ok hK hN hH (ci := 9) rfl rfl h74 _) rfl rfl hl.1 rfl (lv_room (Nat.le_of_ble_eq_true rfl)) d_Model_makeKeywords_61 ⟨Nat.le_of_ble_eq_true rfl, Nat.le_of_ble_eq_true rfl⟩) hH (fun H locs hH => ?_)
        refine lv_if_eq (tgt := 71) hx hb d_Model_makeKeywords_64 (by decide) (fun cc => ?_) (fun cc => ?_)
        · have hsh := im_it hsh cc
          refine lv_iconst (v := 0) hx hb d_Model_makeKeywords_71 (by decide) ?_
          exact bk_Model_makeKeywords_72 X hk4 ih x0 x1 x2 x3 x4 (0 : Int32) w75 hsh H locs ls hH (lv_sub hl [0, 1, 2, 3, 4] rfl)
        · have hsh := im_if hsh cc
          exact bk_Model_makeKeywords_67 X hk4 ih x0 x1 x2 x3 x4 w75 hsh H locs ls hH (lv_sub hl [0, 1, 2, 3, 4] rfl)
def sh_Model_makeKeywords_4 (F : Nat) : Nat → Nat → Int32 → Int32 → im_W → Option (im_W)
  | 0, _, _, _, _ => none
  | f + 1, x0, x1, x2, w => (im_gI w 9 x0 8).bind fun f1 => (if f1 ≤ x2 then some w else sh_Model_makeKeywords_17 F (sh_Model_makeKeywords_4 F f) F x0 x1 x2 (-1 : Int32) (0 : Int32) w)
set_option maxHeartbeats 4000000 in
set_option maxRecDepth 100000 in
theorem bk_Model_makeKeywords_4 {F : Nat} {r : im_W} (X : im_X D vwCl tA lo im_NW c_Model_makeKeywords 6 none RC_Model im_T p s m args meth c) : ∀ (f : Nat) (x0 : Nat) (x1 : Int32) (x2 : Int32) (w : im_W), sh_Model_makeKeywords_4 F f x0 x1 x2 w = some r → im_WW D vwCl tA lo 6 p l e (im_rm 2 49) s m args below meth c 0 0 (MQ below (im_Post D vwCl tA lo none r) args s 0 0 (fun q => lo ≤ q)) 4 [(0, .ref (lo + x0)), (1, .int x1), (2, .int x2)] [] w := by
  obtain ⟨hx, hb, hr, hts, hown, hlk, hml, hK, hN⟩ := id X
  intro f
  induction f with
  | zero =>
    intro x0 x1 x2 w hsh
    cases hsh
  | succ f ih =>
    intro x0 x1 x2 w hsh H locs ls hH hl
    unfold sh_Model_makeKeywords_4 at hsh
    refine lv_iload_n hx hb d_Model_makeKeywords_4 rfl (lv_at hl 2 rfl) ?_
    refine lv_aload_n hx hb d_Model_makeKeywords_5 rfl (lv_at hl 0 rfl) ?_
    obtain ⟨f1, h2, hsh⟩ := im_bd hsh
    refine im_getI hx hb hts inC_Model hown hK hH (ci := 9) rfl 8 (by decide) (hts _ wd_639) rfl h2 d_Model_makeKeywords_6 ?_
    refine lv_icmp_ge (tgt := 263) hx hb d_Model_makeKeywords_9 (by decide) (fun cc => ?_) (fun cc => ?_)
    · have hsh := im_it hsh cc
      obtain rfl := Option.some.inj hsh
      exact im_vret hx hb hr hlk hH d_Model_makeKeywords_263
    · have hsh := im_if hsh cc
      refine lv_iconst (v := -1) hx hb d_Model_makeKeywords_12 (by decide) ?_
      refine lv_istore_n (lv' := [(3, .int (-1 : Int32)), (0, .ref (lo + x0)), (1, .int x1), (2, .int x2)]) hx hb d_Model_makeKeywords_13 rfl hl (by decide) rfl (fun ls hl => ?_)
      refine lv_iconst (v := 0) hx hb d_Model_makeKeywords_14 (by decide) ?_
      refine lv_istore (lv' := [(4, .int (0 : Int32)), (3, .int (-1 : Int32)), (0, .ref (lo + x0)), (1, .int x1), (2, .int x2)]) hx hb d_Model_makeKeywords_15 hl (by decide) rfl (fun ls hl => ?_)
      exact bk_Model_makeKeywords_17 X ih F x0 x1 x2 (-1 : Int32) (0 : Int32) w hsh H locs ls hH (lv_sub hl [2, 3, 4, 1, 0] rfl)
def sh_Model_makeKeywords (F : Nat) (x0 : Nat) (w : im_W) : Option (im_W) :=
  sh_Model_makeKeywords_4 F F x0 (-1 : Int32) (0 : Int32) w
set_option maxHeartbeats 4000000 in
set_option maxRecDepth 100000 in
theorem met_Model_makeKeywords {F : Nat} {x0 : Nat} {w : im_W} {r : im_W} (hsh : sh_Model_makeKeywords F x0 w = some r) : Met l y_Model_makeKeywords (Cond.code y_Model_makeKeywords c_Model_makeKeywords 6 none :: im_T) (im_rm 2 49) (im_Pre D vwCl tA lo im_NW [.ref (lo + x0)] w) (im_Post D vwCl tA lo none r) 0 0 (fun q => lo ≤ q) := by
  refine im_ofW (cc := c_Model_makeKeywords) (nL := 6) (ret := none) (by decide) (Nat.le_of_ble_eq_true rfl) ?_
  intro p e s m args below meth c X H locs ls hH hl
  obtain ⟨hx, hb, hr, hts, hown, hlk, hml, hK, hN⟩ := id X
  have hl : lv_has ls 6 [(0, .ref (lo + x0))] := hl
  unfold sh_Model_makeKeywords at hsh
  refine lv_iconst (v := -1) hx hb d_Model_makeKeywords_0 (by decide) ?_
  refine lv_istore_n (lv' := [(1, .int (-1 : Int32)), (0, .ref (lo + x0))]) hx hb d_Model_makeKeywords_1 rfl hl (by decide) rfl (fun ls hl => ?_)
  refine lv_iconst (v := 0) hx hb d_Model_makeKeywords_2 (by decide) ?_
  refine lv_istore_n (lv' := [(2, .int (0 : Int32)), (1, .int (-1 : Int32)), (0, .ref (lo + x0))]) hx hb d_Model_makeKeywords_3 rfl hl (by decide) rfl (fun ls hl => ?_)
  exact bk_Model_makeKeywords_4 X F x0 (-1 : Int32) (0 : Int32) w hsh H locs ls hH (lv_sub hl [2, 1, 0] rfl)
theorem wd_860 : (Jvm.Cond.methodLink "LanguageTagsModel" (195 : Nat) ({ cls := "LanguageTagsModel", name := "putShort", desc := "(III)V" } : Jvm.MethodName)) ∈ im_T := im_memT (i := 860) (by decide +kernel) (by decide +kernel)
theorem wd_862 : (Jvm.Cond.instanceMethod ({ cls := "LanguageTagsModel", name := "putShort", desc := "(III)V" } : Jvm.MethodName)) ∈ im_T := im_memT (i := 862) (by decide +kernel) (by decide +kernel)
theorem wd_863 : (Jvm.Cond.code ({ cls := "LanguageTagsModel", name := "putShort", desc := "(III)V" } : Jvm.MethodName) prog_12_method_26_code (4 : Nat) (Option.none : Option Jvm.ClassFile.FieldType)) ∈ im_T := im_memT (i := 863) (by decide +kernel) (by decide +kernel)
theorem wd_888 : (Jvm.Cond.methodLink "LanguageTagsModel" (205 : Nat) ({ cls := "LanguageTagsModel", name := "makeKeywords", desc := "()V" } : Jvm.MethodName)) ∈ im_T := im_memT (i := 888) (by decide +kernel) (by decide +kernel)
theorem wd_890 : (Jvm.Cond.instanceMethod ({ cls := "LanguageTagsModel", name := "makeKeywords", desc := "()V" } : Jvm.MethodName)) ∈ im_T := im_memT (i := 890) (by decide +kernel) (by decide +kernel)
theorem wd_891 : (Jvm.Cond.code ({ cls := "LanguageTagsModel", name := "makeKeywords", desc := "()V" } : Jvm.MethodName) prog_12_method_30_code (6 : Nat) (Option.none : Option Jvm.ClassFile.FieldType)) ∈ im_T := im_memT (i := 891) (by decide +kernel) (by decide +kernel)
theorem d_Model_makeForm_0 : decode c_Model_makeForm 0 = .ok (.aload_n 0, 1) := by decide +kernel
theorem d_Model_makeForm_1 : decode c_Model_makeForm 1 = .ok (.aload_n 0, 1) := by decide +kernel
theorem d_Model_makeForm_2 : decode c_Model_makeForm 2 = .ok (.getfield 122, 3) := by decide +kernel
theorem d_Model_makeForm_5 : decode c_Model_makeForm 5 = .ok (.aload_n 0, 1) := by decide +kernel
theorem d_Model_makeForm_6 : decode c_Model_makeForm 6 = .ok (.getfield 128, 3) := by decide +kernel
theorem d_Model_makeForm_9 : decode c_Model_makeForm 9 = .ok (.aload_n 0, 1) := by decide +kernel
theorem d_Model_makeForm_10 : decode c_Model_makeForm 10 = .ok (.getfield 134, 3) := by decide +kernel
theorem d_Model_makeForm_13 : decode c_Model_makeForm 13 = .ok (.invokevirtual 195, 3) := by decide +kernel
theorem d_Model_makeForm_16 : decode c_Model_makeForm 16 = .ok (.iconst (-1), 1) := by decide +kernel
theorem d_Model_makeForm_17 : decode c_Model_makeForm 17 = .ok (.istore_n 1, 1) := by decide +kernel
theorem d_Model_makeForm_18 : decode c_Model_makeForm 18 = .ok (.iconst 0, 1) := by decide +kernel
theorem d_Model_makeForm_19 : decode c_Model_makeForm 19 = .ok (.istore_n 2, 1) := by decide +kernel
theorem d_Model_makeForm_20 : decode c_Model_makeForm 20 = .ok (.iload_n 2, 1) := by decide +kernel
theorem d_Model_makeForm_21 : decode c_Model_makeForm 21 = .ok (.aload_n 0, 1) := by decide +kernel
theorem d_Model_makeForm_22 : decode c_Model_makeForm 22 = .ok (.getfield 154, 3) := by decide +kernel
theorem d_Model_makeForm_25 : decode c_Model_makeForm 25 = .ok (.if_icmp .ge (136), 3) := by decide +kernel
theorem d_Model_makeForm_28 : decode c_Model_makeForm 28 = .ok (.iconst (-1), 1) := by decide +kernel
theorem d_Model_makeForm_29 : decode c_Model_makeForm 29 = .ok (.istore_n 3, 1) := by decide +kernel
theorem d_Model_makeForm_30 : decode c_Model_makeForm 30 = .ok (.iconst 0, 1) := by decide +kernel
theorem d_Model_makeForm_31 : decode c_Model_makeForm 31 = .ok (.istore 4, 2) := by decide +kernel
theorem d_Model_makeForm_33 : decode c_Model_makeForm 33 = .ok (.iload 4, 2) := by decide +kernel
theorem d_Model_makeForm_35 : decode c_Model_makeForm 35 = .ok (.aload_n 0, 1) := by decide +kernel
theorem d_Model_makeForm_36 : decode c_Model_makeForm 36 = .ok (.getfield 154, 3) := by decide +kernel
theorem d_Model_makeForm_39 : decode c_Model_makeForm 39 = .ok (.if_icmp .ge (98), 3) := by decide +kernel
theorem d_Model_makeForm_42 : decode c_Model_makeForm 42 = .ok (.iload_n 1, 1) := by decide +kernel
theorem d_Model_makeForm_43 : decode c_Model_makeForm 43 = .ok (.ifCond .lt (36), 3) := by decide +kernel
theorem d_Model_makeForm_46 : decode c_Model_makeForm 46 = .ok (.aload_n 0, 1) := by decide +kernel
theorem d_Model_makeForm_47 : decode c_Model_makeForm 47 = .ok (.aload_n 0, 1) := by decide +kernel
theorem d_Model_makeForm_48 : decode c_Model_makeForm 48 = .ok (.getfield 13, 3) := by decide +kernel
theorem d_Model_makeForm_51 : decode c_Model_makeForm 51 = .ok (.iload_n 1, 1) := by decide +kernel
theorem d_Model_makeForm_52 : decode c_Model_makeForm 52 = .ok (.iaload, 1) := by decide +kernel
theorem d_Model_makeForm_53 : decode c_Model_makeForm 53 = .ok (.aload_n 0, 1) := by decide +kernel
theorem d_Model_makeForm_54 : decode c_Model_makeForm 54 = .ok (.getfield 17, 3) := by decide +kernel
theorem d_Model_makeForm_57 : decode c_Model_makeForm 57 = .ok (.iload_n 1, 1) := by decide +kernel
theorem d_Model_makeForm_58 : decode c_Model_makeForm 58 = .ok (.iaload, 1) := by decide +kernel
theorem d_Model_makeForm_59 : decode c_Model_makeForm 59 = .ok (.aload_n 0, 1) := by decide +kernel
theorem d_Model_makeForm_60 : decode c_Model_makeForm 60 = .ok (.getfield 13, 3) := by decide +kernel
theorem d_Model_makeForm_63 : decode c_Model_makeForm 63 = .ok (.iload 4, 2) := by decide +kernel
theorem d_Model_makeForm_65 : decode c_Model_makeForm 65 = .ok (.iaload, 1) := by decide +kernel
theorem d_Model_makeForm_66 : decode c_Model_makeForm 66 = .ok (.aload_n 0, 1) := by decide +kernel
theorem d_Model_makeForm_67 : decode c_Model_makeForm 67 = .ok (.getfield 17, 3) := by decide +kernel
theorem d_Model_makeForm_70 : decode c_Model_makeForm 70 = .ok (.iload 4, 2) := by decide +kernel
theorem d_Model_makeForm_72 : decode c_Model_makeForm 72 = .ok (.iaload, 1) := by decide +kernel
theorem d_Model_makeForm_73 : decode c_Model_makeForm 73 = .ok (.invokevirtual 199, 3) := by decide +kernel
theorem d_Model_makeForm_76 : decode c_Model_makeForm 76 = .ok (.ifCond .eq (7), 3) := by decide +kernel
theorem d_Model_makeForm_79 : decode c_Model_makeForm 79 = .ok (.iconst 1, 1) := by decide +kernel
theorem d_Model_makeForm_80 : decode c_Model_makeForm 80 = .ok (.goto (4), 3) := by decide +kernel
theorem d_Model_makeForm_83 : decode c_Model_makeForm 83 = .ok (.iconst 0, 1) := by decide +kernel
theorem d_Model_makeForm_84 : decode c_Model_makeForm 84 = .ok (.istore 5, 2) := by decide +kernel
theorem d_Model_makeForm_86 : decode c_Model_makeForm 86 = .ok (.iload 5, 2) := by decide +kernel
theorem d_Model_makeForm_88 : decode c_Model_makeForm 88 = .ok (.ifCond .eq (43), 3) := by decide +kernel
theorem d_Model_makeForm_91 : decode c_Model_makeForm 91 = .ok (.iload_n 3, 1) := by decide +kernel
theorem d_Model_makeForm_92 : decode c_Model_makeForm 92 = .ok (.ifCond .lt (36), 3) := by decide +kernel
theorem d_Model_makeForm_95 : decode c_Model_makeForm 95 = .ok (.aload_n 0, 1) := by decide +kernel
theorem d_Model_makeForm_96 : decode c_Model_makeForm 96 = .ok (.aload_n 0, 1) := by decide +kernel
theorem d_Model_makeForm_97 : decode c_Model_makeForm 97 = .ok (.getfield 13, 3) := by decide +kernel
theorem d_Model_makeForm_100 : decode c_Model_makeForm 100 = .ok (.iload 4, 2) := by decide +kernel
theorem d_Model_makeForm_102 : decode c_Model_makeForm 102 = .ok (.iaload, 1) := by decide +kernel
theorem d_Model_makeForm_103 : decode c_Model_makeForm 103 = .ok (.aload_n 0, 1) := by decide +kernel
theorem d_Model_makeForm_104 : decode c_Model_makeForm 104 = .ok (.getfield 17, 3) := by decide +kernel
theorem d_Model_makeForm_107 : decode c_Model_makeForm 107 = .ok (.iload 4, 2) := by decide +kernel
theorem d_Model_makeForm_109 : decode c_Model_makeForm 109 = .ok (.iaload, 1) := by decide +kernel
theorem d_Model_makeForm_110 : decode c_Model_makeForm 110 = .ok (.aload_n 0, 1) := by decide +kernel
theorem d_Model_makeForm_111 : decode c_Model_makeForm 111 = .ok (.getfield 13, 3) := by decide +kernel
theorem d_Model_makeForm_114 : decode c_Model_makeForm 114 = .ok (.iload_n 3, 1) := by decide +kernel
theorem d_Model_makeForm_115 : decode c_Model_makeForm 115 = .ok (.iaload, 1) := by decide +kernel
theorem d_Model_makeForm_116 : decode c_Model_makeForm 116 = .ok (.aload_n 0, 1) := by decide +kernel
theorem d_Model_makeForm_117 : decode c_Model_makeForm 117 = .ok (.getfield 17, 3) := by decide +kernel
theorem d_Model_makeForm_120 : decode c_Model_makeForm 120 = .ok (.iload_n 3, 1) := by decide +kernel
theorem d_Model_makeForm_121 : decode c_Model_makeForm 121 = .ok (.iaload, 1) := by decide +kernel
theorem d_Model_makeForm_122 : decode c_Model_makeForm 122 = .ok (.invokevirtual 199, 3) := by decide +kernel
theorem d_Model_makeForm_125 : decode c_Model_makeForm 125 = .ok (.ifCond .eq (6), 3) := by decide +kernel
theorem d_Model_makeForm_128 : decode c_Model_makeForm 128 = .ok (.iload 4, 2) := by decide +kernel
theorem d_Model_makeForm_130 : decode c_Model_makeForm 130 = .ok (.istore_n 3, 1) := by decide +kernel
theorem d_Model_makeForm_131 : decode c_Model_makeForm 131 = .ok (.iinc 4 (1), 3) := by decide +kernel
theorem d_Model_makeForm_134 : decode c_Model_makeForm 134 = .ok (.goto (-101), 3) := by decide +kernel
theorem d_Model_makeForm_137 : decode c_Model_makeForm 137 = .ok (.aload_n 0, 1) := by decide +kernel
theorem d_Model_makeForm_138 : decode c_Model_makeForm 138 = .ok (.aload_n 0, 1) := by decide +kernel
theorem d_Model_makeForm_139 : decode c_Model_makeForm 139 = .ok (.getfield 13, 3) := by decide +kernel
theorem d_Model_makeForm_142 : decode c_Model_makeForm 142 = .ok (.iload_n 3, 1) := by decide +kernel
theorem d_Model_makeForm_143 : decode c_Model_makeForm 143 = .ok (.iaload, 1) := by decide +kernel
theorem d_Model_makeForm_144 : decode c_Model_makeForm 144 = .ok (.aload_n 0, 1) := by decide +kernel
theorem d_Model_makeForm_145 : decode c_Model_makeForm 145 = .ok (.getfield 17, 3) := by decide +kernel
theorem d_Model_makeForm_148 : decode c_Model_makeForm 148 = .ok (.iload_n 3, 1) := by decide +kernel
theorem d_Model_makeForm_149 : decode c_Model_makeForm 149 = .ok (.iaload, 1) := by decide +kernel
theorem d_Model_makeForm_150 : decode c_Model_makeForm 150 = .ok (.invokevirtual 202, 3) := by decide +kernel
theorem d_Model_makeForm_153 : decode c_Model_makeForm 153 = .ok (.iload_n 3, 1) := by decide +kernel
theorem d_Model_makeForm_154 : decode c_Model_makeForm 154 = .ok (.istore_n 1, 1) := by decide +kernel
theorem d_Model_makeForm_155 : decode c_Model_makeForm 155 = .ok (.iinc 2 (1), 3) := by decide +kernel
theorem d_Model_makeForm_158 : decode c_Model_makeForm 158 = .ok (.goto (-138), 3) := by decide +kernel
theorem d_Model_makeForm_161 : decode c_Model_makeForm 161 = .ok (.aload_n 0, 1) := by decide +kernel
theorem d_Model_makeForm_162 : decode c_Model_makeForm 162 = .ok (.getfield 161, 3) := by decide +kernel
theorem d_Model_makeForm_165 : decode c_Model_makeForm 165 = .ok (.ifCond .le (19), 3) := by decide +kernel
theorem d_Model_makeForm_168 : decode c_Model_makeForm 168 = .ok (.aload_n 0, 1) := by decide +kernel
theorem d_Model_makeForm_169 : decode c_Model_makeForm 169 = .ok (.bipush (45), 2) := by decide +kernel
theorem d_Model_makeForm_171 : decode c_Model_makeForm 171 = .ok (.invokevirtual 187, 3) := by decide +kernel
theorem d_Model_makeForm_174 : decode c_Model_makeForm 174 = .ok (.aload_n 0, 1) := by decide +kernel
theorem d_Model_makeForm_175 : decode c_Model_makeForm 175 = .ok (.bipush (117), 2) := by decide +kernel
theorem d_Model_makeForm_177 : decode c_Model_makeForm 177 = .ok (.invokevirtual 187, 3) := by decide +kernel
theorem d_Model_makeForm_180 : decode c_Model_makeForm 180 = .ok (.aload_n 0, 1) := by decide +kernel
theorem d_Model_makeForm_181 : decode c_Model_makeForm 181 = .ok (.invokevirtual 205, 3) := by decide +kernel
theorem d_Model_makeForm_184 : decode c_Model_makeForm 184 = .ok (.aload_n 0, 1) := by decide +kernel
theorem d_Model_makeForm_185 : decode c_Model_makeForm 185 = .ok (.getfield 141, 3) := by decide +kernel
theorem d_Model_makeForm_188 : decode c_Model_makeForm 188 = .ok (.ifCond .lt (15), 3) := by decide +kernel
theorem d_Model_makeForm_191 : decode c_Model_makeForm 191 = .ok (.aload_n 0, 1) := by decide +kernel
theorem d_Model_makeForm_192 : decode c_Model_makeForm 192 = .ok (.aload_n 0, 1) := by decide +kernel
theorem d_Model_makeForm_193 : decode c_Model_makeForm 193 = .ok (.getfield 141, 3) := by decide +kernel
theorem d_Model_makeForm_196 : decode c_Model_makeForm 196 = .ok (.aload_n 0, 1) := by decide +kernel
theorem d_Model_makeForm_197 : decode c_Model_makeForm 197 = .ok (.getfield 125, 3) := by decide +kernel
theorem d_Model_makeForm_200 : decode c_Model_makeForm 200 = .ok (.invokevirtual 202, 3) := by decide +kernel
theorem d_Model_makeForm_203 : decode c_Model_makeForm 203 = .ok (.return_, 1) := by decide +kernel
def sh_Model_makeForm_131 (F : Nat) (k20 : Nat → Int32 → Int32 → im_W → Option (im_W)) (k33 : Nat → Int32 → Int32 → Int32 → Int32 → im_W → Option (im_W)) (x0 : Nat) (x1 : Int32) (x2 : Int32) (x3 : Int32) (x4 : Int32) (w : im_W) : Option (im_W) :=
  k33 x0 x1 x2 x3 (x4 + (1 : Int32)) w
set_option maxHeartbeats 4000000 in
set_option maxRecDepth 100000 in
theorem bk_Model_makeForm_131 {F : Nat} {r : im_W} (X : im_X D vwCl tA lo im_NW c_Model_makeForm 6 none RC_Model im_T p s m args meth c) {k20 : Nat → Int32 → Int32 → im_W → Option (im_W)} (hk20 : ∀ (x0 : Nat) (x1 : Int32) (x2 : Int32) (w : im_W), k20 x0 x1 x2 w = some r → im_WW D vwCl tA lo 6 p l e (im_rm 3 74) s m args below meth c 0 0 (MQ below (im_Post D vwCl tA lo none r) args s 0 0 (fun q => lo ≤ q)) 20 [(0, .ref (lo + x0)), (1, .int x1), (2, .int x2)] [] w) {k33 : Nat → Int32 → Int32 → Int32 → Int32 → im_W → Option (im_W)} (hk33 : ∀ (x0 : Nat) (x1 : Int32) (x2 : Int32) (x3 : Int32) (x4 : Int32) (w : im_W), k33 x0 x1 x2 x3 x4 w = some r → im_WW D vwCl tA lo 6 p l e (im_rm 3 74) s m args below meth c 0 0 (MQ below (im_Post D vwCl tA lo none r) args s 0 0 (fun q => lo ≤ q)) 33 [(0, .ref (lo + x0)), (1, .int x1), (2, .int x2), (3, .int x3), (4, .int x4)] [] w) (x0 : Nat) (x1 : Int32) (x2 : Int32) (x3 : Int32) (x4 : Int32) (w : im_W) (hsh : sh_Model_makeForm_131 F k20 k33 x0 x1 x2 x3 x4 w = some r) : im_WW D vwCl tA lo 6 p l e (im_rm 3 74) s m args below meth c 0 0 (MQ below (im_Post D vwCl tA lo none r) args s 0 0 (fun q => lo ≤ q)) 131 [(0, .ref (lo + x0)), (1, .int x1), (2, .int x2), (3, .int x3), (4, .int x4)] [] w := by
  obtain ⟨hx, hb, hr, hts, hown, hlk, hml, hK, hN⟩ := id X
  intro H locs ls hH hl
  unfold sh_Model_makeForm_131 at hsh
  refine lv_iinc (v := (x4 + (1 : Int32))) (lv' := [(4, .int (x4 + (1 : Int32))), (0, .ref (lo + x0)), (1, .int x1), (2, .int x2), (3, .int x3)]) hx hb d_Model_makeForm_131 hl (k := 4) rfl rfl (by decide) rfl (fun ls hl => ?_)
  refine lv_goto (tgt := 33) hx hb d_Model_makeForm_134 (by decide) ?_
  exact hk33 x0 x1 x2 x3 (x4 + (1 : Int32)) w hsh H locs ls hH (lv_sub hl [1, 2, 3, 4, 0] rfl)
def sh_Model_makeForm_128 (F : Nat) (k20 : Nat → Int32 → Int32 → im_W → Option (im_W)) (k33 : Nat → Int32 → Int32 → Int32 → Int32 → im_W → Option (im_W)) (x0 : Nat) (x1 : Int32) (x2 : Int32) (x4 : Int32) (w : im_W) : Option (im_W) :=
  sh_Model_makeForm_131 F k20 k33 x0 x1 x2 x4 x4 w
set_option maxHeartbeats 4000000 in
set_option maxRecDepth 100000 in
theorem bk_Model_makeForm_128 {F : Nat} {r : im_W} (X : im_X D vwCl tA lo im_NW c_Model_makeForm 6 none RC_Model im_T p s m args meth c) {k20 : Nat → Int32 → Int32 → im_W → Option (im_W)} (hk20 : ∀ (x0 : Nat) (x1 : Int32) (x2 : Int32) (w : im_W), k20 x0 x1 x2 w = some r → im_WW D vwCl tA lo 6 p l e (im_rm 3 74) s m args below meth c 0 0 (MQ below (im_Post D vwCl tA lo none r) args s 0 0 (fun q => lo ≤ q)) 20 [(0, .ref (lo + x0)), (1, .int x1), (2, .int x2)] [] w) {k33 : Nat → Int32 → Int32 → Int32 → Int32 → im_W → Option (im_W)} (hk33 : ∀ (x0 : Nat) (x1 : Int32) (x2 : Int32) (x3 : Int32) (x4 : Int32) (w : im_W), k33 x0 x1 x2 x3 x4 w = some r → im_WW D vwCl tA lo 6 p l e (im_rm 3 74) s m args below meth c 0 0 (MQ below (im_Post D vwCl tA lo none r) args s 0 0 (fun q => lo ≤ q)) 33 [(0, .ref (lo + x0)), (1, .int x1), (2, .int x2), (3, .int x3), (4, .int x4)] [] w) (x0 : Nat) (x1 : Int32) (x2 : Int32) (x4 : Int32) (w : im_W) (hsh : sh_Model_makeForm_128 F k20 k33 x0 x1 x2 x4 w = some r) : im_WW D vwCl tA lo 6 p l e (im_rm 3 74) s m args below meth c 0 0 (MQ below (im_Post D vwCl tA lo none r) args s 0 0 (fun q => lo ≤ q)) 128 [(0, .ref (lo + x0)), (1, .int x1), (2, .int x2), (4, .int x4)] [] w := by
  obtain ⟨hx, hb, hr, hts, hown, hlk, hml, hK, hN⟩ := id X
  intro H locs ls hH hl
  unfold sh_Model_makeForm_128 at hsh
  refine lv_iload hx hb d_Model_makeForm_128 (lv_at hl 3 rfl) ?_
  refine lv_istore_n (lv' := [(3, .int x4), (0, .ref (lo + x0)), (1, .int x1), (2, .int x2), (4, .int x4)]) hx hb d_Model_makeForm_130 rfl hl (by decide) rfl (fun ls hl => ?_)
  exact bk_Model_makeForm_131 X hk20 hk33 x0 x1 x2 x4 x4 w hsh H locs ls hH (lv_sub hl [1, 2, 3, 0, 4] rfl)
def sh_Model_makeForm_84 (F : Nat) (k20 : Nat → Int32 → Int32 → im_W → Option (im_W)) (k33 : Nat → Int32 → Int32 → Int32 → Int32 → im_W → Option (im_W)) (x0 : Nat) (x1 : Int32) (x2 : Int32) (x3 : Int32) (x4 : Int32) (y0 : Int32) (w : im_W) : Option (im_W) :=
  (if y0 = 0 then sh_Model_makeForm_131 F k20 k33 x0 x1 x2 x3 x4 w else (if x3 < 0 then sh_Model_makeForm_128 F k20 k33 x0 x1 x2 x4 w else (im_gR w 9 x0 6).bind fun f1 => (im_lI w 0 f1 x4).bind fun e3 => (im_gR w 9 x0 7).bind fun f5 => (im_lI w 0 f5 x4).bind fun e7 => (im_gR w 9 x0 6).bind fun f9 => (im_lI w 0 f9 x3).bind fun e11 => (im_gR w 9 x0 7).bind fun f13 => (im_lI w 0 f13 x3).bind fun e15 => (im_is w 9 x0).bind fun u17 => im_b2 (sh_Model_before F x0 e3 e7 e11 e15 w) fun v23 w21 => (if v23 = 0 then sh_Model_makeForm_131 F k20 k33 x0 x1 x2 x3 x4 w21 else sh_Model_makeForm_128 F k20 k33 x0 x1 x2 x4 w21)))
set_option maxHeartbeats 4000000 in
set_option maxRecDepth 100000 in
theorem bk_Model_makeForm_84 {F : Nat} {r : im_W} (X : im_X D vwCl tA lo im_NW c_Model_makeForm 6 none RC_Model im_T p s m args meth c) {k20 : Nat → Int32 → Int32 → im_W → Option (im_W)} (hk20 : ∀ (x0 : Nat) (x1 : Int32) (x2 : Int32) (w : im_W), k20 x0 x1 x2 w = some r → im_WW D vwCl tA lo 6 p l e (im_rm 3 74) s m args below meth c 0 0 (MQ below (im_Post D vwCl tA lo none r) args s 0 0 (fun q => lo ≤ q)) 20 [(0, .ref (lo + x0)), (1, .int x1), (2, .int x2)] [] w) {k33 : Nat → Int32 → Int32 → Int32 → Int32 → im_W → Option (im_W)} (hk33 : ∀ (x0 : Nat) (x1 : Int32) (x2 : Int32) (x3 : Int32) (x4 : Int32) (w : im_W), k33 x0 x1 x2 x3 x4 w = some r → im_WW D vwCl tA lo 6 p l e (im_rm 3 74) s m args below meth c 0 0 (MQ below (im_Post D vwCl tA lo none r) args s 0 0 (fun q => lo ≤ q)) 33 [(0, .ref (lo + x0)), (1, .int x1), (2, .int x2), (3, .int x3), (4, .int x4)] [] w) (x0 : Nat) (x1 : Int32) (x2 : Int32) (x3 : Int32) (x4 : Int32) (y0 : Int32) (w : im_W) (hsh : sh_Model_makeForm_84 F k20 k33 x0 x1 x2 x3 x4 y0 w = some r) : im_WW D vwCl tA lo 6 p l e (im_rm 3 74) s m args below meth c 0 0 (MQ below (im_Post D vwCl tA lo none r) args s 0 0 (fun q => lo ≤ q)) 84 [(0, .ref (lo + x0)), (1, .int x1), (2, .int x2), (3, .int x3), (4, .int x4)] [.int y0] w := by
  obtain ⟨hx, hb, hr, hts, hown, hlk, hml, hK, hN⟩ := id X
  intro H locs ls hH hl
  unfold sh_Model_makeForm_84 at hsh
  refine lv_istore (lv' := [(5, .int y0), (0, .ref (lo + x0)), (1, .int x1), (2, .int x2), (3, .int x3), (4, .int x4)]) hx hb d_Model_makeForm_84 hl (by decide) rfl (fun ls hl => ?_)
  refine lv_iload hx hb d_Model_makeForm_86 (lv_at hl 0 rfl) ?_
  refine lv_if_eq (tgt := 131) hx hb d_Model_makeForm_88 (by decide) (fun cc => ?_) (fun cc => ?_)
  · have hsh := im_it hsh cc
    exact bk_Model_makeForm_131 X hk20 hk33 x0 x1 x2 x3 x4 w hsh H locs ls hH (lv_sub hl [1, 2, 3, 4, 5] rfl)
  · have hsh := im_if hsh cc
    refine lv_iload_n hx hb d_Model_makeForm_91 rfl (lv_at hl 4 rfl) ?_
    refine lv_if_lt (tgt := 128) hx hb d_Model_makeForm_92 (by decide) (fun cc => ?_) (fun cc => ?_)
    · have hsh := im_it hsh cc
      exact bk_Model_makeForm_128 X hk20 hk33 x0 x1 x2 x4 w hsh H locs ls hH (lv_sub hl [1, 2, 3, 5] rfl)
    · have hsh := im_if hsh cc
      refine lv_aload_n hx hb d_Model_makeForm_95 rfl (lv_at hl 1 rfl) ?_
      refine lv_aload_n hx hb d_Model_makeForm_96 rfl (lv_at hl 1 rfl) ?_
      obtain ⟨f1, h2, hsh⟩ := im_bd hsh
      refine im_getR hx hb hts inC_Model hown hK hH (ci := 9) rfl 6 (by decide) (hts _ wd_637) rfl h2 d_Model_makeForm_97 ?_
      refine lv_iload hx hb d_Model_makeForm_100 (lv_at hl 5 rfl) ?_
      obtain ⟨e3, h4, hsh⟩ := im_bd hsh
      refine im_iald hx hb hK hH h4 d_Model_makeForm_102 ?_
      refine lv_aload_n hx hb d_Model_makeForm_103 rfl (lv_at hl 1 rfl) ?_
      obtain ⟨f5, h6, hsh⟩ := im_bd hsh
      refine im_getR hx hb hts inC_Model hown hK hH (ci := 9) rfl 7 (by decide) (hts _ wd_638) rfl h6 d_Model_makeForm_104 ?_
      refine lv_iload hx hb d_Model_makeForm_107 (lv_at hl 5 rfl) ?_
      obtain ⟨e7, h8, hsh⟩ := im_bd hsh
      refine im_iald hx hb hK hH h8 d_Model_makeForm_109 ?_
      refine lv_aload_n hx hb d_Model_makeForm_110 rfl (lv_at hl 1 rfl) ?_
      obtain ⟨f9, h10, hsh⟩ := im_bd hsh
      refine im_getR hx hb hts inC_Model hown hK hH (ci := 9) rfl 6 (by decide) (hts _ wd_637) rfl h10 d_Model_makeForm_111 ?_
      refine lv_iload_n hx hb d_Model_makeForm_114 rfl (lv_at hl 4 rfl) ?_
      obtain ⟨e11, h12, hsh⟩ := im_bd hsh
      refine im_iald hx hb hK hH h12 d_Model_makeForm_115 ?_
      refine lv_aload_n hx hb d_Model_makeForm_116 rfl (lv_at hl 1 rfl) ?_
      obtain ⟨f13, h14, hsh⟩ := im_bd hsh
      refine im_getR hx hb hts inC_Model hown hK hH (ci := 9) rfl 7 (by decide) (hts _ wd_638) rfl h14 d_Model_makeForm_117 ?_
      refine lv_iload_n hx hb d_Model_makeForm_120 rfl (lv_at hl 4 rfl) ?_
      obtain ⟨e15, h16, hsh⟩ := im_bd hsh
      refine im_iald hx hb hK hH h16 d_Model_makeForm_121 ?_
      obtain ⟨u17, h18, hsh⟩ := im_bd hsh
      obtain ⟨g19, h20⟩ := im_is_s h18
      obtain ⟨v23, w21, h22, hsh⟩ := im_bd2 hsh
      refine im_afterI (va_runV (As := [.int e3, .int e7, .int e11, .int e15]) (rest := []) (C := RC_Model) ⟨hx, hb, hml, hown, hts⟩ (met_Model_before h22) ⟨(callB_of 4 hts (im_good wd_883) rfl rfl rfl (hts _ wd_10) (hts _ wd_880) (by decide +kernel) ⟨Nat.le_of_ble_eq_true rfl, Nat.le_of_ble_eq_true rfl⟩), hts _ wd_882, hts _ sl_Model_before⟩ (im_preV im_NW_ok hK hN hH (ci := 9) rfl rfl h20 _) rfl rfl hl.1 rfl (lv_room (Nat.le_of_ble_eq_true rfl)) d_Model_makeForm_122 ⟨Nat.le_of_ble_eq_true rfl, Nat.le_of_ble_eq_true rfl⟩) hH (fun H locs hH => ?_)
      refine lv_if_eq (tgt := 131) hx hb d_Model_makeForm_125 (by decide) (fun cc => ?_) (fun cc => ?_)
      · have hsh := im_it hsh cc
        exact bk_Model_makeForm_131 X hk20 hk33 x0 x1 x2 x3 x4 w21 hsh H locs ls hH (lv_sub hl [1, 2, 3, 4, 5] rfl)
      · have hsh := im_if hsh cc
        exact bk_Model_makeForm_128 X hk20 hk33 x0 x1 x2 x4 w21 hsh H locs ls hH (lv_sub hl [1, 2, 3, 5] rfl)
def sh_Model_makeForm_79 (F : Nat) (k20 : Nat → Int32 → Int32 → im_W → Option (im_W)) (k33 : Nat → Int32 → Int32 → Int32 → Int32 → im_W → Option (im_W)) (x0 : Nat) (x1 : Int32) (x2 : Int32) (x3 : Int32) (x4 : Int32) (w : im_W) : Option (im_W) :=
  sh_Model_makeForm_84 F k20 k33 x0 x1 x2 x3 x4 (1 : Int32) w
set_option maxHeartbeats 4000000 in
set_option maxRecDepth 100000 in
theorem bk_Model_makeForm_79 {F : Nat} {r : im_W} (X : im_X D vwCl tA lo im_NW c_Model_makeForm 6 none RC_Model im_T p s m args meth c) {k20 : Nat → Int32 → Int32 → im_W → Option (im_W)} (hk20 : ∀ (x0 : Nat) (x1 : Int32) (x2 : Int32) (w : im_W), k20 x0 x1 x2 w = some r → im_WW D vwCl tA lo 6 p l e (im_rm 3 74) s m args below meth c 0 0 (MQ below (im_Post D vwCl tA lo none r) args s 0 0 (fun q => lo ≤ q)) 20 [(0, .ref (lo + x0)), (1, .int x1), (2, .int x2)] [] w) {k33 : Nat → Int32 → Int32 → Int32 → Int32 → im_W → Option (im_W)} (hk33 : ∀ (x0 : Nat) (x1 : Int32) (x2 : Int32) (x3 : Int32) (x4 : Int32) (w : im_W), k33 x0 x1 x2 x3 x4 w = some r → im_WW D vwCl tA lo 6 p l e (im_rm 3 74) s m args below meth c 0 0 (MQ below (im_Post D vwCl tA lo none r) args s 0 0 (fun q => lo ≤ q)) 33 [(0, .ref (lo + x0)), (1, .int x1), (2, .int x2), (3, .int x3), (4, .int x4)] [] w) (x0 : Nat) (x1 : Int32) (x2 : Int32) (x3 : Int32) (x4 : Int32) (w : im_W) (hsh : sh_Model_makeForm_79 F k20 k33 x0 x1 x2 x3 x4 w = some r) : im_WW D vwCl tA lo 6 p l e (im_rm 3 74) s m args below meth c 0 0 (MQ below (im_Post D vwCl tA lo none r) args s 0 0 (fun q => lo ≤ q)) 79 [(0, .ref (lo + x0)), (1, .int x1), (2, .int x2), (3, .int x3), (4, .int x4)] [] w := by
  obtain ⟨hx, hb, hr, hts, hown, hlk, hml, hK, hN⟩ := id X
  intro H locs ls hH hl
  unfold sh_Model_makeForm_79 at hsh
  refine lv_iconst (v := 1) hx hb d_Model_makeForm_79 (by decide) ?_
  refine lv_goto (tgt := 84) hx hb d_Model_makeForm_80 (by decide) ?_
  exact bk_Model_makeForm_84 X hk20 hk33 x0 x1 x2 x3 x4 (1 : Int32) w hsh H locs ls hH (lv_sub hl [0, 1, 2, 3, 4] rfl)
def sh_Model_makeForm_33 (F : Nat) (k20 : Nat → Int32 → Int32 → im_W → Option (im_W)) : Nat → Nat → Int32 → Int32 → Int32 → Int32 → im_W → Option (im_W)
  | 0, _, _, _, _, _, _ => none
  | f + 1, x0, x1, x2, x3, x4, w => (im_gI w 9 x0 5).bind fun f1 => (if f1 ≤ x4 then (im_gR w 9 x0 6).bind fun f3 => (im_lI w 0 f3 x3).bind fun e5 => (im_gR w 9 x0 7).bind fun f7 => (im_lI w 0 f7 x3).bind fun e9 => (im_is w 9 x0).bind fun u11 => (sh_Model_putTyped F x0 e5 e9 w).bind fun w15 => k20 x0 x3 (x2 + (1 : Int32)) w15 else (if x1 < 0 then sh_Model_makeForm_79 F k20 (sh_Model_makeForm_33 F k20 f) x0 x1 x2 x3 x4 w else (im_gR w 9 x0 6).bind fun f17 => (im_lI w 0 f17 x1).bind fun e19 => (im_gR w 9 x0 7).bind fun f21 => (im_lI w 0 f21 x1).bind fun e23 => (im_gR w 9 x0 6).bind fun f25 => (im_lI w 0 f25 x4).bind fun e27 => (im_gR w 9 x0 7).bind fun f29 => (im_lI w 0 f29 x4).bind fun e31 => (im_is w 9 x0).bind fun u33 => im_b2 (sh_Model_before F x0 e19 e23 e27 e31 w) fun v39 w37 => (if v39 = 0 then sh_Model_makeForm_84 F k20 (sh_Model_makeForm_33 F k20 f) x0 x1 x2 x3 x4 (0 : Int32) w37 else sh_Model_makeForm_79 F k20 (sh_Model_makeForm_33 F k20 f) x0 x1 x2 x3 x4 w37)))
set_option maxHeartbeats 4000000 in
set_option maxRecDepth 100000 in
theorem bk_Model_makeForm_33 {F : Nat} {r : im_W} (X : im_X D vwCl tA lo im_NW c_Model_makeForm 6 none RC_Model im_T p s m args meth c) {k20 : Nat → Int32 → Int32 → im_W → Option (im_W)} (hk20 : ∀ (x0 : Nat) (x1 : Int32) (x2 : Int32) (w : im_W), k20 x0 x1 x2 w = some r → im_WW D vwCl tA lo 6 p l e (im_rm 3 74) s m args below meth c 0 0 (MQ below (im_Post D vwCl tA lo none r) args s 0 0 (fun q => lo ≤ q)) 20 [(0, .ref (lo + x0)), (1, .int x1), (2, .int x2)] [] w) : ∀ (f : Nat) (x0 : Nat) (x1 : Int32) (x2 : Int32) (x3 : Int32) (x4 : Int32) (w : im_W), sh_Model_makeForm_33 F k20 f x0 x1 x2 x3 x4 w = some r → im_WW D vwCl tA lo 6 p l e (im_rm 3 74) s m args below meth c 0 0 (MQ below (im_Post D vwCl tA lo none r) args s 0 0 (fun q => lo ≤ q)) 33 [(0, .ref (lo + x0)), (1, .int x1), (2, .int x2), (3, .int x3), (4, .int x4)] [] w := by
  obtain ⟨hx, hb, hr, hts, hown, hlk, hml, hK, hN⟩ := id X
  intro f
  induction f with
  | zero =>
    intro x0 x1 x2 x3 x4 w hsh
    cases hsh
  | succ f ih =>
    intro x0 x1 x2 x3 x4 w hsh H locs ls hH hl
    unfold sh_Model_makeForm_33 at hsh
    refine lv_iload hx hb d_Model_makeForm_33 (lv_at hl 4 rfl) ?_
    refine lv_aload_n hx hb d_Model_makeForm_35 rfl (lv_at hl 0 rfl) ?_
    obtain ⟨f1, h2, hsh⟩ := im_bd hsh
    refine im_getI hx hb hts inC_Model hown hK hH (ci := 9) rfl 5 (by decide) (hts _ wd_636) rfl h2 d_Model_makeForm_36 ?_
    refine lv_icmp_ge (tgt := 137) hx hb d_Model_makeForm_39 (by decide) (fun cc => ?_) (fun cc => ?_)
    · have hsh := im_it hsh cc
      refine lv_aload_n hx hb d_Model_makeForm_137 rfl (lv_at hl 0 rfl) ?_
      refine lv_aload_n hx hb d_Model_makeForm_138 rfl (lv_at hl 0 rfl) ?_
      obtain ⟨f3, h4, hsh⟩ := im_bd hsh
      refine im_getR hx hb hts inC_Model hown hK hH (ci := 9) rfl 6 (by decide) (hts _ wd_637) rfl h4 d_Model_makeForm_139 ?_
      refine lv_iload_n hx hb d_Model_makeForm_142 rfl (lv_at hl 3 rfl) ?_
      obtain ⟨e5, h6, hsh⟩ := im_bd hsh
      refine im_iald hx hb hK hH h6 d_Model_makeForm_143 ?_
      refine lv_aload_n hx hb d_Model_makeForm_144 rfl (lv_at hl 0 rfl) ?_
      obtain ⟨f7, h8, hsh⟩ := im_bd hsh
      refine im_getR hx hb hts inC_Model hown hK hH (ci := 9) rfl 7 (by decide) (hts _ wd_638) rfl h8 d_Model_makeForm_145 ?_
      refine lv_iload_n hx hb d_Model_makeForm_148 rfl (lv_at hl 3 rfl) ?_
      obtain ⟨e9, h10, hsh⟩ := im_bd hsh
      refine im_iald hx hb hK hH h10 d_Model_makeForm_149 ?_
      obtain ⟨u11, h12, hsh⟩ := im_bd hsh
      obtain ⟨g13, h14⟩ := im_is_s h12
      obtain ⟨w15, h16, hsh⟩ := im_bd hsh
      refine im_afterV (va_runV (As := [.int e5, .int e9]) (rest := []) (C := RC_Model) ⟨hx, hb, hml, hown, hts⟩ (met_Model_putTyped h16) ⟨(callB_of 2 hts (im_good wd_887) rfl rfl rfl (hts _ wd_10) (hts _ wd_884) (by decide +kernel) ⟨Nat.le_of_ble_eq_true rfl, Nat.le_of_ble_eq_true rfl⟩), hts _ wd_886, hts _ sl_Model_putTyped⟩ (im_preV im_NW_ok hK hN hH (ci := 9) rfl rfl h14 _) rfl rfl hl.1 rfl (lv_room (Nat.le_of_ble_eq_true rfl)) d_Model_makeForm_150 ⟨Nat.le_of_ble_eq_true rfl, Nat.le_of_ble_eq_true rfl⟩) hH (fun H locs hH => ?_)
      refine lv_iload_n hx hb d_Model_makeForm_153 rfl (lv_at hl 3 rfl) ?_
      refine lv_istore_n (lv' := [(1, .int x3), (0, .ref (lo + x0)), (2, .int x2), (3, .int x3), (4, .int x4)]) hx hb d_Model_makeForm_154 rfl hl (by decide) rfl (fun ls hl => ?_)
      refine lv_iinc (v := (x2 + (1 : Int32))) (lv' := [(2, .int (x2 + (1 : Int32))), (1, .int x3), (0, .ref (lo + x0)), (3, .int x3), (4, .int x4)]) hx hb d_Model_makeForm_155 hl (k := 2) rfl rfl (by decide) rfl (fun ls hl => ?_)
      refine lv_goto (tgt := 20) hx hb d_Model_makeForm_158 (by decide) ?_
      exact hk20 x0 x3 (x2 + (1 : Int32)) w15 hsh H locs ls hH (lv_sub hl [2, 1, 0] rfl)
    · have hsh := im_if hsh cc
      refine lv_iload_n hx hb d_Model_makeForm_42 rfl (lv_at hl 1 rfl) ?_
      refine lv_if_lt (tgt := 79) hx hb d_Model_makeForm_43 (by decide) (fun cc => ?_) (fun cc => ?_)
      · have hsh := im_it hsh cc
        exact bk_Model_makeForm_79 X hk20 ih x0 x1 x2 x3 x4 w hsh H locs ls hH (lv_sub hl [0, 1, 2, 3, 4] rfl)
      · have hsh := im_if hsh cc
        refine lv_aload_n hx hb d_Model_makeForm_46 rfl (lv_at hl 0 rfl) ?_
        refine lv_aload_n hx hb d_Model_makeForm_47 rfl (lv_at hl 0 rfl) ?_
        obtain ⟨f17, h18, hsh⟩ := im_bd hsh
        refine im_getR hx hb hts inC_Model hown hK hH (ci := 9) rfl 6 (by decide) (hts _ wd_637) rfl h18 d_Model_makeForm_48 ?_
        refine lv_iload_n hx hb d_Model_makeForm_51 rfl (lv_at hl 1 rfl) ?_
        obtain ⟨e19, h20, hsh⟩ := im_bd hsh
        refine im_iald hx hb hK hH h20 d_Model_makeForm_52 ?_
        refine lv_aload_n hx hb d_Model_makeForm_53 rfl (lv_at hl 0 rfl) ?_
        obtain ⟨f21, h22, hsh⟩ := im_bd hsh
        refine im_getR hx hb hts inC_Model hown hK hH (ci := 9) rfl 7 (by decide) (hts _ wd_638) rfl h22 d_Model_makeForm_54 ?_
        refine lv_iload_n hx hb d_Model_makeForm_57 rfl (lv_at hl 1 rfl) ?_
        obtain ⟨e23, h24, hsh⟩ := im_bd hsh
        refine im_iald hx hb hK hH h24 d_Model_makeForm_58 ?_
        refine lv_aload_n hx hb d_Model_makeForm_59 rfl (lv_at hl 0 rfl) ?_
        obtain ⟨f25, h26, hsh⟩ := im_bd hsh
        refine im_getR hx hb hts inC_Model hown hK hH (ci := 9) rfl 6 (by decide) (hts _ wd_637) rfl h26 d_Model_makeForm_60 ?_
        refine lv_iload hx hb d_Model_makeForm_63 (lv_at hl 4 rfl) ?_
        obtain ⟨e27, h28, hsh⟩ := im_bd hsh
        refine im_iald hx hb hK hH h28 d_Model_makeForm_65 ?_
        refine lv_aload_n hx hb d_Model_makeForm_66 rfl (lv_at hl 0 rfl) ?_
        obtain ⟨f29, h30, hsh⟩ := im_bd hsh
        refine im_getR hx hb hts inC_Model hown hK hH (ci := 9) rfl 7 (by decide) (hts _ wd_638) rfl h30 d_Model_makeForm_67 ?_
        refine lv_iload hx hb d_Model_makeForm_70 (lv_at hl 4 rfl) ?_
        obtain ⟨e31, h32, hsh⟩ := im_bd hsh
        refine im_iald hx hb hK hH h32 d_Model_makeForm_72 ?_
        obtain ⟨u33, h34, hsh⟩ := im_bd hsh
        obtain ⟨g35, h36⟩ := im_is_s h34
        obtain ⟨v39, w37, h38, hsh⟩ := im_bd2 hsh
        refine im_afterI (va_runV (As := [.int e19, .int e23, .int e27, .int e31]) (rest := []) (C := RC_Model) ⟨hx, hb, hml, hown, hts⟩ (met_Model_before h38) ⟨(callB_of 4 hts (im_good wd_883) rfl rfl rfl (hts _ wd_10) (hts _ wd_880) (by decide +kernel) ⟨Nat.le_of_ble_eq_true rfl, Nat.le_of_ble_eq_true rfl⟩), hts _ wd_882, hts _ sl_Model_before⟩ (im_preV im_NW_ok hK hN hH (ci := 9) rfl rfl h36 _) rfl rfl hl.1 rfl (lv_room (Nat.le_of_ble_eq_true rfl)) d_Model_makeForm_73 ⟨Nat.le_of_ble_eq_true rfl, Nat.le_of_ble_eq_true rfl⟩) hH (fun H locs hH => ?_)
        refine lv_if_eq (tgt := 83) hx hb d_Model_makeForm_76 (by decide) (fun cc => ?_) (fun cc => ?_)
        · have hsh := im_it hsh cc
          refine lv_iconst (v := 0) hx hb d_Model_makeForm_83 (by decide) ?_
          exact bk_Model_makeForm_84 X hk20 ih x0 x1 x2 x3 x4 (0 : Int32) w37 hsh H locs ls hH (lv_sub hl [0, 1, 2, 3, 4] rfl)
        · have hsh := im_if hsh cc
          exact bk_Model_makeForm_79 X hk20 ih x0 x1 x2 x3 x4 w37 hsh H locs ls hH (lv_sub hl [0, 1, 2, 3, 4] rfl)
def sh_Model_makeForm_203 (F : Nat)  (w : im_W) : Option (im_W) :=
  some w
set_option maxHeartbeats 4000000 in
set_option maxRecDepth 100000 in
theorem bk_Model_makeForm_203 {F : Nat} {r : im_W} (X : im_X D vwCl tA lo im_NW c_Model_makeForm 6 none RC_Model im_T p s m args meth c)  (w : im_W) (hsh : sh_Model_makeForm_203 F w = some r) : im_WW D vwCl tA lo 6 p l e (im_rm 3 74) s m args below meth c 0 0 (MQ below (im_Post D vwCl tA lo none r) args s 0 0 (fun q => lo ≤ q)) 203 [] [] w := by
  obtain ⟨hx, hb, hr, hts, hown, hlk, hml, hK, hN⟩ := id X
  intro H locs ls hH hl
  unfold sh_Model_makeForm_203 at hsh
  obtain rfl := Option.some.inj hsh
  exact im_vret hx hb hr hlk hH d_Model_makeForm_203
def sh_Model_makeForm_184 (F : Nat) (x0 : Nat) (w : im_W) : Option (im_W) :=
  (im_gI w 9 x0 11).bind fun f1 => (if f1 < 0 then sh_Model_makeForm_203 F w else (im_gI w 9 x0 11).bind fun f3 => (im_gI w 9 x0 12).bind fun f5 => (im_is w 9 x0).bind fun u7 => (sh_Model_putTyped F x0 f3 f5 w).bind fun w11 => sh_Model_makeForm_203 F w11)
set_option maxHeartbeats 4000000 in
set_option maxRecDepth 100000 in
theorem bk_Model_makeForm_184 {F : Nat} {r : im_W} (X : im_X D vwCl tA lo im_NW c_Model_makeForm 6 none RC_Model im_T p s m args meth c) (x0 : Nat) (w : im_W) (hsh : sh_Model_makeForm_184 F x0 w = some r) : im_WW D vwCl tA lo 6 p l e (im_rm 3 74) s m args below meth c 0 0 (MQ below (im_Post D vwCl tA lo none r) args s 0 0 (fun q => lo ≤ q)) 184 [(0, .ref (lo + x0))] [] w := by
  obtain ⟨hx, hb, hr, hts, hown, hlk, hml, hK, hN⟩ := id X
  intro H locs ls hH hl
  unfold sh_Model_makeForm_184 at hsh
  refine lv_aload_n hx hb d_Model_makeForm_184 rfl (lv_at hl 0 rfl) ?_
  obtain ⟨f1, h2, hsh⟩ := im_bd hsh
  refine im_getI hx hb hts inC_Model hown hK hH (ci := 9) rfl 11 (by decide) (hts _ wd_642) rfl h2 d_Model_makeForm_185 ?_
  refine lv_if_lt (tgt := 203) hx hb d_Model_makeForm_188 (by decide) (fun cc => ?_) (fun cc => ?_)
  · have hsh := im_it hsh cc
    exact bk_Model_makeForm_203 X w hsh H locs ls hH (lv_sub hl [] rfl)
  · have hsh := im_if hsh cc
    refine lv_aload_n hx hb d_Model_makeForm_191 rfl (lv_at hl 0 rfl) ?_
    refine lv_aload_n hx hb d_Model_makeForm_192 rfl (lv_at hl 0 rfl) ?_
    obtain ⟨f3, h4, hsh⟩ := im_bd hsh
    refine im_getI hx hb hts inC_Model hown hK hH (ci := 9) rfl 11 (by decide) (hts _ wd_642) rfl h4 d_Model_makeForm_193 ?_
    refine lv_aload_n hx hb d_Model_makeForm_196 rfl (lv_at hl 0 rfl) ?_
    obtain ⟨f5, h6, hsh⟩ := im_bd hsh
    refine im_getI hx hb hts inC_Model hown hK hH (ci := 9) rfl 12 (by decide) (hts _ wd_643) rfl h6 d_Model_makeForm_197 ?_
    obtain ⟨u7, h8, hsh⟩ := im_bd hsh
    obtain ⟨g9, h10⟩ := im_is_s h8
    obtain ⟨w11, h12, hsh⟩ := im_bd hsh
    refine im_afterV (va_runV (As := [.int f3, .int f5]) (rest := []) (C := RC_Model) ⟨hx, hb, hml, hown, hts⟩ (met_Model_putTyped h12) ⟨(callB_of 2 hts (im_good wd_887) rfl rfl rfl (hts _ wd_10) (hts _ wd_884) (by decide +kernel) ⟨Nat.le_of_ble_eq_true rfl, Nat.le_of_ble_eq_true rfl⟩), hts _ wd_886, hts _ sl_Model_putTyped⟩ (im_preV im_NW_ok hK hN hH (ci := 9) rfl rfl h10 _) rfl rfl hl.1 rfl (lv_room (Nat.le_of_ble_eq_true rfl)) d_Model_makeForm_200 ⟨Nat.le_of_ble_eq_true rfl, Nat.le_of_ble_eq_true rfl⟩) hH (fun H locs hH => ?_)
    exact bk_Model_makeForm_203 X w11 hsh H locs ls hH (lv_sub hl [] rfl)
def sh_Model_makeForm_20 (F : Nat) : Nat → Nat → Int32 → Int32 → im_W → Option (im_W)
  | 0, _, _, _, _ => none
  | f + 1, x0, x1, x2, w => (im_gI w 9 x0 5).bind fun f1 => (if f1 ≤ x2 then (im_gI w 9 x0 8).bind fun f3 => (if f3 ≤ 0 then sh_Model_makeForm_184 F x0 w else (im_is w 9 x0).bind fun u5 => (sh_Model_putChar F x0 (45 : Int32) w).bind fun w9 => (im_is w9 9 x0).bind fun u11 => (sh_Model_putChar F x0 (117 : Int32) w9).bind fun w15 => (im_is w15 9 x0).bind fun u17 => (sh_Model_makeKeywords F x0 w15).bind fun w21 => sh_Model_makeForm_184 F x0 w21) else sh_Model_makeForm_33 F (sh_Model_makeForm_20 F f) F x0 x1 x2 (-1 : Int32) (0 : Int32) w)
set_option maxHeartbeats 4000000 in
set_option maxRecDepth 100000 in
theorem bk_Model_makeForm_20 {F : Nat} {r : im_W} (X : im_X D vwCl tA lo im_NW c_Model_makeForm 6 none RC_Model im_T p s m args meth c) : ∀ (f : Nat) (x0 : Nat) (x1 : Int32) (x2 : Int32) (w : im_W), sh_Model_makeForm_20 F f x0 x1 x2 w = some r → im_WW D vwCl tA lo 6 p l e (im_rm 3 74) s m args below meth c 0 0 (MQ below (im_Post D vwCl tA lo none r) args s 0 0 (fun q => lo ≤ q)) 20 [(0, .ref (lo + x0)), (1, .int x1), (2, .int x2)] [] w := by
  obtain ⟨hx, hb, hr, hts, hown, hlk, hml, hK, hN⟩ := id X
  intro f
  induction f with
  | zero =>
    intro x0 x1 x2 w hsh
    cases hsh
  | succ f ih =>
    intro x0 x1 x2 w hsh H locs ls hH hl
    unfold sh_Model_makeForm_20 at hsh
    refine lv_iload_n hx hb d_Model_makeForm_20 rfl (lv_at hl 2 rfl) ?_
    refine lv_aload_n hx hb d_Model_makeForm_21 rfl (lv_at hl 0 rfl) ?_
    obtain ⟨f1, h2, hsh⟩ := im_bd hsh
    refine im_getI hx hb hts inC_Model hown hK hH (ci := 9) rfl 5 (by decide) (hts _ wd_636) rfl h2 d_Model_makeForm_22 ?_
    refine lv_icmp_ge (tgt := 161) hx hb d_Model_makeForm_25 (by decide) (fun cc => ?_) (fun cc => ?_)
    · have hsh := im_it hsh cc
      refine lv_aload_n hx hb d_Model_makeForm_161 rfl (lv_at hl 0 rfl) ?_
      obtain ⟨f3, h4, hsh⟩ := im_bd hsh
      refine im_getI hx hb hts inC_Model hown hK hH (ci := 9) rfl 8 (by decide) (hts _ wd_639) rfl h4 d_Model_makeForm_162 ?_
      refine lv_if_le (tgt := 184) hx hb d_Model_makeForm_165 (by decide) (fun cc => ?_) (fun cc => ?_)
      · have hsh := im_it hsh cc
        exact bk_Model_makeForm_184 X x0 w hsh H locs ls hH (lv_sub hl [0] rfl)
      · have hsh := im_if hsh cc
        refine lv_aload_n hx hb d_Model_makeForm_168 rfl (lv_at hl 0 rfl) ?_
        refine lv_bipush (v := 45) hx hb d_Model_makeForm_169 (by decide) ?_
        obtain ⟨u5, h6, hsh⟩ := im_bd hsh
        obtain ⟨g7, h8⟩ := im_is_s h6
        obtain ⟨w9, h10, hsh⟩ := im_bd hsh
        refine im_afterV (va_runV (As := [.int (45 : Int32)]) (rest := []) (C := RC_Model) ⟨hx, hb, hml, hown, hts⟩ (met_Model_putChar h10) ⟨(callB_of 1 hts (im_good wd_879) rfl rfl rfl (hts _ wd_10) (hts _ wd_876) (by decide +kernel) ⟨Nat.le_of_ble_eq_true rfl, Nat.le_of_ble_eq_true rfl⟩), hts _ wd_878, hts _ sl_Model_putChar⟩ (im_preV im_NW_ok hK hN hH (ci := 9) rfl rfl h8 _) rfl rfl hl.1 rfl (lv_room (Nat.le_of_ble_eq_true rfl)) d_Model_makeForm_171 ⟨Nat.le_of_ble_eq_true rfl, Nat.le_of_ble_eq_true rfl⟩) hH (fun H locs hH => ?_)
        refine lv_aload_n hx hb d_Model_makeForm_174 rfl (lv_at hl 0 rfl) ?_
        refine lv_bipush (v := 117) hx hb d_Model_makeForm_175 (by decide) ?_
        obtain ⟨u11, h12, hsh⟩ := im_bd hsh
        obtain ⟨g13, h14⟩ := im_is_s h12
        obtain ⟨w15, h16, hsh⟩ := im_bd hsh
        refine im_afterV (va_runV (As := [.int (117 : Int32)]) (rest := []) (C := RC_Model) ⟨hx, hb, hml, hown, hts⟩ (met_Model_putChar h16) ⟨(callB_of 1 hts (im_good wd_879) rfl rfl rfl (hts _ wd_10) (hts _ wd_876) (by decide +kernel) ⟨Nat.le_of_ble_eq_true rfl, Nat.le_of_ble_eq_true rfl⟩), hts _ wd_878, hts _ sl_Model_putChar⟩ (im_preV im_NW_ok hK hN hH (ci := 9) rfl rfl h14 _) rfl rfl hl.1 rfl (lv_room (Nat.le_of_ble_eq_true rfl)) d_Model_makeForm_177 ⟨Nat.le_of_ble_eq_true rfl, Nat.le_of_ble_eq_true rfl⟩) hH (fun H locs hH => ?_)
        refine lv_aload_n hx hb d_Model_makeForm_180 rfl (lv_at hl 0 rfl) ?_
        obtain ⟨u17, h18, hsh⟩ := im_bd hsh
        obtain ⟨g19, h20⟩ := im_is_s h18
        obtain ⟨w21, h22, hsh⟩ := im_bd hsh
        refine im_afterV (va_runV (As := []) (rest := []) (C := RC_Model) ⟨hx, hb, hml, hown, hts⟩ (met_Model_makeKeywords h22) ⟨(callB_of 0 hts (im_good wd_891) rfl rfl rfl (hts _ wd_10) (hts _ wd_888) (by decide +kernel) ⟨Nat.le_of_ble_eq_true rfl, Nat.le_of_ble_eq_true rfl⟩), hts _ wd_890, hts _ sl_Model_makeKeywords⟩ (im_preV im_NW_ok hK hN hH (ci := 9) rfl rfl h20 _) rfl rfl hl.1 rfl (lv_room (Nat.le_of_ble_eq_true rfl)) d_Model_makeForm_181 ⟨Nat.le_of_ble_eq_true rfl, Nat.le_of_ble_eq_true rfl⟩) hH (fun H locs hH => ?_)
        exact bk_Model_makeForm_184 X x0 w21 hsh H locs ls hH (lv_sub hl [0] rfl)
    · have hsh := im_if hsh cc
      refine lv_iconst (v := -1) hx hb d_Model_makeForm_28 (by decide) ?_
      refine lv_istore_n (lv' := [(3, .int (-1 : Int32)), (0, .ref (lo + x0)), (1, .int x1), (2, .int x2)]) hx hb d_Model_makeForm_29 rfl hl (by decide) rfl (fun ls hl => ?_)
      refine lv_iconst (v := 0) hx hb d_Model_makeForm_30 (by decide) ?_
      refine lv_istore (lv' := [(4, .int (0 : Int32)), (3, .int (-1 : Int32)), (0, .ref (lo + x0)), (1, .int x1), (2, .int x2)]) hx hb d_Model_makeForm_31 hl (by decide) rfl (fun ls hl => ?_)
      exact bk_Model_makeForm_33 X ih F x0 x1 x2 (-1 : Int32) (0 : Int32) w hsh H locs ls hH (lv_sub hl [2, 3, 4, 1, 0] rfl)
def sh_Model_makeForm (F : Nat) (x0 : Nat) (w : im_W) : Option (im_W) :=
  (im_gI w 9 x0 2).bind fun f1 => (im_gI w 9 x0 3).bind fun f3 => (im_gI w 9 x0 4).bind fun f5 => (im_is w 9 x0).bind fun u7 => (sh_Model_putShort F x0 f1 f3 f5 w).bind fun w11 => sh_Model_makeForm_20 F F x0 (-1 : Int32) (0 : Int32) w11
set_option maxHeartbeats 4000000 in
set_option maxRecDepth 100000 in
theorem met_Model_makeForm {F : Nat} {x0 : Nat} {w : im_W} {r : im_W} (hsh : sh_Model_makeForm F x0 w = some r) : Met l y_Model_makeForm (Cond.code y_Model_makeForm c_Model_makeForm 6 none :: im_T) (im_rm 3 74) (im_Pre D vwCl tA lo im_NW [.ref (lo + x0)] w) (im_Post D vwCl tA lo none r) 0 0 (fun q => lo ≤ q) := by
  refine im_ofW (cc := c_Model_makeForm) (nL := 6) (ret := none) (by decide) (Nat.le_of_ble_eq_true rfl) ?_
  intro p e s m args below meth c X H locs ls hH hl
  obtain ⟨hx, hb, hr, hts, hown, hlk, hml, hK, hN⟩ := id X
  have hl : lv_has ls 6 [(0, .ref (lo + x0))] := hl
  unfold sh_Model_makeForm at hsh
  refine lv_aload_n hx hb d_Model_makeForm_0 rfl (lv_at hl 0 rfl) ?_
  refine lv_aload_n hx hb d_Model_makeForm_1 rfl (lv_at hl 0 rfl) ?_
  obtain ⟨f1, h2, hsh⟩ := im_bd hsh
  refine im_getI hx hb hts inC_Model hown hK hH (ci := 9) rfl 2 (by decide) (hts _ wd_633) rfl h2 d_Model_makeForm_2 ?_
  refine lv_aload_n hx hb d_Model_makeForm_5 rfl (lv_at hl 0 rfl) ?_
  obtain ⟨f3, h4, hsh⟩ := im_bd hsh
  refine im_getI hx hb hts inC_Model hown hK hH (ci := 9) rfl 3 (by decide) (hts _ wd_634) rfl h4 d_Model_makeForm_6 ?_
  refine lv_aload_n hx hb d_Model_makeForm_9 rfl (lv_at hl 0 rfl) ?_
  obtain ⟨f5, h6, hsh⟩ := im_bd hsh
  refine im_getI hx hb hts inC_Model hown hK hH (ci := 9) rfl 4 (by decide) (hts _ wd_635) rfl h6 d_Model_makeForm_10 ?_
  obtain ⟨u7, h8, hsh⟩ := im_bd hsh
  obtain ⟨g9, h10⟩ := im_is_s h8
  obtain ⟨w11, h12, hsh⟩ := im_bd hsh
  refine im_afterV (va_runV (As := [.int f1, .int f3, .int f5]) (rest := []) (C := RC_Model) ⟨hx, hb, hml, hown, hts⟩ (met_Model_putShort h12) ⟨(callB_of 3 hts (im_good wd_863) rfl rfl rfl (hts _ wd_10) (hts _ wd_860) (by decide +kernel) ⟨Nat.le_of_ble_eq_true rfl, Nat.le_of_ble_eq_true rfl⟩), hts _ wd_862, hts _ sl_Model_putShort⟩ (im_preV im_NW_ok hK hN hH (ci := 9) rfl rfl h10 _) rfl rfl hl.1 rfl (lv_room (Nat.le_of_ble_eq_true rfl)) d_Model_makeForm_13 ⟨Nat.le_of_ble_eq_true rfl, Nat.le_of_ble_eq_true rfl⟩) hH (fun H locs hH => ?_)
  refine lv_iconst (v := -1) hx hb d_Model_makeForm_16 (by decide) ?_
  refine lv_istore_n (lv' := [(1, .int (-1 : Int32)), (0, .ref (lo + x0))]) hx hb d_Model_makeForm_17 rfl hl (by decide) rfl (fun ls hl => ?_)
  refine lv_iconst (v := 0) hx hb d_Model_makeForm_18 (by decide) ?_
  refine lv_istore_n (lv' := [(2, .int (0 : Int32)), (1, .int (-1 : Int32)), (0, .ref (lo + x0))]) hx hb d_Model_makeForm_19 rfl hl (by decide) rfl (fun ls hl => ?_)
  exact bk_Model_makeForm_20 X F x0 (-1 : Int32) (0 : Int32) w11 hsh H locs ls hH (lv_sub hl [2, 1, 0] rfl)
end GEN
