section GEN
variable {l : Launch} {D : va_G} {tA : Nat → ClassId} {lo : Nat} {p : Program} {e : Env} {s : State} {m : MethodId} {args : Array Value} {below : List Frame} {meth : Method} {c : Code}
theorem d_Model_digit_0 : decode c_Model_digit 0 = .ok (.iload_n 1, 1) := by decide +kernel
theorem d_Model_digit_1 : decode c_Model_digit 1 = .ok (.bipush (48), 2) := by decide +kernel
theorem d_Model_digit_3 : decode c_Model_digit 3 = .ok (.if_icmp .lt (13), 3) := by decide +kernel
theorem d_Model_digit_6 : decode c_Model_digit 6 = .ok (.iload_n 1, 1) := by decide +kernel
theorem d_Model_digit_7 : decode c_Model_digit 7 = .ok (.bipush (57), 2) := by decide +kernel
theorem d_Model_digit_9 : decode c_Model_digit 9 = .ok (.if_icmp .gt (7), 3) := by decide +kernel
theorem d_Model_digit_12 : decode c_Model_digit 12 = .ok (.iconst 1, 1) := by decide +kernel
theorem d_Model_digit_13 : decode c_Model_digit 13 = .ok (.goto (4), 3) := by decide +kernel
theorem d_Model_digit_16 : decode c_Model_digit 16 = .ok (.iconst 0, 1) := by decide +kernel
theorem d_Model_digit_17 : decode c_Model_digit 17 = .ok (.ireturn, 1) := by decide +kernel
def sh_Model_digit_17 (F : Nat) (y0 : Int32) (w : im_W) : Option (Int32 × im_W) :=
  im_rz y0 w
set_option maxHeartbeats 4000000 in
set_option maxRecDepth 100000 in
theorem bk_Model_digit_17 {F : Nat} {r : Int32 × im_W} (X : im_X D vwCl tA lo im_NW c_Model_digit 2 (some .boolean) RC_Model im_T p s m args meth c) (y0 : Int32) (w : im_W) (hsh : sh_Model_digit_17 F y0 w = some r) : im_WW D vwCl tA lo 2 p l e (im_rm 0 0) s m args below meth c 0 0 (MQ below (im_Post D vwCl tA lo (some (.int r.1)) r.2) args s 0 0 (fun q => lo ≤ q)) 17 [] [.int y0] w := by
  obtain ⟨hx, hb, hr, hts, hown, hlk, hml, hK, hN⟩ := id X
  intro H locs ls hH hl
  unfold sh_Model_digit_17 at hsh
  obtain ⟨rfl, hn⟩ := im_rz_s hsh
  exact im_zret hx hb hr hlk hn hH d_Model_digit_17
def sh_Model_digit_16 (F : Nat)  (w : im_W) : Option (Int32 × im_W) :=
  sh_Model_digit_17 F (0 : Int32) w
set_option maxHeartbeats 4000000 in
set_option maxRecDepth 100000 in
theorem bk_Model_digit_16 {F : Nat} {r : Int32 × im_W} (X : im_X D vwCl tA lo im_NW c_Model_digit 2 (some .boolean) RC_Model im_T p s m args meth c)  (w : im_W) (hsh : sh_Model_digit_16 F w = some r) : im_WW D vwCl tA lo 2 p l e (im_rm 0 0) s m args below meth c 0 0 (MQ below (im_Post D vwCl tA lo (some (.int r.1)) r.2) args s 0 0 (fun q => lo ≤ q)) 16 [] [] w := by
  obtain ⟨hx, hb, hr, hts, hown, hlk, hml, hK, hN⟩ := id X
  intro H locs ls hH hl
  unfold sh_Model_digit_16 at hsh
  refine lv_iconst (v := 0) hx hb d_Model_digit_16 (by decide) ?_
  exact bk_Model_digit_17 X (0 : Int32) w hsh H locs ls hH (lv_sub hl [] rfl)
def sh_Model_digit (F : Nat) (x0 : Nat) (x1 : Int32) (w : im_W) : Option (Int32 × im_W) :=
  (if x1 < (48 : Int32) then sh_Model_digit_16 F w else (if (57 : Int32) < x1 then sh_Model_digit_16 F w else sh_Model_digit_17 F (1 : Int32) w))
set_option maxHeartbeats 4000000 in
set_option maxRecDepth 100000 in
theorem met_Model_digit {F : Nat} {x0 : Nat} {x1 : Int32} {w : im_W} {r : Int32 × im_W} (hsh : sh_Model_digit F x0 x1 w = some r) : Met l y_Model_digit (Cond.code y_Model_digit c_Model_digit 2 (some .boolean) :: im_T) (im_rm 0 0) (im_Pre D vwCl tA lo im_NW [.ref (lo + x0), .int x1] w) (im_Post D vwCl tA lo (some (.int r.1)) r.2) 0 0 (fun q => lo ≤ q) := by
  refine im_ofW (cc := c_Model_digit) (nL := 2) (ret := (some .boolean)) (by decide) (Nat.le_of_ble_eq_true rfl) ?_
  intro p e s m args below meth c X H locs ls hH hl
  obtain ⟨hx, hb, hr, hts, hown, hlk, hml, hK, hN⟩ := id X
  have hl : lv_has ls 2 [(0, .ref (lo + x0)), (1, .int x1)] := hl
  unfold sh_Model_digit at hsh
  refine lv_iload_n hx hb d_Model_digit_0 rfl (lv_at hl 1 rfl) ?_
  refine lv_bipush (v := 48) hx hb d_Model_digit_1 (by decide) ?_
  refine lv_icmp_lt (tgt := 16) hx hb d_Model_digit_3 (by decide) (fun cc => ?_) (fun cc => ?_)
  · have hsh := im_it hsh cc
    exact bk_Model_digit_16 X w hsh H locs ls hH (lv_sub hl [] rfl)
  · have hsh := im_if hsh cc
    refine lv_iload_n hx hb d_Model_digit_6 rfl (lv_at hl 1 rfl) ?_
    refine lv_bipush (v := 57) hx hb d_Model_digit_7 (by decide) ?_
    refine lv_icmp_gt (tgt := 16) hx hb d_Model_digit_9 (by decide) (fun cc => ?_) (fun cc => ?_)
    · have hsh := im_it hsh cc
      exact bk_Model_digit_16 X w hsh H locs ls hH (lv_sub hl [] rfl)
    · have hsh := im_if hsh cc
      refine lv_iconst (v := 1) hx hb d_Model_digit_12 (by decide) ?_
      refine lv_goto (tgt := 17) hx hb d_Model_digit_13 (by decide) ?_
      exact bk_Model_digit_17 X (1 : Int32) w hsh H locs ls hH (lv_sub hl [] rfl)
theorem d_Model_small_0 : decode c_Model_small 0 = .ok (.iload_n 1, 1) := by decide +kernel
theorem d_Model_small_1 : decode c_Model_small 1 = .ok (.bipush (65), 2) := by decide +kernel
theorem d_Model_small_3 : decode c_Model_small 3 = .ok (.if_icmp .lt (17), 3) := by decide +kernel
theorem d_Model_small_6 : decode c_Model_small 6 = .ok (.iload_n 1, 1) := by decide +kernel
theorem d_Model_small_7 : decode c_Model_small 7 = .ok (.bipush (90), 2) := by decide +kernel
theorem d_Model_small_9 : decode c_Model_small 9 = .ok (.if_icmp .gt (11), 3) := by decide +kernel
theorem d_Model_small_12 : decode c_Model_small 12 = .ok (.iload_n 1, 1) := by decide +kernel
theorem d_Model_small_13 : decode c_Model_small 13 = .ok (.bipush (32), 2) := by decide +kernel
theorem d_Model_small_15 : decode c_Model_small 15 = .ok (.iadd, 1) := by decide +kernel
theorem d_Model_small_16 : decode c_Model_small 16 = .ok (.i2c, 1) := by decide +kernel
theorem d_Model_small_17 : decode c_Model_small 17 = .ok (.goto (4), 3) := by decide +kernel
theorem d_Model_small_20 : decode c_Model_small 20 = .ok (.iload_n 1, 1) := by decide +kernel
theorem d_Model_small_21 : decode c_Model_small 21 = .ok (.ireturn, 1) := by decide +kernel
def sh_Model_small_21 (F : Nat) (y0 : Int32) (w : im_W) : Option (Int32 × im_W) :=
  im_rc y0 w
set_option maxHeartbeats 4000000 in
set_option maxRecDepth 100000 in
theorem bk_Model_small_21 {F : Nat} {r : Int32 × im_W} (X : im_X D vwCl tA lo im_NW c_Model_small 2 (some .char) RC_Model im_T p s m args meth c) (y0 : Int32) (w : im_W) (hsh : sh_Model_small_21 F y0 w = some r) : im_WW D vwCl tA lo 2 p l e (im_rm 0 0) s m args below meth c 0 0 (MQ below (im_Post D vwCl tA lo (some (.int r.1)) r.2) args s 0 0 (fun q => lo ≤ q)) 21 [] [.int y0] w := by
  obtain ⟨hx, hb, hr, hts, hown, hlk, hml, hK, hN⟩ := id X
  intro H locs ls hH hl
  unfold sh_Model_small_21 at hsh
  obtain ⟨rfl, hn⟩ := im_rc_s hsh
  exact im_zret hx hb hr hlk hn hH d_Model_small_21
def sh_Model_small_20 (F : Nat) (x1 : Int32) (w : im_W) : Option (Int32 × im_W) :=
  sh_Model_small_21 F x1 w
set_option maxHeartbeats 4000000 in
set_option maxRecDepth 100000 in
theorem bk_Model_small_20 {F : Nat} {r : Int32 × im_W} (X : im_X D vwCl tA lo im_NW c_Model_small 2 (some .char) RC_Model im_T p s m args meth c) (x1 : Int32) (w : im_W) (hsh : sh_Model_small_20 F x1 w = some r) : im_WW D vwCl tA lo 2 p l e (im_rm 0 0) s m args below meth c 0 0 (MQ below (im_Post D vwCl tA lo (some (.int r.1)) r.2) args s 0 0 (fun q => lo ≤ q)) 20 [(1, .int x1)] [] w := by
  obtain ⟨hx, hb, hr, hts, hown, hlk, hml, hK, hN⟩ := id X
  intro H locs ls hH hl
  unfold sh_Model_small_20 at hsh
  refine lv_iload_n hx hb d_Model_small_20 rfl (lv_at hl 0 rfl) ?_
  exact bk_Model_small_21 X x1 w hsh H locs ls hH (lv_sub hl [] rfl)
def sh_Model_small (F : Nat) (x0 : Nat) (x1 : Int32) (w : im_W) : Option (Int32 × im_W) :=
  (if x1 < (65 : Int32) then sh_Model_small_20 F x1 w else (if (90 : Int32) < x1 then sh_Model_small_20 F x1 w else sh_Model_small_21 F (im_i2c (x1 + (32 : Int32))) w))
set_option maxHeartbeats 4000000 in
set_option maxRecDepth 100000 in
theorem met_Model_small {F : Nat} {x0 : Nat} {x1 : Int32} {w : im_W} {r : Int32 × im_W} (hsh : sh_Model_small F x0 x1 w = some r) : Met l y_Model_small (Cond.code y_Model_small c_Model_small 2 (some .char) :: im_T) (im_rm 0 0) (im_Pre D vwCl tA lo im_NW [.ref (lo + x0), .int x1] w) (im_Post D vwCl tA lo (some (.int r.1)) r.2) 0 0 (fun q => lo ≤ q) := by
  refine im_ofW (cc := c_Model_small) (nL := 2) (ret := (some .char)) (by decide) (Nat.le_of_ble_eq_true rfl) ?_
  intro p e s m args below meth c X H locs ls hH hl
  obtain ⟨hx, hb, hr, hts, hown, hlk, hml, hK, hN⟩ := id X
  have hl : lv_has ls 2 [(0, .ref (lo + x0)), (1, .int x1)] := hl
  unfold sh_Model_small at hsh
  refine lv_iload_n hx hb d_Model_small_0 rfl (lv_at hl 1 rfl) ?_
  refine lv_bipush (v := 65) hx hb d_Model_small_1 (by decide) ?_
  refine lv_icmp_lt (tgt := 20) hx hb d_Model_small_3 (by decide) (fun cc => ?_) (fun cc => ?_)
  · have hsh := im_it hsh cc
    exact bk_Model_small_20 X x1 w hsh H locs ls hH (lv_sub hl [1] rfl)
  · have hsh := im_if hsh cc
    refine lv_iload_n hx hb d_Model_small_6 rfl (lv_at hl 1 rfl) ?_
    refine lv_bipush (v := 90) hx hb d_Model_small_7 (by decide) ?_
    refine lv_icmp_gt (tgt := 20) hx hb d_Model_small_9 (by decide) (fun cc => ?_) (fun cc => ?_)
    · have hsh := im_it hsh cc
      exact bk_Model_small_20 X x1 w hsh H locs ls hH (lv_sub hl [1] rfl)
    · have hsh := im_if hsh cc
      refine lv_iload_n hx hb d_Model_small_12 rfl (lv_at hl 1 rfl) ?_
      refine lv_bipush (v := 32) hx hb d_Model_small_13 (by decide) ?_
      refine lv_iadd hx hb d_Model_small_15 ?_
      refine lv_i2c (v := (im_i2c (x1 + (32 : Int32)))) hx hb d_Model_small_16 rfl ?_
      refine lv_goto (tgt := 21) hx hb d_Model_small_17 (by decide) ?_
      exact bk_Model_small_21 X (im_i2c (x1 + (32 : Int32))) w hsh H locs ls hH (lv_sub hl [] rfl)
theorem wd_10 : (Jvm.Cond.initialized "LanguageTagsModel") ∈ im_T := im_memT (i := 10) (by decide +kernel) (by decide +kernel)
theorem wd_772 : (Jvm.Cond.methodLink "LanguageTagsModel" (90 : Nat) ({ cls := "LanguageTagsModel", name := "small", desc := "(C)C" } : Jvm.MethodName)) ∈ im_T := im_memT (i := 772) (by decide +kernel) (by decide +kernel)
theorem wd_774 : (Jvm.Cond.instanceMethod ({ cls := "LanguageTagsModel", name := "small", desc := "(C)C" } : Jvm.MethodName)) ∈ im_T := im_memT (i := 774) (by decide +kernel) (by decide +kernel)
theorem wd_775 : (Jvm.Cond.code ({ cls := "LanguageTagsModel", name := "small", desc := "(C)C" } : Jvm.MethodName) prog_12_method_3_code (2 : Nat) (Option.some Jvm.ClassFile.FieldType.char)) ∈ im_T := im_memT (i := 775) (by decide +kernel) (by decide +kernel)
theorem d_Model_letter_0 : decode c_Model_letter 0 = .ok (.aload_n 0, 1) := by decide +kernel
theorem d_Model_letter_1 : decode c_Model_letter 1 = .ok (.iload_n 1, 1) := by decide +kernel
theorem d_Model_letter_2 : decode c_Model_letter 2 = .ok (.invokevirtual 90, 3) := by decide +kernel
theorem d_Model_letter_5 : decode c_Model_letter 5 = .ok (.bipush (97), 2) := by decide +kernel
theorem d_Model_letter_7 : decode c_Model_letter 7 = .ok (.if_icmp .lt (17), 3) := by decide +kernel
theorem d_Model_letter_10 : decode c_Model_letter 10 = .ok (.aload_n 0, 1) := by decide +kernel
theorem d_Model_letter_11 : decode c_Model_letter 11 = .ok (.iload_n 1, 1) := by decide +kernel
theorem d_Model_letter_12 : decode c_Model_letter 12 = .ok (.invokevirtual 90, 3) := by decide +kernel
theorem d_Model_letter_15 : decode c_Model_letter 15 = .ok (.bipush (122), 2) := by decide +kernel
theorem d_Model_letter_17 : decode c_Model_letter 17 = .ok (.if_icmp .gt (7), 3) := by decide +kernel
theorem d_Model_letter_20 : decode c_Model_letter 20 = .ok (.iconst 1, 1) := by decide +kernel
theorem d_Model_letter_21 : decode c_Model_letter 21 = .ok (.goto (4), 3) := by decide +kernel
theorem d_Model_letter_24 : decode c_Model_letter 24 = .ok (.iconst 0, 1) := by decide +kernel
theorem d_Model_letter_25 : decode c_Model_letter 25 = .ok (.ireturn, 1) := by decide +kernel
def sh_Model_letter_25 (F : Nat) (y0 : Int32) (w : im_W) : Option (Int32 × im_W) :=
  im_rz y0 w
set_option maxHeartbeats 4000000 in
set_option maxRecDepth 100000 in
theorem bk_Model_letter_25 {F : Nat} {r : Int32 × im_W} (X : im_X D vwCl tA lo im_NW c_Model_letter 2 (some .boolean) RC_Model im_T p s m args meth c) (y0 : Int32) (w : im_W) (hsh : sh_Model_letter_25 F y0 w = some r) : im_WW D vwCl tA lo 2 p l e (im_rm 1 21) s m args below meth c 0 0 (MQ below (im_Post D vwCl tA lo (some (.int r.1)) r.2) args s 0 0 (fun q => lo ≤ q)) 25 [] [.int y0] w := by
  obtain ⟨hx, hb, hr, hts, hown, hlk, hml, hK, hN⟩ := id X
  intro H locs ls hH hl
  unfold sh_Model_letter_25 at hsh
  obtain ⟨rfl, hn⟩ := im_rz_s hsh
  exact im_zret hx hb hr hlk hn hH d_Model_letter_25
def sh_Model_letter_24 (F : Nat)  (w : im_W) : Option (Int32 × im_W) :=
  sh_Model_letter_25 F (0 : Int32) w
set_option maxHeartbeats 4000000 in
set_option maxRecDepth 100000 in
theorem bk_Model_letter_24 {F : Nat} {r : Int32 × im_W} (X : im_X D vwCl tA lo im_NW c_Model_letter 2 (some .boolean) RC_Model im_T p s m args meth c)  (w : im_W) (hsh : sh_Model_letter_24 F w = some r) : im_WW D vwCl tA lo 2 p l e (im_rm 1 21) s m args below meth c 0 0 (MQ below (im_Post D vwCl tA lo (some (.int r.1)) r.2) args s 0 0 (fun q => lo ≤ q)) 24 [] [] w := by
  obtain ⟨hx, hb, hr, hts, hown, hlk, hml, hK, hN⟩ := id X
  intro H locs ls hH hl
  unfold sh_Model_letter_24 at hsh
  refine lv_iconst (v := 0) hx hb d_Model_letter_24 (by decide) ?_
  exact bk_Model_letter_25 X (0 : Int32) w hsh H locs ls hH (lv_sub hl [] rfl)
def sh_Model_letter (F : Nat) (x0 : Nat) (x1 : Int32) (w : im_W) : Option (Int32 × im_W) :=
  (im_is w 9 x0).bind fun u1 => im_b2 (sh_Model_small F x0 x1 w) fun v7 w5 => (if v7 < (97 : Int32) then sh_Model_letter_24 F w5 else (im_is w5 9 x0).bind fun u8 => im_b2 (sh_Model_small F x0 x1 w5) fun v14 w12 => (if (122 : Int32) < v14 then sh_Model_letter_24 F w12 else sh_Model_letter_25 F (1 : Int32) w12))
set_option maxHeartbeats 4000000 in
set_option maxRecDepth 100000 in
theorem met_Model_letter {F : Nat} {x0 : Nat} {x1 : Int32} {w : im_W} {r : Int32 × im_W} (hsh : sh_Model_letter F x0 x1 w = some r) : Met l y_Model_letter (Cond.code y_Model_letter c_Model_letter 2 (some .boolean) :: im_T) (im_rm 1 21) (im_Pre D vwCl tA lo im_NW [.ref (lo + x0), .int x1] w) (im_Post D vwCl tA lo (some (.int r.1)) r.2) 0 0 (fun q => lo ≤ q) := by
  refine im_ofW (cc := c_Model_letter) (nL := 2) (ret := (some .boolean)) (by decide) (Nat.le_of_ble_eq_true rfl) ?_
  intro p e s m args below meth c X H locs ls hH hl
  obtain ⟨hx, hb, hr, hts, hown, hlk, hml, hK, hN⟩ := id X
  have hl : lv_has ls 2 [(0, .ref (lo + x0)), (1, .int x1)] := hl
  unfold sh_Model_letter at hsh
  refine lv_aload_n hx hb d_Model_letter_0 rfl (lv_at hl 0 rfl) ?_
  refine lv_iload_n hx hb d_Model_letter_1 rfl (lv_at hl 1 rfl) ?_
  obtain ⟨u1, h2, hsh⟩ := im_bd hsh
  obtain ⟨g3, h4⟩ := im_is_s h2
  obtain ⟨v7, w5, h6, hsh⟩ := im_bd2 hsh
  refine im_afterI (va_runV (As := [.int x1]) (rest := []) (C := RC_Model) ⟨hx, hb, hml, hown, hts⟩ (met_Model_small h6) ⟨(callB_of 1 hts (im_good wd_775) rfl rfl rfl (hts _ wd_10) (hts _ wd_772) (by decide +kernel) ⟨Nat.le_of_ble_eq_true rfl, Nat.le_of_ble_eq_true rfl⟩), hts _ wd_774, hts _ sl_Model_small⟩ (im_preV im_NW_ok hK hN hH (ci := 9) rfl rfl h4 _) rfl rfl hl.1 rfl (lv_room (Nat.le_of_ble_eq_true rfl)) d_Model_letter_2 ⟨Nat.le_of_ble_eq_true rfl, Nat.le_of_ble_eq_true rfl⟩) hH (fun H locs hH => ?_)
  refine lv_bipush (v := 97) hx hb d_Model_letter_5 (by decide) ?_
  refine lv_icmp_lt (tgt := 24) hx hb d_Model_letter_7 (by decide) (fun cc => ?_) (fun cc => ?_)
  · have hsh := im_it hsh cc
    exact bk_Model_letter_24 X w5 hsh H locs ls hH (lv_sub hl [] rfl)
  · have hsh := im_if hsh cc
    refine lv_aload_n hx hb d_Model_letter_10 rfl (lv_at hl 0 rfl) ?_
    refine lv_iload_n hx hb d_Model_letter_11 rfl (lv_at hl 1 rfl) ?_
    obtain ⟨u8, h9, hsh⟩ := im_bd hsh
    obtain ⟨g10, h11⟩ := im_is_s h9
    obtain ⟨v14, w12, h13, hsh⟩ := im_bd2 hsh
    refine im_afterI (va_runV (As := [.int x1]) (rest := []) (C := RC_Model) ⟨hx, hb, hml, hown, hts⟩ (met_Model_small h13) ⟨(callB_of 1 hts (im_good wd_775) rfl rfl rfl (hts _ wd_10) (hts _ wd_772) (by decide +kernel) ⟨Nat.le_of_ble_eq_true rfl, Nat.le_of_ble_eq_true rfl⟩), hts _ wd_774, hts _ sl_Model_small⟩ (im_preV im_NW_ok hK hN hH (ci := 9) rfl rfl h11 _) rfl rfl hl.1 rfl (lv_room (Nat.le_of_ble_eq_true rfl)) d_Model_letter_12 ⟨Nat.le_of_ble_eq_true rfl, Nat.le_of_ble_eq_true rfl⟩) hH (fun H locs hH => ?_)
    refine lv_bipush (v := 122) hx hb d_Model_letter_15 (by decide) ?_
    refine lv_icmp_gt (tgt := 24) hx hb d_Model_letter_17 (by decide) (fun cc => ?_) (fun cc => ?_)
    · have hsh := im_it hsh cc
      exact bk_Model_letter_24 X w12 hsh H locs ls hH (lv_sub hl [] rfl)
    · have hsh := im_if hsh cc
      refine lv_iconst (v := 1) hx hb d_Model_letter_20 (by decide) ?_
      refine lv_goto (tgt := 25) hx hb d_Model_letter_21 (by decide) ?_
      exact bk_Model_letter_25 X (1 : Int32) w12 hsh H locs ls hH (lv_sub hl [] rfl)
theorem wd_632 : (Jvm.Cond.fieldLink "LanguageTagsModel" (7 : Nat) "LanguageTagsModel" "typed" "[C") ∈ im_T := im_memT (i := 632) (by decide +kernel) (by decide +kernel)
theorem wd_768 : (Jvm.Cond.methodLink "LanguageTagsModel" (94 : Nat) ({ cls := "LanguageTagsModel", name := "letter", desc := "(C)Z" } : Jvm.MethodName)) ∈ im_T := im_memT (i := 768) (by decide +kernel) (by decide +kernel)
theorem wd_770 : (Jvm.Cond.instanceMethod ({ cls := "LanguageTagsModel", name := "letter", desc := "(C)Z" } : Jvm.MethodName)) ∈ im_T := im_memT (i := 770) (by decide +kernel) (by decide +kernel)
theorem wd_771 : (Jvm.Cond.code ({ cls := "LanguageTagsModel", name := "letter", desc := "(C)Z" } : Jvm.MethodName) prog_12_method_4_code (2 : Nat) (Option.some Jvm.ClassFile.FieldType.boolean)) ∈ im_T := im_memT (i := 771) (by decide +kernel) (by decide +kernel)
theorem d_Model_allLetters_0 : decode c_Model_allLetters 0 = .ok (.iconst 1, 1) := by decide +kernel
theorem d_Model_allLetters_1 : decode c_Model_allLetters 1 = .ok (.istore_n 3, 1) := by decide +kernel
theorem d_Model_allLetters_2 : decode c_Model_allLetters 2 = .ok (.iload_n 1, 1) := by decide +kernel
theorem d_Model_allLetters_3 : decode c_Model_allLetters 3 = .ok (.istore 4, 2) := by decide +kernel
theorem d_Model_allLetters_5 : decode c_Model_allLetters 5 = .ok (.iload 4, 2) := by decide +kernel
theorem d_Model_allLetters_7 : decode c_Model_allLetters 7 = .ok (.iload_n 2, 1) := by decide +kernel
theorem d_Model_allLetters_8 : decode c_Model_allLetters 8 = .ok (.if_icmp .ge (33), 3) := by decide +kernel
theorem d_Model_allLetters_11 : decode c_Model_allLetters 11 = .ok (.iload_n 3, 1) := by decide +kernel
theorem d_Model_allLetters_12 : decode c_Model_allLetters 12 = .ok (.ifCond .eq (21), 3) := by decide +kernel
theorem d_Model_allLetters_15 : decode c_Model_allLetters 15 = .ok (.aload_n 0, 1) := by decide +kernel
theorem d_Model_allLetters_16 : decode c_Model_allLetters 16 = .ok (.aload_n 0, 1) := by decide +kernel
theorem d_Model_allLetters_17 : decode c_Model_allLetters 17 = .ok (.getfield 7, 3) := by decide +kernel
theorem d_Model_allLetters_20 : decode c_Model_allLetters 20 = .ok (.iload 4, 2) := by decide +kernel
theorem d_Model_allLetters_22 : decode c_Model_allLetters 22 = .ok (.caload, 1) := by decide +kernel
theorem d_Model_allLetters_23 : decode c_Model_allLetters 23 = .ok (.invokevirtual 94, 3) := by decide +kernel
theorem d_Model_allLetters_26 : decode c_Model_allLetters 26 = .ok (.ifCond .eq (7), 3) := by decide +kernel
theorem d_Model_allLetters_29 : decode c_Model_allLetters 29 = .ok (.iconst 1, 1) := by decide +kernel
theorem d_Model_allLetters_30 : decode c_Model_allLetters 30 = .ok (.goto (4), 3) := by decide +kernel
theorem d_Model_allLetters_33 : decode c_Model_allLetters 33 = .ok (.iconst 0, 1) := by decide +kernel
theorem d_Model_allLetters_34 : decode c_Model_allLetters 34 = .ok (.istore_n 3, 1) := by decide +kernel
theorem d_Model_allLetters_35 : decode c_Model_allLetters 35 = .ok (.iinc 4 (1), 3) := by decide +kernel
theorem d_Model_allLetters_38 : decode c_Model_allLetters 38 = .ok (.goto (-33), 3) := by decide +kernel
theorem d_Model_allLetters_41 : decode c_Model_allLetters 41 = .ok (.iload_n 3, 1) := by decide +kernel
theorem d_Model_allLetters_42 : decode c_Model_allLetters 42 = .ok (.ireturn, 1) := by decide +kernel
def sh_Model_allLetters_34 (F : Nat) (k5 : Nat → Int32 → Int32 → Int32 → im_W → Option (Int32 × im_W)) (x0 : Nat) (x2 : Int32) (x4 : Int32) (y0 : Int32) (w : im_W) : Option (Int32 × im_W) :=
  k5 x0 x2 y0 (x4 + (1 : Int32)) w
set_option maxHeartbeats 4000000 in
set_option maxRecDepth 100000 in
theorem bk_Model_allLetters_34 {F : Nat} {r : Int32 × im_W} (X : im_X D vwCl tA lo im_NW c_Model_allLetters 5 (some .boolean) RC_Model im_T p s m args meth c) {k5 : Nat → Int32 → Int32 → Int32 → im_W → Option (Int32 × im_W)} (hk5 : ∀ (x0 : Nat) (x2 : Int32) (x3 : Int32) (x4 : Int32) (w : im_W), k5 x0 x2 x3 x4 w = some r → im_WW D vwCl tA lo 5 p l e (im_rm 2 42) s m args below meth c 0 0 (MQ below (im_Post D vwCl tA lo (some (.int r.1)) r.2) args s 0 0 (fun q => lo ≤ q)) 5 [(0, .ref (lo + x0)), (2, .int x2), (3, .int x3), (4, .int x4)] [] w) (x0 : Nat) (x2 : Int32) (x4 : Int32) (y0 : Int32) (w : im_W) (hsh : sh_Model_allLetters_34 F k5 x0 x2 x4 y0 w = some r) : im_WW D vwCl tA lo 5 p l e (im_rm 2 42) s m args below meth c 0 0 (MQ below (im_Post D vwCl tA lo (some (.int r.1)) r.2) args s 0 0 (fun q => lo ≤ q)) 34 [(0, .ref (lo + x0)), (2, .int x2), (4, .int x4)] [.int y0] w := by
  obtain ⟨hx, hb, hr, hts, hown, hlk, hml, hK, hN⟩ := id X
  intro H locs ls hH hl
  unfold sh_Model_allLetters_34 at hsh
  refine lv_istore_n (lv' := [(3, .int y0), (0, .ref (lo + x0)), (2, .int x2), (4, .int x4)]) hx hb d_Model_allLetters_34 rfl hl (by decide) rfl (fun ls hl => ?_)
  refine lv_iinc (v := (x4 + (1 : Int32))) (lv' := [(4, .int (x4 + (1 : Int32))), (3, .int y0), (0, .ref (lo + x0)), (2, .int x2)]) hx hb d_Model_allLetters_35 hl (k := 3) rfl rfl (by decide) rfl (fun ls hl => ?_)
  refine lv_goto (tgt := 5) hx hb d_Model_allLetters_38 (by decide) ?_
  exact hk5 x0 x2 y0 (x4 + (1 : Int32)) w hsh H locs ls hH (lv_sub hl [2, 3, 1, 0] rfl)
def sh_Model_allLetters_33 (F : Nat) (k5 : Nat → Int32 → Int32 → Int32 → im_W → Option (Int32 × im_W)) (x0 : Nat) (x2 : Int32) (x4 : Int32) (w : im_W) : Option (Int32 × im_W) :=
  sh_Model_allLetters_34 F k5 x0 x2 x4 (0 : Int32) w
set_option maxHeartbeats 4000000 in
set_option maxRecDepth 100000 in
theorem bk_Model_allLetters_33 {F : Nat} {r : Int32 × im_W} (X : im_X D vwCl tA lo im_NW c_Model_allLetters 5 (some .boolean) RC_Model im_T p s m args meth c) {k5 : Nat → Int32 → Int32 → Int32 → im_W → Option (Int32 × im_W)} (hk5 : ∀ (x0 : Nat) (x2 : Int32) (x3 : Int32) (x4 : Int32) (w : im_W), k5 x0 x2 x3 x4 w = some r → im_WW D vwCl tA lo 5 p l e (im_rm 2 42) s m args below meth c 0 0 (MQ below (im_Post D vwCl tA lo (some (.int r.1)) r.2) args s 0 0 (fun q => lo ≤ q)) 5 [(0, .ref (lo + x0)), (2, .int x2), (3, .int x3), (4, .int x4)] [] w) (x0 : Nat) (x2 : Int32) (x4 : Int32) (w : im_W) (hsh : sh_Model_allLetters_33 F k5 x0 x2 x4 w = some r) : im_WW D vwCl tA lo 5 p l e (im_rm 2 42) s m args below meth c 0 0 (MQ below (im_Post D vwCl tA lo (some (.int r.1)) r.2) args s 0 0 (fun q => lo ≤ q)) 33 [(0, .ref (lo + x0)), (2, .int x2), (4, .int x4)] [] w := by
  obtain ⟨hx, hb, hr, hts, hown, hlk, hml, hK, hN⟩ := id X
  intro H locs ls hH hl
  unfold sh_Model_allLetters_33 at hsh
  refine lv_iconst (v := 0) hx hb d_Model_allLetters_33 (by decide) ?_
  exact bk_Model_allLetters_34 X hk5 x0 x2 x4 (0 : Int32) w hsh H locs ls hH (lv_sub hl [0, 1, 2] rfl)
def sh_Model_allLetters_5 (F : Nat) : Nat → Nat → Int32 → Int32 → Int32 → im_W → Option (Int32 × im_W)
  | 0, _, _, _, _, _ => none
  | f + 1, x0, x2, x3, x4, w => (if x2 ≤ x4 then im_rz x3 w else (if x3 = 0 then sh_Model_allLetters_33 F (sh_Model_allLetters_5 F f) x0 x2 x4 w else (im_gR w 9 x0 1).bind fun f1 => (im_lI w 2 f1 x4).bind fun e3 => (im_is w 9 x0).bind fun u5 => im_b2 (sh_Model_letter F x0 e3 w) fun v11 w9 => (if v11 = 0 then sh_Model_allLetters_33 F (sh_Model_allLetters_5 F f) x0 x2 x4 w9 else sh_Model_allLetters_34 F (sh_Model_allLetters_5 F f) x0 x2 x4 (1 : Int32) w9)))
set_option maxHeartbeats 4000000 in
set_option maxRecDepth 100000 in
theorem bk_Model_allLetters_5 {F : Nat} {r : Int32 × im_W} (X : im_X D vwCl tA lo im_NW c_Model_allLetters 5 (some .boolean) RC_Model im_T p s m args meth c) : ∀ (f : Nat) (x0 : Nat) (x2 : Int32) (x3 : Int32) (x4 : Int32) (w : im_W), sh_Model_allLetters_5 F f x0 x2 x3 x4 w = some r → im_WW D vwCl tA lo 5 p l e (im_rm 2 42) s m args below meth c 0 0 (MQ below (im_Post D vwCl tA lo (some (.int r.1)) r.2) args s 0 0 (fun q => lo ≤ q)) 5 [(0, .ref (lo + x0)), (2, .int x2), (3, .int x3), (4, .int x4)] [] w := by
  obtain ⟨hx, hb, hr, hts, hown, hlk, hml, hK, hN⟩ := id X
  intro f
  induction f with
  | zero =>
    intro x0 x2 x3 x4 w hsh
    cases hsh
  | succ f ih =>
    intro x0 x2 x3 x4 w hsh H locs ls hH hl
    unfold sh_Model_allLetters_5 at hsh
    refine lv_iload hx hb d_Model_allLetters_5 (lv_at hl 3 rfl) ?_
    refine lv_iload_n hx hb d_Model_allLetters_7 rfl (lv_at hl 1 rfl) ?_
    refine lv_icmp_ge (tgt := 41) hx hb d_Model_allLetters_8 (by decide) (fun cc => ?_) (fun cc => ?_)
    · have hsh := im_it hsh cc
      refine lv_iload_n hx hb d_Model_allLetters_41 rfl (lv_at hl 2 rfl) ?_
      obtain ⟨rfl, hn⟩ := im_rz_s hsh
      exact im_zret hx hb hr hlk hn hH d_Model_allLetters_42
    · have hsh := im_if hsh cc
      refine lv_iload_n hx hb d_Model_allLetters_11 rfl (lv_at hl 2 rfl) ?_
      refine lv_if_eq (tgt := 33) hx hb d_Model_allLetters_12 (by decide) (fun cc => ?_) (fun cc => ?_)
      · have hsh := im_it hsh cc
        exact bk_Model_allLetters_33 X ih x0 x2 x4 w hsh H locs ls hH (lv_sub hl [0, 1, 3] rfl)
      · have hsh := im_if hsh cc
        refine lv_aload_n hx hb d_Model_allLetters_15 rfl (lv_at hl 0 rfl) ?_
        refine lv_aload_n hx hb d_Model_allLetters_16 rfl (lv_at hl 0 rfl) ?_
        obtain ⟨f1, h2, hsh⟩ := im_bd hsh
        refine im_getR hx hb hts inC_Model hown hK hH (ci := 9) rfl 1 (by decide) (hts _ wd_632) rfl h2 d_Model_allLetters_17 ?_
        refine lv_iload hx hb d_Model_allLetters_20 (lv_at hl 3 rfl) ?_
        obtain ⟨e3, h4, hsh⟩ := im_bd hsh
        refine im_cald hx hb hK hH h4 d_Model_allLetters_22 ?_
        obtain ⟨u5, h6, hsh⟩ := im_bd hsh
        obtain ⟨g7, h8⟩ := im_is_s h6
        obtain ⟨v11, w9, h10, hsh⟩ := im_bd2 hsh
        refine im_afterI (va_runV (As := [.int e3]) (rest := []) (C := RC_Model) ⟨hx, hb, hml, hown, hts⟩ (met_Model_letter h10) ⟨(callB_of 1 hts (im_good wd_771) rfl rfl rfl (hts _ wd_10) (hts _ wd_768) (by decide +kernel) ⟨Nat.le_of_ble_eq_true rfl, Nat.le_of_ble_eq_true rfl⟩), hts _ wd_770, hts _ sl_Model_letter⟩ (im_preV im_NW_ok hK hN hH (ci := 9) rfl rfl h8 _) rfl rfl hl.1 rfl (lv_room (Nat.le_of_ble_eq_true rfl)) d_Model_allLetters_23 ⟨Nat.le_of_ble_eq_true rfl, Nat.le_of_ble_eq_true rfl⟩) hH (fun H locs hH => ?_)
        refine lv_if_eq (tgt := 33) hx hb d_Model_allLetters_26 (by decide) (fun cc => ?_) (fun cc => ?_)
        · have hsh := im_it hsh cc
          exact bk_Model_allLetters_33 X ih x0 x2 x4 w9 hsh H locs ls hH (lv_sub hl [0, 1, 3] rfl)
        · have hsh := im_if hsh cc
          refine lv_iconst (v := 1) hx hb d_Model_allLetters_29 (by decide) ?_
          refine lv_goto (tgt := 34) hx hb d_Model_allLetters_30 (by decide) ?_
          exact bk_Model_allLetters_34 X ih x0 x2 x4 (1 : Int32) w9 hsh H locs ls hH (lv_sub hl [0, 1, 3] rfl)
def sh_Model_allLetters (F : Nat) (x0 : Nat) (x1 : Int32) (x2 : Int32) (w : im_W) : Option (Int32 × im_W) :=
  sh_Model_allLetters_5 F F x0 x2 (1 : Int32) x1 w
set_option maxHeartbeats 4000000 in
set_option maxRecDepth 100000 in
theorem met_Model_allLetters {F : Nat} {x0 : Nat} {x1 : Int32} {x2 : Int32} {w : im_W} {r : Int32 × im_W} (hsh : sh_Model_allLetters F x0 x1 x2 w = some r) : Met l y_Model_allLetters (Cond.code y_Model_allLetters c_Model_allLetters 5 (some .boolean) :: im_T) (im_rm 2 42) (im_Pre D vwCl tA lo im_NW [.ref (lo + x0), .int x1, .int x2] w) (im_Post D vwCl tA lo (some (.int r.1)) r.2) 0 0 (fun q => lo ≤ q) := by
  refine im_ofW (cc := c_Model_allLetters) (nL := 5) (ret := (some .boolean)) (by decide) (Nat.le_of_ble_eq_true rfl) ?_
  intro p e s m args below meth c X H locs ls hH hl
  obtain ⟨hx, hb, hr, hts, hown, hlk, hml, hK, hN⟩ := id X
  have hl : lv_has ls 5 [(0, .ref (lo + x0)), (1, .int x1), (2, .int x2)] := hl
  unfold sh_Model_allLetters at hsh
  refine lv_iconst (v := 1) hx hb d_Model_allLetters_0 (by decide) ?_
  refine lv_istore_n (lv' := [(3, .int (1 : Int32)), (0, .ref (lo + x0)), (1, .int x1), (2, .int x2)]) hx hb d_Model_allLetters_1 rfl hl (by decide) rfl (fun ls hl => ?_)
  refine lv_iload_n hx hb d_Model_allLetters_2 rfl (lv_at hl 2 rfl) ?_
  refine lv_istore (lv' := [(4, .int x1), (3, .int (1 : Int32)), (0, .ref (lo + x0)), (1, .int x1), (2, .int x2)]) hx hb d_Model_allLetters_3 hl (by decide) rfl (fun ls hl => ?_)
  exact bk_Model_allLetters_5 X F x0 x2 (1 : Int32) x1 w hsh H locs ls hH (lv_sub hl [2, 4, 1, 0] rfl)
theorem wd_776 : (Jvm.Cond.methodLink "LanguageTagsModel" (98 : Nat) ({ cls := "LanguageTagsModel", name := "digit", desc := "(C)Z" } : Jvm.MethodName)) ∈ im_T := im_memT (i := 776) (by decide +kernel) (by decide +kernel)
theorem wd_778 : (Jvm.Cond.instanceMethod ({ cls := "LanguageTagsModel", name := "digit", desc := "(C)Z" } : Jvm.MethodName)) ∈ im_T := im_memT (i := 778) (by decide +kernel) (by decide +kernel)
theorem wd_779 : (Jvm.Cond.code ({ cls := "LanguageTagsModel", name := "digit", desc := "(C)Z" } : Jvm.MethodName) prog_12_method_2_code (2 : Nat) (Option.some Jvm.ClassFile.FieldType.boolean)) ∈ im_T := im_memT (i := 779) (by decide +kernel) (by decide +kernel)
theorem d_Model_allDigits_0 : decode c_Model_allDigits 0 = .ok (.iconst 1, 1) := by decide +kernel
theorem d_Model_allDigits_1 : decode c_Model_allDigits 1 = .ok (.istore_n 3, 1) := by decide +kernel
theorem d_Model_allDigits_2 : decode c_Model_allDigits 2 = .ok (.iload_n 1, 1) := by decide +kernel
theorem d_Model_allDigits_3 : decode c_Model_allDigits 3 = .ok (.istore 4, 2) := by decide +kernel
theorem d_Model_allDigits_5 : decode c_Model_allDigits 5 = .ok (.iload 4, 2) := by decide +kernel
theorem d_Model_allDigits_7 : decode c_Model_allDigits 7 = .ok (.iload_n 2, 1) := by decide +kernel
theorem d_Model_allDigits_8 : decode c_Model_allDigits 8 = .ok (.if_icmp .ge (33), 3) := by decide +kernel
theorem d_Model_allDigits_11 : decode c_Model_allDigits 11 = .ok (.iload_n 3, 1) := by decide +kernel
theorem d_Model_allDigits_12 : decode c_Model_allDigits 12 = .ok (.ifCond .eq (21), 3) := by decide +kernel
theorem d_Model_allDigits_15 : decode c_Model_allDigits 15 = .ok (.aload_n 0, 1) := by decide +kernel
theorem d_Model_allDigits_16 : decode c_Model_allDigits 16 = .ok (.aload_n 0, 1) := by decide +kernel
theorem d_Model_allDigits_17 : decode c_Model_allDigits 17 = .ok (.getfield 7, 3) := by decide +kernel
theorem d_Model_allDigits_20 : decode c_Model_allDigits 20 = .ok (.iload 4, 2) := by decide +kernel
theorem d_Model_allDigits_22 : decode c_Model_allDigits 22 = .ok (.caload, 1) := by decide +kernel
theorem d_Model_allDigits_23 : decode c_Model_allDigits 23 = .ok (.invokevirtual 98, 3) := by decide +kernel
theorem d_Model_allDigits_26 : decode c_Model_allDigits 26 = .ok (.ifCond .eq (7), 3) := by decide +kernel
theorem d_Model_allDigits_29 : decode c_Model_allDigits 29 = .ok (.iconst 1, 1) := by decide +kernel
theorem d_Model_allDigits_30 : decode c_Model_allDigits 30 = .ok (.goto (4), 3) := by decide +kernel
theorem d_Model_allDigits_33 : decode c_Model_allDigits 33 = .ok (.iconst 0, 1) := by decide +kernel
theorem d_Model_allDigits_34 : decode c_Model_allDigits 34 = .ok (.istore_n 3, 1) := by decide +kernel
theorem d_Model_allDigits_35 : decode c_Model_allDigits 35 = .ok (.iinc 4 (1), 3) := by decide +kernel
theorem d_Model_allDigits_38 : decode c_Model_allDigits 38 = .ok (.goto (-33), 3) := by decide +kernel
theorem d_Model_allDigits_41 : decode c_Model_allDigits 41 = .ok (.iload_n 3, 1) := by decide +kernel
theorem d_Model_allDigits_42 : decode c_Model_allDigits 42 = .ok (.ireturn, 1) := by decide +kernel
def sh_Model_allDigits_34 (F : Nat) (k5 : Nat → Int32 → Int32 → Int32 → im_W → Option (Int32 × im_W)) (x0 : Nat) (x2 : Int32) (x4 : Int32) (y0 : Int32) (w : im_W) : Option (Int32 × im_W) :=
  k5 x0 x2 y0 (x4 + (1 : Int32)) w
set_option maxHeartbeats 4000000 in
set_option maxRecDepth 100000 in
theorem bk_Model_allDigits_34 {F : Nat} {r : Int32 × im_W} (X : im_X D vwCl tA lo im_NW c_Model_allDigits 5 (some .boolean) RC_Model im_T p s m args meth c) {k5 : Nat → Int32 → Int32 → Int32 → im_W → Option (Int32 × im_W)} (hk5 : ∀ (x0 : Nat) (x2 : Int32) (x3 : Int32) (x4 : Int32) (w : im_W), k5 x0 x2 x3 x4 w = some r → im_WW D vwCl tA lo 5 p l e (im_rm 1 21) s m args below meth c 0 0 (MQ below (im_Post D vwCl tA lo (some (.int r.1)) r.2) args s 0 0 (fun q => lo ≤ q)) 5 [(0, .ref (lo + x0)), (2, .int x2), (3, .int x3), (4, .int x4)] [] w) (x0 : Nat) (x2 : Int32) (x4 : Int32) (y0 : Int32) (w : im_W) (hsh : sh_Model_allDigits_34 F k5 x0 x2 x4 y0 w = some r) : im_WW D vwCl tA lo 5 p l e (im_rm 1 21) s m args below meth c 0 0 (MQ below (im_Post D vwCl tA lo (some (.int r.1)) r.2) args s 0 0 (fun q => lo ≤ q)) 34 [(0, .ref (lo + x0)), (2, .int x2), (4, .int x4)] [.int y0] w := by
  obtain ⟨hx, hb, hr, hts, hown, hlk, hml, hK, hN⟩ := id X
  intro H locs ls hH hl
  unfold sh_Model_allDigits_34 at hsh
  refine lv_istore_n (lv' := [(3, .int y0), (0, .ref (lo + x0)), (2, .int x2), (4, .int x4)]) hx hb d_Model_allDigits_34 rfl hl (by decide) rfl (fun ls hl => ?_)
  refine lv_iinc (v := (x4 + (1 : Int32))) (lv' := [(4, .int (x4 + (1 : Int32))), (3, .int y0), (0, .ref (lo + x0)), (2, .int x2)]) hx hb d_Model_allDigits_35 hl (k := 3) rfl rfl (by decide) rfl (fun ls hl => ?_)
  refine lv_goto (tgt := 5) hx hb d_Model_allDigits_38 (by decide) ?_
  exact hk5 x0 x2 y0 (x4 + (1 : Int32)) w hsh H locs ls hH (lv_sub hl [2, 3, 1, 0] rfl)
def sh_Model_allDigits_33 (F : Nat) (k5 : Nat → Int32 → Int32 → Int32 → im_W → Option (Int32 × im_W)) (x0 : Nat) (x2 : Int32) (x4 : Int32) (w : im_W) : Option (Int32 × im_W) :=
  sh_Model_allDigits_34 F k5 x0 x2 x4 (0 : Int32) w
set_option maxHeartbeats 4000000 in
set_option maxRecDepth 100000 in
theorem bk_Model_allDigits_33 {F : Nat} {r : Int32 × im_W} (X : im_X D vwCl tA lo im_NW c_Model_allDigits 5 (some .boolean) RC_Model im_T p s m args meth c) {k5 : Nat → Int32 → Int32 → Int32 → im_W → Option (Int32 × im_W)} (hk5 : ∀ (x0 : Nat) (x2 : Int32) (x3 : Int32) (x4 : Int32) (w : im_W), k5 x0 x2 x3 x4 w = some r → im_WW D vwCl tA lo 5 p l e (im_rm 1 21) s m args below meth c 0 0 (MQ below (im_Post D vwCl tA lo (some (.int r.1)) r.2) args s 0 0 (fun q => lo ≤ q)) 5 [(0, .ref (lo + x0)), (2, .int x2), (3, .int x3), (4, .int x4)] [] w) (x0 : Nat) (x2 : Int32) (x4 : Int32) (w : im_W) (hsh : sh_Model_allDigits_33 F k5 x0 x2 x4 w = some r) : im_WW D vwCl tA lo 5 p l e (im_rm 1 21) s m args below meth c 0 0 (MQ below (im_Post D vwCl tA lo (some (.int r.1)) r.2) args s 0 0 (fun q => lo ≤ q)) 33 [(0, .ref (lo + x0)), (2, .int x2), (4, .int x4)] [] w := by
  obtain ⟨hx, hb, hr, hts, hown, hlk, hml, hK, hN⟩ := id X
  intro H locs ls hH hl
  unfold sh_Model_allDigits_33 at hsh
  refine lv_iconst (v := 0) hx hb d_Model_allDigits_33 (by decide) ?_
  exact bk_Model_allDigits_34 X hk5 x0 x2 x4 (0 : Int32) w hsh H locs ls hH (lv_sub hl [0, 1, 2] rfl)
def sh_Model_allDigits_5 (F : Nat) : Nat → Nat → Int32 → Int32 → Int32 → im_W → Option (Int32 × im_W)
  | 0, _, _, _, _, _ => none
  | f + 1, x0, x2, x3, x4, w => (if x2 ≤ x4 then im_rz x3 w else (if x3 = 0 then sh_Model_allDigits_33 F (sh_Model_allDigits_5 F f) x0 x2 x4 w else (im_gR w 9 x0 1).bind fun f1 => (im_lI w 2 f1 x4).bind fun e3 => (im_is w 9 x0).bind fun u5 => im_b2 (sh_Model_digit F x0 e3 w) fun v11 w9 => (if v11 = 0 then sh_Model_allDigits_33 F (sh_Model_allDigits_5 F f) x0 x2 x4 w9 else sh_Model_allDigits_34 F (sh_Model_allDigits_5 F f) x0 x2 x4 (1 : Int32) w9)))
set_option maxHeartbeats 4000000 in
set_option maxRecDepth 100000 in
theorem bk_Model_allDigits_5 {F : Nat} {r : Int32 × im_W} (X : im_X D vwCl tA lo im_NW c_Model_allDigits 5 (some .boolean) RC_Model im_T p s m args meth c) : ∀ (f : Nat) (x0 : Nat) (x2 : Int32) (x3 : Int32) (x4 : Int32) (w : im_W), sh_Model_allDigits_5 F f x0 x2 x3 x4 w = some r → im_WW D vwCl tA lo 5 p l e (im_rm 1 21) s m args below meth c 0 0 (MQ below (im_Post D vwCl tA lo (some (.int r.1)) r.2) args s 0 0 (fun q => lo ≤ q)) 5 [(0, .ref (lo + x0)), (2, .int x2), (3, .int x3), (4, .int x4)] [] w := by
  obtain ⟨hx, hb, hr, hts, hown, hlk, hml, hK, hN⟩ := id X
  intro f
  induction f with
  | zero =>
    intro x0 x2 x3 x4 w hsh
    cases hsh
  | succ f ih =>
    intro x0 x2 x3 x4 w hsh H locs ls hH hl
    unfold sh_Model_allDigits_5 at hsh
    refine lv_iload hx hb d_Model_allDigits_5 (lv_at hl 3 rfl) ?_
    refine lv_iload_n hx hb d_Model_allDigits_7 rfl (lv_at hl 1 rfl) ?_
    refine lv_icmp_ge (tgt := 41) hx hb d_Model_allDigits_8 (by decide) (fun cc => ?_) (fun cc => ?_)
    · have hsh := im_it hsh cc
      refine lv_iload_n hx hb d_Model_allDigits_41 rfl (lv_at hl 2 rfl) ?_
      obtain ⟨rfl, hn⟩ := im_rz_s hsh
      exact im_zret hx hb hr hlk hn hH d_Model_allDigits_42
    · have hsh := im_if hsh cc
      refine lv_iload_n hx hb d_Model_allDigits_11 rfl (lv_at hl 2 rfl) ?_
      refine lv_if_eq (tgt := 33) hx hb d_Model_allDigits_12 (by decide) (fun cc => ?_) (fun cc => ?_)
      · have hsh := im_it hsh cc
        exact bk_Model_allDigits_33 X ih x0 x2 x4 w hsh H locs ls hH (lv_sub hl [0, 1, 3] rfl)
      · have hsh := im_if hsh cc
        refine lv_aload_n hx hb d_Model_allDigits_15 rfl (lv_at hl 0 rfl) ?_
        refine lv_aload_n hx hb d_Model_allDigits_16 rfl (lv_at hl 0 rfl) ?_
        obtain ⟨f1, h2, hsh⟩ := im_bd hsh
        refine im_getR hx hb hts inC_Model hown hK hH (ci := 9) rfl 1 (by decide) (hts _ wd_632) rfl h2 d_Model_allDigits_17 ?_
        refine lv_iload hx hb d_Model_allDigits_20 (lv_at hl 3 rfl) ?_
        obtain ⟨e3, h4, hsh⟩ := im_bd hsh
        refine im_cald hx hb hK hH h4 d_Model_allDigits_22 ?_
        obtain ⟨u5, h6, hsh⟩ := im_bd hsh
        obtain ⟨g7, h8⟩ := im_is_s h6
        obtain ⟨v11, w9, h10, hsh⟩ := im_bd2 hsh
        refine im_afterI (va_runV (As := [.int e3]) (rest := []) (C := RC_Model) ⟨hx, hb, hml, hown, hts⟩ (met_Model_digit h10) ⟨(callB_of 1 hts (im_good wd_779) rfl rfl rfl (hts _ wd_10) (hts _ wd_776) (by decide +kernel) ⟨Nat.le_of_ble_eq_true rfl, Nat.le_of_ble_eq_true rfl⟩), hts _ wd_778, hts _ sl_Model_digit⟩ (im_preV im_NW_ok hK hN hH (ci := 9) rfl rfl h8 _) rfl rfl hl.1 rfl (lv_room (Nat.le_of_ble_eq_true rfl)) d_Model_allDigits_23 ⟨Nat.le_of_ble_eq_true rfl, Nat.le_of_ble_eq_true rfl⟩) hH (fun H locs hH => ?_)
        refine lv_if_eq (tgt := 33) hx hb d_Model_allDigits_26 (by decide) (fun cc => ?_) (fun cc => ?_)
        · have hsh := im_it hsh cc
          exact bk_Model_allDigits_33 X ih x0 x2 x4 w9 hsh H locs ls hH (lv_sub hl [0, 1, 3] rfl)
        · have hsh := im_if hsh cc
          refine lv_iconst (v := 1) hx hb d_Model_allDigits_29 (by decide) ?_
          refine lv_goto (tgt := 34) hx hb d_Model_allDigits_30 (by decide) ?_
          exact bk_Model_allDigits_34 X ih x0 x2 x4 (1 : Int32) w9 hsh H locs ls hH (lv_sub hl [0, 1, 3] rfl)
def sh_Model_allDigits (F : Nat) (x0 : Nat) (x1 : Int32) (x2 : Int32) (w : im_W) : Option (Int32 × im_W) :=
  sh_Model_allDigits_5 F F x0 x2 (1 : Int32) x1 w
set_option maxHeartbeats 4000000 in
set_option maxRecDepth 100000 in
theorem met_Model_allDigits {F : Nat} {x0 : Nat} {x1 : Int32} {x2 : Int32} {w : im_W} {r : Int32 × im_W} (hsh : sh_Model_allDigits F x0 x1 x2 w = some r) : Met l y_Model_allDigits (Cond.code y_Model_allDigits c_Model_allDigits 5 (some .boolean) :: im_T) (im_rm 1 21) (im_Pre D vwCl tA lo im_NW [.ref (lo + x0), .int x1, .int x2] w) (im_Post D vwCl tA lo (some (.int r.1)) r.2) 0 0 (fun q => lo ≤ q) := by
  refine im_ofW (cc := c_Model_allDigits) (nL := 5) (ret := (some .boolean)) (by decide) (Nat.le_of_ble_eq_true rfl) ?_
  intro p e s m args below meth c X H locs ls hH hl
  obtain ⟨hx, hb, hr, hts, hown, hlk, hml, hK, hN⟩ := id X
  have hl : lv_has ls 5 [(0, .ref (lo + x0)), (1, .int x1), (2, .int x2)] := hl
  unfold sh_Model_allDigits at hsh
  refine lv_iconst (v := 1) hx hb d_Model_allDigits_0 (by decide) ?_
  refine lv_istore_n (lv' := [(3, .int (1 : Int32)), (0, .ref (lo + x0)), (1, .int x1), (2, .int x2)]) hx hb d_Model_allDigits_1 rfl hl (by decide) rfl (fun ls hl => ?_)
  refine lv_iload_n hx hb d_Model_allDigits_2 rfl (lv_at hl 2 rfl) ?_
  refine lv_istore (lv' := [(4, .int x1), (3, .int (1 : Int32)), (0, .ref (lo + x0)), (1, .int x1), (2, .int x2)]) hx hb d_Model_allDigits_3 hl (by decide) rfl (fun ls hl => ?_)
  exact bk_Model_allDigits_5 X F x0 x2 (1 : Int32) x1 w hsh H locs ls hH (lv_sub hl [2, 4, 1, 0] rfl)
theorem d_Model_allBoth_0 : decode c_Model_allBoth 0 = .ok (.iconst 1, 1) := by decide +kernel
theorem d_Model_allBoth_1 : decode c_Model_allBoth 1 = .ok (.istore_n 3, 1) := by decide +kernel
theorem d_Model_allBoth_2 : decode c_Model_allBoth 2 = .ok (.iload_n 1, 1) := by decide +kernel
theorem d_Model_allBoth_3 : decode c_Model_allBoth 3 = .ok (.istore 4, 2) := by decide +kernel
theorem d_Model_allBoth_5 : decode c_Model_allBoth 5 = .ok (.iload 4, 2) := by decide +kernel
theorem d_Model_allBoth_7 : decode c_Model_allBoth 7 = .ok (.iload_n 2, 1) := by decide +kernel
theorem d_Model_allBoth_8 : decode c_Model_allBoth 8 = .ok (.if_icmp .ge (47), 3) := by decide +kernel
theorem d_Model_allBoth_11 : decode c_Model_allBoth 11 = .ok (.iload_n 3, 1) := by decide +kernel
theorem d_Model_allBoth_12 : decode c_Model_allBoth 12 = .ok (.ifCond .eq (35), 3) := by decide +kernel
theorem d_Model_allBoth_15 : decode c_Model_allBoth 15 = .ok (.aload_n 0, 1) := by decide +kernel
theorem d_Model_allBoth_16 : decode c_Model_allBoth 16 = .ok (.aload_n 0, 1) := by decide +kernel
theorem d_Model_allBoth_17 : decode c_Model_allBoth 17 = .ok (.getfield 7, 3) := by decide +kernel
theorem d_Model_allBoth_20 : decode c_Model_allBoth 20 = .ok (.iload 4, 2) := by decide +kernel
theorem d_Model_allBoth_22 : decode c_Model_allBoth 22 = .ok (.caload, 1) := by decide +kernel
theorem d_Model_allBoth_23 : decode c_Model_allBoth 23 = .ok (.invokevirtual 94, 3) := by decide +kernel
theorem d_Model_allBoth_26 : decode c_Model_allBoth 26 = .ok (.ifCond .ne (17), 3) := by decide +kernel
theorem d_Model_allBoth_29 : decode c_Model_allBoth 29 = .ok (.aload_n 0, 1) := by decide +kernel
theorem d_Model_allBoth_30 : decode c_Model_allBoth 30 = .ok (.aload_n 0, 1) := by decide +kernel
theorem d_Model_allBoth_31 : decode c_Model_allBoth 31 = .ok (.getfield 7, 3) := by decide +kernel
theorem d_Model_allBoth_34 : decode c_Model_allBoth 34 = .ok (.iload 4, 2) := by decide +kernel
theorem d_Model_allBoth_36 : decode c_Model_allBoth 36 = .ok (.caload, 1) := by decide +kernel
theorem d_Model_allBoth_37 : decode c_Model_allBoth 37 = .ok (.invokevirtual 98, 3) := by decide +kernel
theorem d_Model_allBoth_40 : decode c_Model_allBoth 40 = .ok (.ifCond .eq (7), 3) := by decide +kernel
theorem d_Model_allBoth_43 : decode c_Model_allBoth 43 = .ok (.iconst 1, 1) := by decide +kernel
theorem d_Model_allBoth_44 : decode c_Model_allBoth 44 = .ok (.goto (4), 3) := by decide +kernel
theorem d_Model_allBoth_47 : decode c_Model_allBoth 47 = .ok (.iconst 0, 1) := by decide +kernel
theorem d_Model_allBoth_48 : decode c_Model_allBoth 48 = .ok (.istore_n 3, 1) := by decide +kernel
theorem d_Model_allBoth_49 : decode c_Model_allBoth 49 = .ok (.iinc 4 (1), 3) := by decide +kernel
theorem d_Model_allBoth_52 : decode c_Model_allBoth 52 = .ok (.goto (-47), 3) := by decide +kernel
theorem d_Model_allBoth_55 : decode c_Model_allBoth 55 = .ok (.iload_n 3, 1) := by decide +kernel
theorem d_Model_allBoth_56 : decode c_Model_allBoth 56 = .ok (.ireturn, 1) := by decide +kernel
def sh_Model_allBoth_48 (F : Nat) (k5 : Nat → Int32 → Int32 → Int32 → im_W → Option (Int32 × im_W)) (x0 : Nat) (x2 : Int32) (x4 : Int32) (y0 : Int32) (w : im_W) : Option (Int32 × im_W) :=
  k5 x0 x2 y0 (x4 + (1 : Int32)) w
set_option maxHeartbeats 4000000 in
set_option maxRecDepth 100000 in
theorem bk_Model_allBoth_48 {F : Nat} {r : Int32 × im_W} (X : im_X D vwCl tA lo im_NW c_Model_allBoth 5 (some .boolean) RC_Model im_T p s m args meth c) {k5 : Nat → Int32 → Int32 → Int32 → im_W → Option (Int32 × im_W)} (hk5 : ∀ (x0 : Nat) (x2 : Int32) (x3 : Int32) (x4 : Int32) (w : im_W), k5 x0 x2 x3 x4 w = some r → im_WW D vwCl tA lo 5 p l e (im_rm 2 42) s m args below meth c 0 0 (MQ below (im_Post D vwCl tA lo (some (.int r.1)) r.2) args s 0 0 (fun q => lo ≤ q)) 5 [(0, .ref (lo + x0)), (2, .int x2), (3, .int x3), (4, .int x4)] [] w) (x0 : Nat) (x2 : Int32) (x4 : Int32) (y0 : Int32) (w : im_W) (hsh : sh_Model_allBoth_48 F k5 x0 x2 x4 y0 w = some r) : im_WW D vwCl tA lo 5 p l e (im_rm 2 42) s m args below meth c 0 0 (MQ below (im_Post D vwCl tA lo (some (.int r.1)) r.2) args s 0 0 (fun q => lo ≤ q)) 48 [(0, .ref (lo + x0)), (2, .int x2), (4, .int x4)] [.int y0] w := by
  obtain ⟨hx, hb, hr, hts, hown, hlk, hml, hK, hN⟩ := id X
  intro H locs ls hH hl
  unfold sh_Model_allBoth_48 at hsh
  refine lv_istore_n (lv' := [(3, .int y0), (0, .ref (lo + x0)), (2, .int x2), (4, .int x4)]) hx hb d_Model_allBoth_48 rfl hl (by decide) rfl (fun ls hl => ?_)
  refine lv_iinc (v := (x4 + (1 : Int32))) (lv' := [(4, .int (x4 + (1 : Int32))), (3, .int y0), (0, .ref (lo + x0)), (2, .int x2)]) hx hb d_Model_allBoth_49 hl (k := 3) rfl rfl (by decide) rfl (fun ls hl => ?_)
  refine lv_goto (tgt := 5) hx hb d_Model_allBoth_52 (by decide) ?_
  exact hk5 x0 x2 y0 (x4 + (1 : Int32)) w hsh H locs ls hH (lv_sub hl [2, 3, 1, 0] rfl)
def sh_Model_allBoth_43 (F : Nat) (k5 : Nat → Int32 → Int32 → Int32 → im_W → Option (Int32 × im_W)) (x0 : Nat) (x2 : Int32) (x4 : Int32) (w : im_W) : Option (Int32 × im_W) :=
  sh_Model_allBoth_48 F k5 x0 x2 x4 (1 : Int32) w
set_option maxHeartbeats 4000000 in
set_option maxRecDepth 100000 in
theorem bk_Model_allBoth_43 {F : Nat} {r : Int32 × im_W} (X : im_X D vwCl tA lo im_NW c_Model_allBoth 5 (some .boolean) RC_Model im_T p s m args meth c) {k5 : Nat → Int32 → Int32 → Int32 → im_W → Option (Int32 × im_W)} (hk5 : ∀ (x0 : Nat) (x2 : Int32) (x3 : Int32) (x4 : Int32) (w : im_W), k5 x0 x2 x3 x4 w = some r → im_WW D vwCl tA lo 5 p l e (im_rm 2 42) s m args below meth c 0 0 (MQ below (im_Post D vwCl tA lo (some (.int r.1)) r.2) args s 0 0 (fun q => lo ≤ q)) 5 [(0, .ref (lo + x0)), (2, .int x2), (3, .int x3), (4, .int x4)] [] w) (x0 : Nat) (x2 : Int32) (x4 : Int32) (w : im_W) (hsh : sh_Model_allBoth_43 F k5 x0 x2 x4 w = some r) : im_WW D vwCl tA lo 5 p l e (im_rm 2 42) s m args below meth c 0 0 (MQ below (im_Post D vwCl tA lo (some (.int r.1)) r.2) args s 0 0 (fun q => lo ≤ q)) 43 [(0, .ref (lo + x0)), (2, .int x2), (4, .int x4)] [] w := by
  obtain ⟨hx, hb, hr, hts, hown, hlk, hml, hK, hN⟩ := id X
  intro H locs ls hH hl
  unfold sh_Model_allBoth_43 at hsh
  refine lv_iconst (v := 1) hx hb d_Model_allBoth_43 (by decide) ?_
  refine lv_goto (tgt := 48) hx hb d_Model_allBoth_44 (by decide) ?_
  exact bk_Model_allBoth_48 X hk5 x0 x2 x4 (1 : Int32) w hsh H locs ls hH (lv_sub hl [0, 1, 2] rfl)
def sh_Model_allBoth_47 (F : Nat) (k5 : Nat → Int32 → Int32 → Int32 → im_W → Option (Int32 × im_W)) (x0 : Nat) (x2 : Int32) (x4 : Int32) (w : im_W) : Option (Int32 × im_W) :=
  sh_Model_allBoth_48 F k5 x0 x2 x4 (0 : Int32) w
set_option maxHeartbeats 4000000 in
set_option maxRecDepth 100000 in
theorem bk_Model_allBoth_47 {F : Nat} {r : Int32 × im_W} (X : im_X D vwCl tA lo im_NW c_Model_allBoth 5 (some .boolean) RC_Model im_T p s m args meth c) {k5 : Nat → Int32 → Int32 → Int32 → im_W → Option (Int32 × im_W)} (hk5 : ∀ (x0 : Nat) (x2 : Int32) (x3 : Int32) (x4 : Int32) (w : im_W), k5 x0 x2 x3 x4 w = some r → im_WW D vwCl tA lo 5 p l e (im_rm 2 42) s m args below meth c 0 0 (MQ below (im_Post D vwCl tA lo (some (.int r.1)) r.2) args s 0 0 (fun q => lo ≤ q)) 5 [(0, .ref (lo + x0)), (2, .int x2), (3, .int x3), (4, .int x4)] [] w) (x0 : Nat) (x2 : Int32) (x4 : Int32) (w : im_W) (hsh : sh_Model_allBoth_47 F k5 x0 x2 x4 w = some r) : im_WW D vwCl tA lo 5 p l e (im_rm 2 42) s m args below meth c 0 0 (MQ below (im_Post D vwCl tA lo (some (.int r.1)) r.2) args s 0 0 (fun q => lo ≤ q)) 47 [(0, .ref (lo + x0)), (2, .int x2), (4, .int x4)] [] w := by
  obtain ⟨hx, hb, hr, hts, hown, hlk, hml, hK, hN⟩ := id X
  intro H locs ls hH hl
  unfold sh_Model_allBoth_47 at hsh
  refine lv_iconst (v := 0) hx hb d_Model_allBoth_47 (by decide) ?_
  exact bk_Model_allBoth_48 X hk5 x0 x2 x4 (0 : Int32) w hsh H locs ls hH (lv_sub hl [0, 1, 2] rfl)
def sh_Model_allBoth_5 (F : Nat) : Nat → Nat → Int32 → Int32 → Int32 → im_W → Option (Int32 × im_W)
  | 0, _, _, _, _, _ => none
  | f + 1, x0, x2, x3, x4, w => (if x2 ≤ x4 then im_rz x3 w else (if x3 = 0 then sh_Model_allBoth_47 F (sh_Model_allBoth_5 F f) x0 x2 x4 w else (im_gR w 9 x0 1).bind fun f1 => (im_lI w 2 f1 x4).bind fun e3 => (im_is w 9 x0).bind fun u5 => im_b2 (sh_Model_letter F x0 e3 w) fun v11 w9 => (if v11 = 0 then (im_gR w9 9 x0 1).bind fun f12 => (im_lI w9 2 f12 x4).bind fun e14 => (im_is w9 9 x0).bind fun u16 => im_b2 (sh_Model_digit F x0 e14 w9) fun v22 w20 => (if v22 = 0 then sh_Model_allBoth_47 F (sh_Model_allBoth_5 F f) x0 x2 x4 w20 else sh_Model_allBoth_43 F (sh_Model_allBoth_5 F f) x0 x2 x4 w20) else sh_Model_allBoth_43 F (sh_Model_allBoth_5 F f) x0 x2 x4 w9)))
set_option maxHeartbeats 4000000 in
set_option maxRecDepth 100000 in
theorem bk_Model_allBoth_5 {F : Nat} {r : Int32 × im_W} (X : im_X D vwCl tA lo im_NW c_Model_allBoth 5 (some .boolean) RC_Model im_T p s m args meth c) : ∀ (f : Nat) (x0 : Nat) (x2 : Int32) (x3 : Int32) (x4 : Int32) (w : im_W), sh_Model_allBoth_5 F f x0 x2 x3 x4 w = some r → im_WW D vwCl tA lo 5 p l e (im_rm 2 42) s m args below meth c 0 0 (MQ below (im_Post D vwCl tA lo (some (.int r.1)) r.2) args s 0 0 (fun q => lo ≤ q)) 5 [(0, .ref (lo + x0)), (2, .int x2), (3, .int x3), (4, .int x4)] [] w := by
  obtain ⟨hx, hb, hr, hts, hown, hlk, hml, hK, hN⟩ := id X
  intro f
  induction f with
  | zero =>
    intro x0 x2 x3 x4 w hsh
    cases hsh
  | succ f ih =>
    intro x0 x2 x3 x4 w hsh H locs ls hH hl
    unfold sh_Model_allBoth_5 at hsh
    refine lv_iload hx hb d_Model_allBoth_5 (lv_at hl 3 rfl) ?_
    refine lv_iload_n hx hb d_Model_allBoth_7 rfl (lv_at hl 1 rfl) ?_
    refine lv_icmp_ge (tgt := 55) hx hb d_Model_allBoth_8 (by decide) (fun cc => ?_) (fun cc => ?_)
    · have hsh := im_it hsh cc
      refine lv_iload_n hx hb d_Model_allBoth_55 rfl (lv_at hl 2 rfl) ?_
      obtain ⟨rfl, hn⟩ := im_rz_s hsh
      exact im_zret hx hb hr hlk hn hH d_Model_allBoth_56
    · have hsh := im_if hsh cc
      refine lv_iload_n hx hb d_Model_allBoth_11 rfl (lv_at hl 2 rfl) ?_
      refine lv_if_eq (tgt := 47) hx hb d_Model_allBoth_12 (by decide) (fun cc => ?_) (fun cc => ?_)
      · have hsh := im_it hsh cc
        exact bk_Model_allBoth_47 X ih x0 x2 x4 w hsh H locs ls hH (lv_sub hl [0, 1, 3] rfl)
      · have hsh := im_if hsh cc
        refine lv_aload_n hx hb d_Model_allBoth_15 rfl (lv_at hl 0 rfl) ?_
        refine lv_aload_n hx hb d_Model_allBoth_16 rfl (lv_at hl 0 rfl) ?_
        obtain ⟨f1, h2, hsh⟩ := im_bd hsh
        refine im_getR hx hb hts inC_Model hown hK hH (ci := 9) rfl 1 (by decide) (hts _ wd_632) rfl h2 d_Model_allBoth_17 ?_
        refine lv_iload hx hb d_Model_allBoth_20 (lv_at hl 3 rfl) ?_
        obtain ⟨e3, h4, hsh⟩ := im_bd hsh
        refine im_cald hx hb hK hH h4 d_Model_allBoth_22 ?_
        obtain ⟨u5, h6, hsh⟩ := im_bd hsh
        obtain ⟨g7, h8⟩ := im_is_s h6
        obtain ⟨v11, w9, h10, hsh⟩ := im_bd2 hsh
        refine im_afterI (va_runV (As := [.int e3]) (rest := []) (C := RC_Model) ⟨hx, hb, hml, hown, hts⟩ (met_Model_letter h10) ⟨(callB_of 1 hts (im_good wd_771) rfl rfl rfl (hts _ wd_10) (hts _ wd_768) (by decide +kernel) ⟨Nat.le_of_ble_eq_true rfl, Nat.le_of_ble_eq_true rfl⟩), hts _ wd_770, hts _ sl_Model_letter⟩ (im_preV im_NW_ok hK hN hH (ci := 9) rfl rfl h8 _) rfl rfl hl.1 rfl (lv_room (Nat.le_of_ble_eq_true rfl)) d_Model_allBoth_23 ⟨Nat.le_of_ble_eq_true rfl, Nat.le_of_ble_eq_true rfl⟩) hH (fun H locs hH => ?_)
        refine lv_if_ne (tgt := 43) hx hb d_Model_allBoth_26 (by decide) (fun cc => ?_) (fun cc => ?_)
        · have hsh := im_if hsh cc
          exact bk_Model_allBoth_43 X ih x0 x2 x4 w9 hsh H locs ls hH (lv_sub hl [0, 1, 3] rfl)
        · have hsh := im_it hsh cc
          refine lv_aload_n hx hb d_Model_allBoth_29 rfl (lv_at hl 0 rfl) ?_
          refine lv_aload_n hx hb d_Model_allBoth_30 rfl (lv_at hl 0 rfl) ?_
          obtain ⟨f12, h13, hsh⟩ := im_bd hsh
          refine im_getR hx hb hts inC_Model hown hK hH (ci := 9) rfl 1 (by decide) (hts _ wd_632) rfl h13 d_Model_allBoth_31 ?_
          refine lv_iload hx hb d_Model_allBoth_34 (lv_at hl 3 rfl) ?_
          obtain ⟨e14, h15, hsh⟩ := im_bd hsh
          refine im_cald hx hb hK hH h15 d_Model_allBoth_36 ?_
          obtain ⟨u16, h17, hsh⟩ := im_bd hsh
          obtain ⟨g18, h19⟩ := im_is_s h17
          obtain ⟨v22, w20, h21, hsh⟩ := im_bd2 hsh
          refine im_afterI (va_runV (As := [.int e14]) (rest := []) (C := RC_Model) ⟨hx, hb, hml, hown, hts⟩ (met_Model_digit h21) ⟨(callB_of 1 hts (im_good wd_779) rfl rfl rfl (hts _ wd_10) (hts _ wd_776) (by decide +kernel) ⟨Nat.le_of_ble_eq_true rfl, Nat.le_of_ble_eq_true rfl⟩), hts _ wd_778, hts _ sl_Model_digit⟩ (im_preV im_NW_ok hK hN hH (ci := 9) rfl rfl h19 _) rfl rfl hl.1 rfl (lv_room (Nat.le_of_ble_eq_true rfl)) d_Model_allBoth_37 ⟨Nat.le_of_ble_eq_true rfl, Nat.le_of_ble_eq_true rfl⟩) hH (fun H locs hH => ?_)
          refine lv_if_eq (tgt := 47) hx hb d_Model_allBoth_40 (by decide) (fun cc => ?_) (fun cc => ?_)
          · have hsh := im_it hsh cc
            exact bk_Model_allBoth_47 X ih x0 x2 x4 w20 hsh H locs ls hH (lv_sub hl [0, 1, 3] rfl)
          · have hsh := im_if hsh cc
            exact bk_Model_allBoth_43 X ih x0 x2 x4 w20 hsh H locs ls hH (lv_sub hl [0, 1, 3] rfl)
def sh_Model_allBoth (F : Nat) (x0 : Nat) (x1 : Int32) (x2 : Int32) (w : im_W) : Option (Int32 × im_W) :=
  sh_Model_allBoth_5 F F x0 x2 (1 : Int32) x1 w
set_option maxHeartbeats 4000000 in
set_option maxRecDepth 100000 in
theorem met_Model_allBoth {F : Nat} {x0 : Nat} {x1 : Int32} {x2 : Int32} {w : im_W} {r : Int32 × im_W} (hsh : sh_Model_allBoth F x0 x1 x2 w = some r) : Met l y_Model_allBoth (Cond.code y_Model_allBoth c_Model_allBoth 5 (some .boolean) :: im_T) (im_rm 2 42) (im_Pre D vwCl tA lo im_NW [.ref (lo + x0), .int x1, .int x2] w) (im_Post D vwCl tA lo (some (.int r.1)) r.2) 0 0 (fun q => lo ≤ q) := by
  refine im_ofW (cc := c_Model_allBoth) (nL := 5) (ret := (some .boolean)) (by decide) (Nat.le_of_ble_eq_true rfl) ?_
  intro p e s m args below meth c X H locs ls hH hl
  obtain ⟨hx, hb, hr, hts, hown, hlk, hml, hK, hN⟩ := id X
  have hl : lv_has ls 5 [(0, .ref (lo + x0)), (1, .int x1), (2, .int x2)] := hl
  unfold sh_Model_allBoth at hsh
  refine lv_iconst (v := 1) hx hb d_Model_allBoth_0 (by decide) ?_
  refine lv_istore_n (lv' := [(3, .int (1 : Int32)), (0, .ref (lo + x0)), (1, .int x1), (2, .int x2)]) hx hb d_Model_allBoth_1 rfl hl (by decide) rfl (fun ls hl => ?_)
  refine lv_iload_n hx hb d_Model_allBoth_2 rfl (lv_at hl 2 rfl) ?_
  refine lv_istore (lv' := [(4, .int x1), (3, .int (1 : Int32)), (0, .ref (lo + x0)), (1, .int x1), (2, .int x2)]) hx hb d_Model_allBoth_3 hl (by decide) rfl (fun ls hl => ?_)
  exact bk_Model_allBoth_5 X F x0 x2 (1 : Int32) x1 w hsh H locs ls hH (lv_sub hl [2, 4, 1, 0] rfl)
theorem d_Model_number_0 : decode c_Model_number 0 = .ok (.iconst 0, 1) := by decide +kernel
theorem d_Model_number_1 : decode c_Model_number 1 = .ok (.istore_n 3, 1) := by decide +kernel
theorem d_Model_number_2 : decode c_Model_number 2 = .ok (.iload_n 1, 1) := by decide +kernel
theorem d_Model_number_3 : decode c_Model_number 3 = .ok (.istore 4, 2) := by decide +kernel
theorem d_Model_number_5 : decode c_Model_number 5 = .ok (.iload 4, 2) := by decide +kernel
theorem d_Model_number_7 : decode c_Model_number 7 = .ok (.iload_n 2, 1) := by decide +kernel
theorem d_Model_number_8 : decode c_Model_number 8 = .ok (.if_icmp .ge (61), 3) := by decide +kernel
theorem d_Model_number_11 : decode c_Model_number 11 = .ok (.bipush (37), 2) := by decide +kernel
theorem d_Model_number_13 : decode c_Model_number 13 = .ok (.iload_n 3, 1) := by decide +kernel
theorem d_Model_number_14 : decode c_Model_number 14 = .ok (.imul, 1) := by decide +kernel
theorem d_Model_number_15 : decode c_Model_number 15 = .ok (.aload_n 0, 1) := by decide +kernel
theorem d_Model_number_16 : decode c_Model_number 16 = .ok (.aload_n 0, 1) := by decide +kernel
theorem d_Model_number_17 : decode c_Model_number 17 = .ok (.getfield 7, 3) := by decide +kernel
theorem d_Model_number_20 : decode c_Model_number 20 = .ok (.iload 4, 2) := by decide +kernel
theorem d_Model_number_22 : decode c_Model_number 22 = .ok (.caload, 1) := by decide +kernel
theorem d_Model_number_23 : decode c_Model_number 23 = .ok (.invokevirtual 94, 3) := by decide +kernel
theorem d_Model_number_26 : decode c_Model_number 26 = .ok (.ifCond .eq (22), 3) := by decide +kernel
theorem d_Model_number_29 : decode c_Model_number 29 = .ok (.aload_n 0, 1) := by decide +kernel
theorem d_Model_number_30 : decode c_Model_number 30 = .ok (.aload_n 0, 1) := by decide +kernel
theorem d_Model_number_31 : decode c_Model_number 31 = .ok (.getfield 7, 3) := by decide +kernel
theorem d_Model_number_34 : decode c_Model_number 34 = .ok (.iload 4, 2) := by decide +kernel
theorem d_Model_number_36 : decode c_Model_number 36 = .ok (.caload, 1) := by decide +kernel
theorem d_Model_number_37 : decode c_Model_number 37 = .ok (.invokevirtual 90, 3) := by decide +kernel
theorem d_Model_number_40 : decode c_Model_number 40 = .ok (.bipush (97), 2) := by decide +kernel
theorem d_Model_number_42 : decode c_Model_number 42 = .ok (.isub, 1) := by decide +kernel
theorem d_Model_number_43 : decode c_Model_number 43 = .ok (.iconst 1, 1) := by decide +kernel
theorem d_Model_number_44 : decode c_Model_number 44 = .ok (.iadd, 1) := by decide +kernel
theorem d_Model_number_45 : decode c_Model_number 45 = .ok (.goto (16), 3) := by decide +kernel
theorem d_Model_number_48 : decode c_Model_number 48 = .ok (.aload_n 0, 1) := by decide +kernel
theorem d_Model_number_49 : decode c_Model_number 49 = .ok (.getfield 7, 3) := by decide +kernel
theorem d_Model_number_52 : decode c_Model_number 52 = .ok (.iload 4, 2) := by decide +kernel
theorem d_Model_number_54 : decode c_Model_number 54 = .ok (.caload, 1) := by decide +kernel
theorem d_Model_number_55 : decode c_Model_number 55 = .ok (.bipush (48), 2) := by decide +kernel
theorem d_Model_number_57 : decode c_Model_number 57 = .ok (.isub, 1) := by decide +kernel
theorem d_Model_number_58 : decode c_Model_number 58 = .ok (.bipush (27), 2) := by decide +kernel
theorem d_Model_number_60 : decode c_Model_number 60 = .ok (.iadd, 1) := by decide +kernel
theorem d_Model_number_61 : decode c_Model_number 61 = .ok (.iadd, 1) := by decide +kernel
theorem d_Model_number_62 : decode c_Model_number 62 = .ok (.istore_n 3, 1) := by decide +kernel
theorem d_Model_number_63 : decode c_Model_number 63 = .ok (.iinc 4 (1), 3) := by decide +kernel
theorem d_Model_number_66 : decode c_Model_number 66 = .ok (.goto (-61), 3) := by decide +kernel
theorem d_Model_number_69 : decode c_Model_number 69 = .ok (.iload_n 3, 1) := by decide +kernel
theorem d_Model_number_70 : decode c_Model_number 70 = .ok (.ireturn, 1) := by decide +kernel
def sh_Model_number_61 (F : Nat) (k5 : Nat → Int32 → Int32 → Int32 → im_W → Option (Int32 × im_W)) (x0 : Nat) (x2 : Int32) (x4 : Int32) (y0 : Int32) (y1 : Int32) (w : im_W) : Option (Int32 × im_W) :=
  k5 x0 x2 (y1 + y0) (x4 + (1 : Int32)) w
set_option maxHeartbeats 4000000 in
set_option maxRecDepth 100000 in
theorem bk_Model_number_61 {F : Nat} {r : Int32 × im_W} (X : im_X D vwCl tA lo im_NW c_Model_number 5 (some .int) RC_Model im_T p s m args meth c) {k5 : Nat → Int32 → Int32 → Int32 → im_W → Option (Int32 × im_W)} (hk5 : ∀ (x0 : Nat) (x2 : Int32) (x3 : Int32) (x4 : Int32) (w : im_W), k5 x0 x2 x3 x4 w = some r → im_WW D vwCl tA lo 5 p l e (im_rm 2 42) s m args below meth c 0 0 (MQ below (im_Post D vwCl tA lo (some (.int r.1)) r.2) args s 0 0 (fun q => lo ≤ q)) 5 [(0, .ref (lo + x0)), (2, .int x2), (3, .int x3), (4, .int x4)] [] w) (x0 : Nat) (x2 : Int32) (x4 : Int32) (y0 : Int32) (y1 : Int32) (w : im_W) (hsh : sh_Model_number_61 F k5 x0 x2 x4 y0 y1 w = some r) : im_WW D vwCl tA lo 5 p l e (im_rm 2 42) s m args below meth c 0 0 (MQ below (im_Post D vwCl tA lo (some (.int r.1)) r.2) args s 0 0 (fun q => lo ≤ q)) 61 [(0, .ref (lo + x0)), (2, .int x2), (4, .int x4)] [.int y0, .int y1] w := by
  obtain ⟨hx, hb, hr, hts, hown, hlk, hml, hK, hN⟩ := id X
  intro H locs ls hH hl
  unfold sh_Model_number_61 at hsh
  refine lv_iadd hx hb d_Model_number_61 ?_
  refine lv_istore_n (lv' := [(3, .int (y1 + y0)), (0, .ref (lo + x0)), (2, .int x2), (4, .int x4)]) hx hb d_Model_number_62 rfl hl (by decide) rfl (fun ls hl => ?_)
  refine lv_iinc (v := (x4 + (1 : Int32))) (lv' := [(4, .int (x4 + (1 : Int32))), (3, .int (y1 + y0)), (0, .ref (lo + x0)), (2, .int x2)]) hx hb d_Model_number_63 hl (k := 3) rfl rfl (by decide) rfl (fun ls hl => ?_)
  refine lv_goto (tgt := 5) hx hb d_Model_number_66 (by decide) ?_
  exact hk5 x0 x2 (y1 + y0) (x4 + (1 : Int32)) w hsh H locs ls hH (lv_sub hl [2, 3, 1, 0] rfl)
def sh_Model_number_5 (F : Nat) : Nat → Nat → Int32 → Int32 → Int32 → im_W → Option (Int32 × im_W)
  | 0, _, _, _, _, _ => none
  | f + 1, x0, x2, x3, x4, w => (if x2 ≤ x4 then some (x3, w) else (im_gR w 9 x0 1).bind fun f1 => (im_lI w 2 f1 x4).bind fun e3 => (im_is w 9 x0).bind fun u5 => im_b2 (sh_Model_letter F x0 e3 w) fun v11 w9 => (if v11 = 0 then (im_gR w9 9 x0 1).bind fun f12 => (im_lI w9 2 f12 x4).bind fun e14 => sh_Model_number_61 F (sh_Model_number_5 F f) x0 x2 x4 ((e14 - (48 : Int32)) + (27 : Int32)) ((37 : Int32) * x3) w9 else (im_gR w9 9 x0 1).bind fun f16 => (im_lI w9 2 f16 x4).bind fun e18 => (im_is w9 9 x0).bind fun u20 => im_b2 (sh_Model_small F x0 e18 w9) fun v26 w24 => sh_Model_number_61 F (sh_Model_number_5 F f) x0 x2 x4 ((v26 - (97 : Int32)) + (1 : Int32)) ((37 : Int32) * x3) w24))
set_option maxHeartbeats 4000000 in
set_option maxRecDepth 100000 in
theorem bk_Model_number_5 {F : Nat} {r : Int32 × im_W} (X : im_X D vwCl tA lo im_NW c_Model_number 5 (some .int) RC_Model im_T p s m args meth c) : ∀ (f : Nat) (x0 : Nat) (x2 : Int32) (x3 : Int32) (x4 : Int32) (w : im_W), sh_Model_number_5 F f x0 x2 x3 x4 w = some r → im_WW D vwCl tA lo 5 p l e (im_rm 2 42) s m args below meth c 0 0 (MQ below (im_Post D vwCl tA lo (some (.int r.1)) r.2) args s 0 0 (fun q => lo ≤ q)) 5 [(0, .ref (lo + x0)), (2, .int x2), (3, .int x3), (4, .int x4)] [] w := by
  obtain ⟨hx, hb, hr, hts, hown, hlk, hml, hK, hN⟩ := id X
  intro f
  induction f with
  | zero =>
    intro x0 x2 x3 x4 w hsh
    cases hsh
  | succ f ih =>
    intro x0 x2 x3 x4 w hsh H locs ls hH hl
    unfold sh_Model_number_5 at hsh
    refine lv_iload hx hb d_Model_number_5 (lv_at hl 3 rfl) ?_
    refine lv_iload_n hx hb d_Model_number_7 rfl (lv_at hl 1 rfl) ?_
    refine lv_icmp_ge (tgt := 69) hx hb d_Model_number_8 (by decide) (fun cc => ?_) (fun cc => ?_)
    · have hsh := im_it hsh cc
      refine lv_iload_n hx hb d_Model_number_69 rfl (lv_at hl 2 rfl) ?_
      obtain rfl := Option.some.inj hsh
      exact im_iret hx hb hr hlk hH d_Model_number_70
    · have hsh := im_if hsh cc
      refine lv_bipush (v := 37) hx hb d_Model_number_11 (by decide) ?_
      refine lv_iload_n hx hb d_Model_number_13 rfl (lv_at hl 2 rfl) ?_
      refine lv_imul hx hb d_Model_number_14 ?_
      refine lv_aload_n hx hb d_Model_number_15 rfl (lv_at hl 0 rfl) ?_
      refine lv_aload_n hx hb d_Model_number_16 rfl (lv_at hl 0 rfl) ?_
      obtain ⟨f1, h2, hsh⟩ := im_bd hsh
      refine im_getR hx hb hts inC_Model hown hK hH (ci := 9) rfl 1 (by decide) (hts _ wd_632) rfl h2 d_Model_number_17 ?_
      refine lv_iload hx hb d_Model_number_20 (lv_at hl 3 rfl) ?_
      obtain ⟨e3, h4, hsh⟩ := im_bd hsh
      refine im_cald hx hb hK hH h4 d_Model_number_22 ?_
      obtain ⟨u5, h6, hsh⟩ := im_bd hsh
      obtain ⟨g7, h8⟩ := im_is_s h6
      obtain ⟨v11, w9, h10, hsh⟩ := im_bd2 hsh
      refine im_afterI (va_runV (As := [.int e3]) (rest := [.int ((37 : Int32) * x3)]) (C := RC_Model) ⟨hx, hb, hml, hown, hts⟩ (met_Model_letter h10) ⟨(callB_of 1 hts (im_good wd_771) rfl rfl rfl (hts _ wd_10) (hts _ wd_768) (by decide +kernel) ⟨Nat.le_of_ble_eq_true rfl, Nat.le_of_ble_eq_true rfl⟩), hts _ wd_770, hts _ sl_Model_letter⟩ (im_preV im_NW_ok hK hN hH (ci := 9) rfl rfl h8 _) rfl rfl hl.1 rfl (lv_room (Nat.le_of_ble_eq_true rfl)) d_Model_number_23 ⟨Nat.le_of_ble_eq_true rfl, Nat.le_of_ble_eq_true rfl⟩) hH (fun H locs hH => ?_)
      refine lv_if_eq (tgt := 48) hx hb d_Model_number_26 (by decide) (fun cc => ?_) (fun cc => ?_)
      · have hsh := im_it hsh cc
        refine lv_aload_n hx hb d_Model_number_48 rfl (lv_at hl 0 rfl) ?_
        obtain ⟨f12, h13, hsh⟩ := im_bd hsh
        refine im_getR hx hb hts inC_Model hown hK hH (ci := 9) rfl 1 (by decide) (hts _ wd_632) rfl h13 d_Model_number_49 ?_
        refine lv_iload hx hb d_Model_number_52 (lv_at hl 3 rfl) ?_
        obtain ⟨e14, h15, hsh⟩ := im_bd hsh
        refine im_cald hx hb hK hH h15 d_Model_number_54 ?_
        refine lv_bipush (v := 48) hx hb d_Model_number_55 (by decide) ?_
        refine lv_isub hx hb d_Model_number_57 ?_
        refine lv_bipush (v := 27) hx hb d_Model_number_58 (by decide) ?_
        refine lv_iadd hx hb d_Model_number_60 ?_
        exact bk_Model_number_61 X ih x0 x2 x4 ((e14 - (48 : Int32)) + (27 : Int32)) ((37 : Int32) * x3) w9 hsh H locs ls hH (lv_sub hl [0, 1, 3] rfl)
      · have hsh := im_if hsh cc
        refine lv_aload_n hx hb d_Model_number_29 rfl (lv_at hl 0 rfl) ?_
        refine lv_aload_n hx hb d_Model_number_30 rfl (lv_at hl 0 rfl) ?_
        obtain ⟨f16, h17, hsh⟩ := im_bd hsh
        refine im_getR hx hb hts inC_Model hown hK hH (ci := 9) rfl 1 (by decide) (hts _ wd_632) rfl h17 d_Model_number_31 ?_
        refine lv_iload hx hb d_Model_number_34 (lv_at hl 3 rfl) ?_
        obtain ⟨e18, h19, hsh⟩ := im_bd hsh
        refine im_cald hx hb hK hH h19 d_Model_number_36 ?_
        obtain ⟨u20, h21, hsh⟩ := im_bd hsh
        obtain ⟨g22, h23⟩ := im_is_s h21
        obtain ⟨v26, w24, h25, hsh⟩ := im_bd2 hsh
        refine im_afterI (va_runV (As := [.int e18]) (rest := [.int ((37 : Int32) * x3)]) (C := RC_Model) ⟨hx, hb, hml, hown, hts⟩ (met_Model_small h25) ⟨(callB_of 1 hts (im_good wd_775) rfl rfl rfl (hts _ wd_10) (hts _ wd_772) (by decide +kernel) ⟨Nat.le_of_ble_eq_true rfl, Nat.le_of_ble_eq_true rfl⟩), hts _ wd_774, hts _ sl_Model_small⟩ (im_preV im_NW_ok hK hN hH (ci := 9) rfl rfl h23 _) rfl rfl hl.1 rfl (lv_room (Nat.le_of_ble_eq_true rfl)) d_Model_number_37 ⟨Nat.le_of_ble_eq_true rfl, Nat.le_of_ble_eq_true rfl⟩) hH (fun H locs hH => ?_)
        refine lv_bipush (v := 97) hx hb d_Model_number_40 (by decide) ?_
        refine lv_isub hx hb d_Model_number_42 ?_
        refine lv_iconst (v := 1) hx hb d_Model_number_43 (by decide) ?_
        refine lv_iadd hx hb d_Model_number_44 ?_
        refine lv_goto (tgt := 61) hx hb d_Model_number_45 (by decide) ?_
        exact bk_Model_number_61 X ih x0 x2 x4 ((v26 - (97 : Int32)) + (1 : Int32)) ((37 : Int32) * x3) w24 hsh H locs ls hH (lv_sub hl [0, 1, 3] rfl)
def sh_Model_number (F : Nat) (x0 : Nat) (x1 : Int32) (x2 : Int32) (w : im_W) : Option (Int32 × im_W) :=
  sh_Model_number_5 F F x0 x2 (0 : Int32) x1 w
set_option maxHeartbeats 4000000 in
set_option maxRecDepth 100000 in
theorem met_Model_number {F : Nat} {x0 : Nat} {x1 : Int32} {x2 : Int32} {w : im_W} {r : Int32 × im_W} (hsh : sh_Model_number F x0 x1 x2 w = some r) : Met l y_Model_number (Cond.code y_Model_number c_Model_number 5 (some .int) :: im_T) (im_rm 2 42) (im_Pre D vwCl tA lo im_NW [.ref (lo + x0), .int x1, .int x2] w) (im_Post D vwCl tA lo (some (.int r.1)) r.2) 0 0 (fun q => lo ≤ q) := by
  refine im_ofW (cc := c_Model_number) (nL := 5) (ret := (some .int)) (by decide) (Nat.le_of_ble_eq_true rfl) ?_
  intro p e s m args below meth c X H locs ls hH hl
  obtain ⟨hx, hb, hr, hts, hown, hlk, hml, hK, hN⟩ := id X
  have hl : lv_has ls 5 [(0, .ref (lo + x0)), (1, .int x1), (2, .int x2)] := hl
  unfold sh_Model_number at hsh
  refine lv_iconst (v := 0) hx hb d_Model_number_0 (by decide) ?_
  refine lv_istore_n (lv' := [(3, .int (0 : Int32)), (0, .ref (lo + x0)), (1, .int x1), (2, .int x2)]) hx hb d_Model_number_1 rfl hl (by decide) rfl (fun ls hl => ?_)
  refine lv_iload_n hx hb d_Model_number_2 rfl (lv_at hl 2 rfl) ?_
  refine lv_istore (lv' := [(4, .int x1), (3, .int (0 : Int32)), (0, .ref (lo + x0)), (1, .int x1), (2, .int x2)]) hx hb d_Model_number_3 hl (by decide) rfl (fun ls hl => ?_)
  exact bk_Model_number_5 X F x0 x2 (0 : Int32) x1 w hsh H locs ls hH (lv_sub hl [2, 4, 1, 0] rfl)
theorem wd_631 : (Jvm.Cond.fieldLink "LanguageTagsModel" (101 : Nat) "LanguageTagsModel" "length" "I") ∈ im_T := im_memT (i := 631) (by decide +kernel) (by decide +kernel)
theorem d_Model_type_0 : decode c_Model_type 0 = .ok (.aload_n 0, 1) := by decide +kernel
theorem d_Model_type_1 : decode c_Model_type 1 = .ok (.iload_n 1, 1) := by decide +kernel
theorem d_Model_type_2 : decode c_Model_type 2 = .ok (.invokevirtual 94, 3) := by decide +kernel
theorem d_Model_type_5 : decode c_Model_type 5 = .ok (.ifCond .ne (29), 3) := by decide +kernel
theorem d_Model_type_8 : decode c_Model_type 8 = .ok (.aload_n 0, 1) := by decide +kernel
theorem d_Model_type_9 : decode c_Model_type 9 = .ok (.iload_n 1, 1) := by decide +kernel
theorem d_Model_type_10 : decode c_Model_type 10 = .ok (.invokevirtual 98, 3) := by decide +kernel
theorem d_Model_type_13 : decode c_Model_type 13 = .ok (.ifCond .ne (21), 3) := by decide +kernel
theorem d_Model_type_16 : decode c_Model_type 16 = .ok (.iload_n 1, 1) := by decide +kernel
theorem d_Model_type_17 : decode c_Model_type 17 = .ok (.bipush (45), 2) := by decide +kernel
theorem d_Model_type_19 : decode c_Model_type 19 = .ok (.if_icmp .eq (15), 3) := by decide +kernel
theorem d_Model_type_22 : decode c_Model_type 22 = .ok (.iload_n 1, 1) := by decide +kernel
theorem d_Model_type_23 : decode c_Model_type 23 = .ok (.bipush (95), 2) := by decide +kernel
theorem d_Model_type_25 : decode c_Model_type 25 = .ok (.if_icmp .eq (9), 3) := by decide +kernel
theorem d_Model_type_28 : decode c_Model_type 28 = .ok (.iload_n 1, 1) := by decide +kernel
theorem d_Model_type_29 : decode c_Model_type 29 = .ok (.bipush (61), 2) := by decide +kernel
theorem d_Model_type_31 : decode c_Model_type 31 = .ok (.if_icmp .ne (12), 3) := by decide +kernel
theorem d_Model_type_34 : decode c_Model_type 34 = .ok (.aload_n 0, 1) := by decide +kernel
theorem d_Model_type_35 : decode c_Model_type 35 = .ok (.getfield 101, 3) := by decide +kernel
theorem d_Model_type_38 : decode c_Model_type 38 = .ok (.bipush (60), 2) := by decide +kernel
theorem d_Model_type_40 : decode c_Model_type 40 = .ok (.if_icmp .ne (5), 3) := by decide +kernel
theorem d_Model_type_43 : decode c_Model_type 43 = .ok (.iconst 0, 1) := by decide +kernel
theorem d_Model_type_44 : decode c_Model_type 44 = .ok (.ireturn, 1) := by decide +kernel
theorem d_Model_type_45 : decode c_Model_type 45 = .ok (.aload_n 0, 1) := by decide +kernel
theorem d_Model_type_46 : decode c_Model_type 46 = .ok (.getfield 7, 3) := by decide +kernel
theorem d_Model_type_49 : decode c_Model_type 49 = .ok (.aload_n 0, 1) := by decide +kernel
theorem d_Model_type_50 : decode c_Model_type 50 = .ok (.getfield 101, 3) := by decide +kernel
theorem d_Model_type_53 : decode c_Model_type 53 = .ok (.iload_n 1, 1) := by decide +kernel
theorem d_Model_type_54 : decode c_Model_type 54 = .ok (.castore, 1) := by decide +kernel
theorem d_Model_type_55 : decode c_Model_type 55 = .ok (.aload_n 0, 1) := by decide +kernel
theorem d_Model_type_56 : decode c_Model_type 56 = .ok (.dup, 1) := by decide +kernel
theorem d_Model_type_57 : decode c_Model_type 57 = .ok (.getfield 101, 3) := by decide +kernel
theorem d_Model_type_60 : decode c_Model_type 60 = .ok (.iconst 1, 1) := by decide +kernel
theorem d_Model_type_61 : decode c_Model_type 61 = .ok (.iadd, 1) := by decide +kernel
theorem d_Model_type_62 : decode c_Model_type 62 = .ok (.putfield 101, 3) := by decide +kernel
theorem d_Model_type_65 : decode c_Model_type 65 = .ok (.iconst 1, 1) := by decide +kernel
theorem d_Model_type_66 : decode c_Model_type 66 = .ok (.ireturn, 1) := by decide +kernel
def sh_Model_type_43 (F : Nat)  (w : im_W) : Option (Int32 × im_W) :=
  im_rz (0 : Int32) w
set_option maxHeartbeats 4000000 in
set_option maxRecDepth 100000 in
theorem bk_Model_type_43 {F : Nat} {r : Int32 × im_W} (X : im_X D vwCl tA lo im_NW c_Model_type 2 (some .boolean) RC_Model im_T p s m args meth c)  (w : im_W) (hsh : sh_Model_type_43 F w = some r) : im_WW D vwCl tA lo 2 p l e (im_rm 2 42) s m args below meth c 0 0 (MQ below (im_Post D vwCl tA lo (some (.int r.1)) r.2) args s 0 0 (fun q => lo ≤ q)) 43 [] [] w := by
  obtain ⟨hx, hb, hr, hts, hown, hlk, hml, hK, hN⟩ := id X
  intro H locs ls hH hl
  unfold sh_Model_type_43 at hsh
  refine lv_iconst (v := 0) hx hb d_Model_type_43 (by decide) ?_
  obtain ⟨rfl, hn⟩ := im_rz_s hsh
  exact im_zret hx hb hr hlk hn hH d_Model_type_44
def sh_Model_type_34 (F : Nat) (x0 : Nat) (x1 : Int32) (w : im_W) : Option (Int32 × im_W) :=
  (im_gI w 9 x0 0).bind fun f1 => (if f1 = (60 : Int32) then sh_Model_type_43 F w else (im_gR w 9 x0 1).bind fun f3 => (im_gI w 9 x0 0).bind fun f5 => (im_sI w 2 f3 f5 (vp_nar .char x1)).bind fun w7 => (im_gI w7 9 x0 0).bind fun f9 => (im_pV w7 9 x0 0 (.int (f9 + (1 : Int32)))).bind fun w11 => im_rz (1 : Int32) w11)
set_option maxHeartbeats 4000000 in
set_option maxRecDepth 100000 in
theorem bk_Model_type_34 {F : Nat} {r : Int32 × im_W} (X : im_X D vwCl tA lo im_NW c_Model_type 2 (some .boolean) RC_Model im_T p s m args meth c) (x0 : Nat) (x1 : Int32) (w : im_W) (hsh : sh_Model_type_34 F x0 x1 w = some r) : im_WW D vwCl tA lo 2 p l e (im_rm 2 42) s m args below meth c 0 0 (MQ below (im_Post D vwCl tA lo (some (.int r.1)) r.2) args s 0 0 (fun q => lo ≤ q)) 34 [(0, .ref (lo + x0)), (1, .int x1)] [] w := by
  obtain ⟨hx, hb, hr, hts, hown, hlk, hml, hK, hN⟩ := id X
  intro H locs ls hH hl
  unfold sh_Model_type_34 at hsh
  refine lv_aload_n hx hb d_Model_type_34 rfl (lv_at hl 0 rfl) ?_
  obtain ⟨f1, h2, hsh⟩ := im_bd hsh
  refine im_getI hx hb hts inC_Model hown hK hH (ci := 9) rfl 0 (by decide) (hts _ wd_631) rfl h2 d_Model_type_35 ?_
  refine lv_bipush (v := 60) hx hb d_Model_type_38 (by decide) ?_
  refine lv_icmp_ne (tgt := 45) hx hb d_Model_type_40 (by decide) (fun cc => ?_) (fun cc => ?_)
  · have hsh := im_if hsh cc
    refine lv_aload_n hx hb d_Model_type_45 rfl (lv_at hl 0 rfl) ?_
    obtain ⟨f3, h4, hsh⟩ := im_bd hsh
    refine im_getR hx hb hts inC_Model hown hK hH (ci := 9) rfl 1 (by decide) (hts _ wd_632) rfl h4 d_Model_type_46 ?_
    refine lv_aload_n hx hb d_Model_type_49 rfl (lv_at hl 0 rfl) ?_
    obtain ⟨f5, h6, hsh⟩ := im_bd hsh
    refine im_getI hx hb hts inC_Model hown hK hH (ci := 9) rfl 0 (by decide) (hts _ wd_631) rfl h6 d_Model_type_50 ?_
    refine lv_iload_n hx hb d_Model_type_53 rfl (lv_at hl 1 rfl) ?_
    obtain ⟨w7, h8, hsh⟩ := im_bd hsh
    refine im_cast hx hb hK hH h8 d_Model_type_54 (fun H locs hH => ?_)
    refine lv_aload_n hx hb d_Model_type_55 rfl (lv_at hl 0 rfl) ?_
    refine lv_dup hx hb d_Model_type_56 rfl ?_
    obtain ⟨f9, h10, hsh⟩ := im_bd hsh
    refine im_getI hx hb hts inC_Model hown hK hH (ci := 9) rfl 0 (by decide) (hts _ wd_631) rfl h10 d_Model_type_57 ?_
    refine lv_iconst (v := 1) hx hb d_Model_type_60 (by decide) ?_
    refine lv_iadd hx hb d_Model_type_61 ?_
    obtain ⟨w11, h12, hsh⟩ := im_bd hsh
    refine im_put (v := .int (f9 + (1 : Int32))) hx hb hts inC_Model tyC_Model tyC_Model_ok nmC_Model hown hK hH (ci := 9) rfl 0 (by decide) (hts _ wd_631) rfl rfl rfl rfl h12 d_Model_type_62 (fun H locs hH => ?_)
    refine lv_iconst (v := 1) hx hb d_Model_type_65 (by decide) ?_
    obtain ⟨rfl, hn⟩ := im_rz_s hsh
    exact im_zret hx hb hr hlk hn hH d_Model_type_66
  · have hsh := im_it hsh cc
    exact bk_Model_type_43 X w hsh H locs ls hH (lv_sub hl [] rfl)
def sh_Model_type (F : Nat) (x0 : Nat) (x1 : Int32) (w : im_W) : Option (Int32 × im_W) :=
  (im_is w 9 x0).bind fun u1 => im_b2 (sh_Model_letter F x0 x1 w) fun v7 w5 => (if v7 = 0 then (im_is w5 9 x0).bind fun u8 => im_b2 (sh_Model_digit F x0 x1 w5) fun v14 w12 => (if v14 = 0 then (if x1 = (45 : Int32) then sh_Model_type_34 F x0 x1 w12 else (if x1 = (95 : Int32) then sh_Model_type_34 F x0 x1 w12 else (if x1 = (61 : Int32) then sh_Model_type_34 F x0 x1 w12 else sh_Model_type_43 F w12))) else sh_Model_type_34 F x0 x1 w12) else sh_Model_type_34 F x0 x1 w5)
set_option maxHeartbeats 4000000 in
set_option maxRecDepth 100000 in
theorem met_Model_type {F : Nat} {x0 : Nat} {x1 : Int32} {w : im_W} {r : Int32 × im_W} (hsh : sh_Model_type F x0 x1 w = some r) : Met l y_Model_type (Cond.code y_Model_type c_Model_type 2 (some .boolean) :: im_T) (im_rm 2 42) (im_Pre D vwCl tA lo im_NW [.ref (lo + x0), .int x1] w) (im_Post D vwCl tA lo (some (.int r.1)) r.2) 0 0 (fun q => lo ≤ q) := by
  refine im_ofW (cc := c_Model_type) (nL := 2) (ret := (some .boolean)) (by decide) (Nat.le_of_ble_eq_true rfl) ?_
  intro p e s m args below meth c X H locs ls hH hl
  obtain ⟨hx, hb, hr, hts, hown, hlk, hml, hK, hN⟩ := id X
  have hl : lv_has ls 2 [(0, .ref (lo + x0)), (1, .int x1)] := hl
  unfold sh_Model_type at hsh
  refine lv_aload_n hx hb d_Model_type_0 rfl (lv_at hl 0 rfl) ?_
  refine lv_iload_n hx hb d_Model_type_1 rfl (lv_at hl 1 rfl) ?_
  obtain ⟨u1, h2, hsh⟩ := im_bd hsh
  obtain ⟨g3, h4⟩ := im_is_s h2
  obtain ⟨v7, w5, h6, hsh⟩ := im_bd2 hsh
  refine im_afterI (va_runV (As := [.int x1]) (rest := []) (C := RC_Model) ⟨hx, hb, hml, hown, hts⟩ (met_Model_letter h6) ⟨(callB_of 1 hts (im_good wd_771) rfl rfl rfl (hts _ wd_10) (hts _ wd_768) (by decide +kernel) ⟨Nat.le_of_ble_eq_true rfl, Nat.le_of_ble_eq_true rfl⟩), hts _ wd_770, hts _ sl_Model_letter⟩ (im_preV im_NW_ok hK hN hH (ci := 9) rfl rfl h4 _) rfl rfl hl.1 rfl (lv_room (Nat.le_of_ble_eq_true rfl)) d_Model_type_2 ⟨Nat.le_of_ble_eq_true rfl, Nat.le_of_ble_eq_true rfl⟩) hH (fun H locs hH => ?_)
  refine lv_if_ne (tgt := 34) hx hb d_Model_type_5 (by decide) (fun cc => ?_) (fun cc => ?_)
  · have hsh := im_if hsh cc
    exact bk_Model_type_34 X x0 x1 w5 hsh H locs ls hH (lv_sub hl [0, 1] rfl)
  · have hsh := im_it hsh cc
    refine lv_aload_n hx hb d_Model_type_8 rfl (lv_at hl 0 rfl) ?_
    refine lv_iload_n hx hb d_Model_type_9 rfl (lv_at hl 1 rfl) ?_
    obtain ⟨u8, h9, hsh⟩ := im_bd hsh
    obtain ⟨g10, h11⟩ := im_is_s h9
    obtain ⟨v14, w12, h13, hsh⟩ := im_bd2 hsh
    refine im_afterI (va_runV (As := [.int x1]) (rest := []) (C := RC_Model) ⟨hx, hb, hml, hown, hts⟩ (met_Model_digit h13) ⟨(callB_of 1 hts (im_good wd_779) rfl rfl rfl (hts _ wd_10) (hts _ wd_776) (by decide +kernel) ⟨Nat.le_of_ble_eq_true rfl, Nat.le_of_ble_eq_true rfl⟩), hts _ wd_778, hts _ sl_Model_digit⟩ (im_preV im_NW_ok hK hN hH (ci := 9) rfl rfl h11 _) rfl rfl hl.1 rfl (lv_room (Nat.le_of_ble_eq_true rfl)) d_Model_type_10 ⟨Nat.le_of_ble_eq_true rfl, Nat.le_of_ble_eq_true rfl⟩) hH (fun H locs hH => ?_)
    refine lv_if_ne (tgt := 34) hx hb d_Model_type_13 (by decide) (fun cc => ?_) (fun cc => ?_)
    · have hsh := im_if hsh cc
      exact bk_Model_type_34 X x0 x1 w12 hsh H locs ls hH (lv_sub hl [0, 1] rfl)
    · have hsh := im_it hsh cc
      refine lv_iload_n hx hb d_Model_type_16 rfl (lv_at hl 1 rfl) ?_
      refine lv_bipush (v := 45) hx hb d_Model_type_17 (by decide) ?_
      refine lv_icmp_eq (tgt := 34) hx hb d_Model_type_19 (by decide) (fun cc => ?_) (fun cc => ?_)
      · have hsh := im_it hsh cc
        exact bk_Model_type_34 X x0 x1 w12 hsh H locs ls hH (lv_sub hl [0, 1] rfl)
      · have hsh := im_if hsh cc
        refine lv_iload_n hx hb d_Model_type_22 rfl (lv_at hl 1 rfl) ?_
        refine lv_bipush (v := 95) hx hb d_Model_type_23 (by decide) ?_
        refine lv_icmp_eq (tgt := 34) hx hb d_Model_type_25 (by decide) (fun cc => ?_) (fun cc => ?_)
        · have hsh := im_it hsh cc
          exact bk_Model_type_34 X x0 x1 w12 hsh H locs ls hH (lv_sub hl [0, 1] rfl)
        · have hsh := im_if hsh cc
          refine lv_iload_n hx hb d_Model_type_28 rfl (lv_at hl 1 rfl) ?_
          refine lv_bipush (v := 61) hx hb d_Model_type_29 (by decide) ?_
          refine lv_icmp_ne (tgt := 43) hx hb d_Model_type_31 (by decide) (fun cc => ?_) (fun cc => ?_)
          · have hsh := im_if hsh cc
            exact bk_Model_type_43 X w12 hsh H locs ls hH (lv_sub hl [] rfl)
          · have hsh := im_it hsh cc
            exact bk_Model_type_34 X x0 x1 w12 hsh H locs ls hH (lv_sub hl [0, 1] rfl)
theorem d_Model_wipe_0 : decode c_Model_wipe 0 = .ok (.aload_n 0, 1) := by decide +kernel
theorem d_Model_wipe_1 : decode c_Model_wipe 1 = .ok (.iconst 0, 1) := by decide +kernel
theorem d_Model_wipe_2 : decode c_Model_wipe 2 = .ok (.putfield 101, 3) := by decide +kernel
theorem d_Model_wipe_5 : decode c_Model_wipe 5 = .ok (.return_, 1) := by decide +kernel
def sh_Model_wipe (F : Nat) (x0 : Nat) (w : im_W) : Option (im_W) :=
  (im_pV w 9 x0 0 (.int (0 : Int32))).bind fun w1 => some w1
set_option maxHeartbeats 4000000 in
set_option maxRecDepth 100000 in
theorem met_Model_wipe {F : Nat} {x0 : Nat} {w : im_W} {r : im_W} (hsh : sh_Model_wipe F x0 w = some r) : Met l y_Model_wipe (Cond.code y_Model_wipe c_Model_wipe 1 none :: im_T) (im_rm 0 0) (im_Pre D vwCl tA lo im_NW [.ref (lo + x0)] w) (im_Post D vwCl tA lo none r) 0 0 (fun q => lo ≤ q) := by
  refine im_ofW (cc := c_Model_wipe) (nL := 1) (ret := none) (by decide) (Nat.le_of_ble_eq_true rfl) ?_
  intro p e s m args below meth c X H locs ls hH hl
  obtain ⟨hx, hb, hr, hts, hown, hlk, hml, hK, hN⟩ := id X
  have hl : lv_has ls 1 [(0, .ref (lo + x0))] := hl
  unfold sh_Model_wipe at hsh
  refine lv_aload_n hx hb d_Model_wipe_0 rfl (lv_at hl 0 rfl) ?_
  refine lv_iconst (v := 0) hx hb d_Model_wipe_1 (by decide) ?_
  obtain ⟨w1, h2, hsh⟩ := im_bd hsh
  refine im_put (v := .int (0 : Int32)) hx hb hts inC_Model tyC_Model tyC_Model_ok nmC_Model hown hK hH (ci := 9) rfl 0 (by decide) (hts _ wd_631) rfl rfl rfl rfl h2 d_Model_wipe_2 (fun H locs hH => ?_)
  obtain rfl := Option.some.inj hsh
  exact im_vret hx hb hr hlk hH d_Model_wipe_5
theorem wd_796 : (Jvm.Cond.methodLink "LanguageTagsModel" (105 : Nat) ({ cls := "LanguageTagsModel", name := "allLetters", desc := "(II)Z" } : Jvm.MethodName)) ∈ im_T := im_memT (i := 796) (by decide +kernel) (by decide +kernel)
theorem wd_798 : (Jvm.Cond.instanceMethod ({ cls := "LanguageTagsModel", name := "allLetters", desc := "(II)Z" } : Jvm.MethodName)) ∈ im_T := im_memT (i := 798) (by decide +kernel) (by decide +kernel)
theorem wd_799 : (Jvm.Cond.code ({ cls := "LanguageTagsModel", name := "allLetters", desc := "(II)Z" } : Jvm.MethodName) prog_12_method_5_code (5 : Nat) (Option.some Jvm.ClassFile.FieldType.boolean)) ∈ im_T := im_memT (i := 799) (by decide +kernel) (by decide +kernel)
theorem d_Model_isLanguage_0 : decode c_Model_isLanguage 0 = .ok (.iload_n 2, 1) := by decide +kernel
theorem d_Model_isLanguage_1 : decode c_Model_isLanguage 1 = .ok (.iload_n 1, 1) := by decide +kernel
theorem d_Model_isLanguage_2 : decode c_Model_isLanguage 2 = .ok (.isub, 1) := by decide +kernel
theorem d_Model_isLanguage_3 : decode c_Model_isLanguage 3 = .ok (.iconst 2, 1) := by decide +kernel
theorem d_Model_isLanguage_4 : decode c_Model_isLanguage 4 = .ok (.if_icmp .eq (10), 3) := by decide +kernel
theorem d_Model_isLanguage_7 : decode c_Model_isLanguage 7 = .ok (.iload_n 2, 1) := by decide +kernel
theorem d_Model_isLanguage_8 : decode c_Model_isLanguage 8 = .ok (.iload_n 1, 1) := by decide +kernel
theorem d_Model_isLanguage_9 : decode c_Model_isLanguage 9 = .ok (.isub, 1) := by decide +kernel
theorem d_Model_isLanguage_10 : decode c_Model_isLanguage 10 = .ok (.iconst 3, 1) := by decide +kernel
theorem d_Model_isLanguage_11 : decode c_Model_isLanguage 11 = .ok (.if_icmp .ne (16), 3) := by decide +kernel
theorem d_Model_isLanguage_14 : decode c_Model_isLanguage 14 = .ok (.aload_n 0, 1) := by decide +kernel
theorem d_Model_isLanguage_15 : decode c_Model_isLanguage 15 = .ok (.iload_n 1, 1) := by decide +kernel
theorem d_Model_isLanguage_16 : decode c_Model_isLanguage 16 = .ok (.iload_n 2, 1) := by decide +kernel
theorem d_Model_isLanguage_17 : decode c_Model_isLanguage 17 = .ok (.invokevirtual 105, 3) := by decide +kernel
theorem d_Model_isLanguage_20 : decode c_Model_isLanguage 20 = .ok (.ifCond .eq (7), 3) := by decide +kernel
theorem d_Model_isLanguage_23 : decode c_Model_isLanguage 23 = .ok (.iconst 1, 1) := by decide +kernel
theorem d_Model_isLanguage_24 : decode c_Model_isLanguage 24 = .ok (.goto (4), 3) := by decide +kernel
theorem d_Model_isLanguage_27 : decode c_Model_isLanguage 27 = .ok (.iconst 0, 1) := by decide +kernel
theorem d_Model_isLanguage_28 : decode c_Model_isLanguage 28 = .ok (.ireturn, 1) := by decide +kernel
def sh_Model_isLanguage_28 (F : Nat) (y0 : Int32) (w : im_W) : Option (Int32 × im_W) :=
  im_rz y0 w
set_option maxHeartbeats 4000000 in
set_option maxRecDepth 100000 in
theorem bk_Model_isLanguage_28 {F : Nat} {r : Int32 × im_W} (X : im_X D vwCl tA lo im_NW c_Model_isLanguage 3 (some .boolean) RC_Model im_T p s m args meth c) (y0 : Int32) (w : im_W) (hsh : sh_Model_isLanguage_28 F y0 w = some r) : im_WW D vwCl tA lo 3 p l e (im_rm 3 66) s m args below meth c 0 0 (MQ below (im_Post D vwCl tA lo (some (.int r.1)) r.2) args s 0 0 (fun q => lo ≤ q)) 28 [] [.int y0] w := by
  obtain ⟨hx, hb, hr, hts, hown, hlk, hml, hK, hN⟩ := id X
  intro H locs ls hH hl
  unfold sh_Model_isLanguage_28 at hsh
  obtain ⟨rfl, hn⟩ := im_rz_s hsh
  exact im_zret hx hb hr hlk hn hH d_Model_isLanguage_28
def sh_Model_isLanguage_27 (F : Nat)  (w : im_W) : Option (Int32 × im_W) :=
  sh_Model_isLanguage_28 F (0 : Int32) w
set_option maxHeartbeats 4000000 in
set_option maxRecDepth 100000 in
theorem bk_Model_isLanguage_27 {F : Nat} {r : Int32 × im_W} (X : im_X D vwCl tA lo im_NW c_Model_isLanguage 3 (some .boolean) RC_Model im_T p s m args meth c)  (w : im_W) (hsh : sh_Model_isLanguage_27 F w = some r) : im_WW D vwCl tA lo 3 p l e (im_rm 3 66) s m args below meth c 0 0 (MQ below (im_Post D vwCl tA lo (some (.int r.1)) r.2) args s 0 0 (fun q => lo ≤ q)) 27 [] [] w := by
  obtain ⟨hx, hb, hr, hts, hown, hlk, hml, hK, hN⟩ := id X
  intro H locs ls hH hl
  unfold sh_Model_isLanguage_27 at hsh
  refine lv_iconst (v := 0) hx hb d_Model_isLanguage_27 (by decide) ?_
  exact bk_Model_isLanguage_28 X (0 : Int32) w hsh H locs ls hH (lv_sub hl [] rfl)
def sh_Model_isLanguage_14 (F : Nat) (x0 : Nat) (x1 : Int32) (x2 : Int32) (w : im_W) : Option (Int32 × im_W) :=
  (im_is w 9 x0).bind fun u1 => im_b2 (sh_Model_allLetters F x0 x1 x2 w) fun v7 w5 => (if v7 = 0 then sh_Model_isLanguage_27 F w5 else sh_Model_isLanguage_28 F (1 : Int32) w5)
set_option maxHeartbeats 4000000 in
set_option maxRecDepth 100000 in
theorem bk_Model_isLanguage_14 {F : Nat} {r : Int32 × im_W} (X : im_X D vwCl tA lo im_NW c_Model_isLanguage 3 (some .boolean) RC_Model im_T p s m args meth c) (x0 : Nat) (x1 : Int32) (x2 : Int32) (w : im_W) (hsh : sh_Model_isLanguage_14 F x0 x1 x2 w = some r) : im_WW D vwCl tA lo 3 p l e (im_rm 3 66) s m args below meth c 0 0 (MQ below (im_Post D vwCl tA lo (some (.int r.1)) r.2) args s 0 0 (fun q => lo ≤ q)) 14 [(0, .ref (lo + x0)), (1, .int x1), (2, .int x2)] [] w := by
  obtain ⟨hx, hb, hr, hts, hown, hlk, hml, hK, hN⟩ := id X
  intro H locs ls hH hl
  unfold sh_Model_isLanguage_14 at hsh
  refine lv_aload_n hx hb d_Model_isLanguage_14 rfl (lv_at hl 0 rfl) ?_
  refine lv_iload_n hx hb d_Model_isLanguage_15 rfl (lv_at hl 1 rfl) ?_
  refine lv_iload_n hx hb d_Model_isLanguage_16 rfl (lv_at hl 2 rfl) ?_
  obtain ⟨u1, h2, hsh⟩ := im_bd hsh
  obtain ⟨g3, h4⟩ := im_is_s h2
  obtain ⟨v7, w5, h6, hsh⟩ := im_bd2 hsh
  refine im_afterI (va_runV (As := [.int x1, .int x2]) (rest := []) (C := RC_Model) ⟨hx, hb, hml, hown, hts⟩ (met_Model_allLetters h6) ⟨(callB_of 2 hts (im_good wd_799) rfl rfl rfl (hts _ wd_10) (hts _ wd_796) (by decide +kernel) ⟨Nat.le_of_ble_eq_true rfl, Nat.le_of_ble_eq_true rfl⟩), hts _ wd_798, hts _ sl_Model_allLetters⟩ (im_preV im_NW_ok hK hN hH (ci := 9) rfl rfl h4 _) rfl rfl hl.1 rfl (lv_room (Nat.le_of_ble_eq_true rfl)) d_Model_isLanguage_17 ⟨Nat.le_of_ble_eq_true rfl, Nat.le_of_ble_eq_true rfl⟩) hH (fun H locs hH => ?_)
  refine lv_if_eq (tgt := 27) hx hb d_Model_isLanguage_20 (by decide) (fun cc => ?_) (fun cc => ?_)
  · have hsh := im_it hsh cc
    exact bk_Model_isLanguage_27 X w5 hsh H locs ls hH (lv_sub hl [] rfl)
  · have hsh := im_if hsh cc
    refine lv_iconst (v := 1) hx hb d_Model_isLanguage_23 (by decide) ?_
    refine lv_goto (tgt := 28) hx hb d_Model_isLanguage_24 (by decide) ?_
    exact bk_Model_isLanguage_28 X (1 : Int32) w5 hsh H locs ls hH (lv_sub hl [] rfl)
def sh_Model_isLanguage (F : Nat) (x0 : Nat) (x1 : Int32) (x2 : Int32) (w : im_W) : Option (Int32 × im_W) :=
  (if (x2 - x1) = (2 : Int32) then sh_Model_isLanguage_14 F x0 x1 x2 w else (if (x2 - x1) = (3 : Int32) then sh_Model_isLanguage_14 F x0 x1 x2 w else sh_Model_isLanguage_27 F w))
set_option maxHeartbeats 4000000 in
set_option maxRecDepth 100000 in
theorem met_Model_isLanguage {F : Nat} {x0 : Nat} {x1 : Int32} {x2 : Int32} {w : im_W} {r : Int32 × im_W} (hsh : sh_Model_isLanguage F x0 x1 x2 w = some r) : Met l y_Model_isLanguage (Cond.code y_Model_isLanguage c_Model_isLanguage 3 (some .boolean) :: im_T) (im_rm 3 66) (im_Pre D vwCl tA lo im_NW [.ref (lo + x0), .int x1, .int x2] w) (im_Post D vwCl tA lo (some (.int r.1)) r.2) 0 0 (fun q => lo ≤ q) := by
  refine im_ofW (cc := c_Model_isLanguage) (nL := 3) (ret := (some .boolean)) (by decide) (Nat.le_of_ble_eq_true rfl) ?_
  intro p e s m args below meth c X H locs ls hH hl
  obtain ⟨hx, hb, hr, hts, hown, hlk, hml, hK, hN⟩ := id X
  have hl : lv_has ls 3 [(0, .ref (lo + x0)), (1, .int x1), (2, .int x2)] := hl
  unfold sh_Model_isLanguage at hsh
  refine lv_iload_n hx hb d_Model_isLanguage_0 rfl (lv_at hl 2 rfl) ?_
  refine lv_iload_n hx hb d_Model_isLanguage_1 rfl (lv_at hl 1 rfl) ?_
  refine lv_isub hx hb d_Model_isLanguage_2 ?_
  refine lv_iconst (v := 2) hx hb d_Model_isLanguage_3 (by decide) ?_
  refine lv_icmp_eq (tgt := 14) hx hb d_Model_isLanguage_4 (by decide) (fun cc => ?_) (fun cc => ?_)
  · have hsh := im_it hsh cc
    exact bk_Model_isLanguage_14 X x0 x1 x2 w hsh H locs ls hH (lv_sub hl [0, 1, 2] rfl)
  · have hsh := im_if hsh cc
    refine lv_iload_n hx hb d_Model_isLanguage_7 rfl (lv_at hl 2 rfl) ?_
    refine lv_iload_n hx hb d_Model_isLanguage_8 rfl (lv_at hl 1 rfl) ?_
    refine lv_isub hx hb d_Model_isLanguage_9 ?_
    refine lv_iconst (v := 3) hx hb d_Model_isLanguage_10 (by decide) ?_
    refine lv_icmp_ne (tgt := 27) hx hb d_Model_isLanguage_11 (by decide) (fun cc => ?_) (fun cc => ?_)
    · have hsh := im_if hsh cc
      exact bk_Model_isLanguage_27 X w hsh H locs ls hH (lv_sub hl [] rfl)
    · have hsh := im_it hsh cc
      exact bk_Model_isLanguage_14 X x0 x1 x2 w hsh H locs ls hH (lv_sub hl [0, 1, 2] rfl)
theorem wd_800 : (Jvm.Cond.methodLink "LanguageTagsModel" (109 : Nat) ({ cls := "LanguageTagsModel", name := "allDigits", desc := "(II)Z" } : Jvm.MethodName)) ∈ im_T := im_memT (i := 800) (by decide +kernel) (by decide +kernel)
theorem wd_802 : (Jvm.Cond.instanceMethod ({ cls := "LanguageTagsModel", name := "allDigits", desc := "(II)Z" } : Jvm.MethodName)) ∈ im_T := im_memT (i := 802) (by decide +kernel) (by decide +kernel)
theorem wd_803 : (Jvm.Cond.code ({ cls := "LanguageTagsModel", name := "allDigits", desc := "(II)Z" } : Jvm.MethodName) prog_12_method_6_code (5 : Nat) (Option.some Jvm.ClassFile.FieldType.boolean)) ∈ im_T := im_memT (i := 803) (by decide +kernel) (by decide +kernel)
theorem d_Model_isRegion_0 : decode c_Model_isRegion 0 = .ok (.iload_n 2, 1) := by decide +kernel
theorem d_Model_isRegion_1 : decode c_Model_isRegion 1 = .ok (.iload_n 1, 1) := by decide +kernel
theorem d_Model_isRegion_2 : decode c_Model_isRegion 2 = .ok (.isub, 1) := by decide +kernel
theorem d_Model_isRegion_3 : decode c_Model_isRegion 3 = .ok (.iconst 2, 1) := by decide +kernel
theorem d_Model_isRegion_4 : decode c_Model_isRegion 4 = .ok (.if_icmp .ne (12), 3) := by decide +kernel
theorem d_Model_isRegion_7 : decode c_Model_isRegion 7 = .ok (.aload_n 0, 1) := by decide +kernel
theorem d_Model_isRegion_8 : decode c_Model_isRegion 8 = .ok (.iload_n 1, 1) := by decide +kernel
theorem d_Model_isRegion_9 : decode c_Model_isRegion 9 = .ok (.iload_n 2, 1) := by decide +kernel
theorem d_Model_isRegion_10 : decode c_Model_isRegion 10 = .ok (.invokevirtual 105, 3) := by decide +kernel
theorem d_Model_isRegion_13 : decode c_Model_isRegion 13 = .ok (.ifCond .ne (19), 3) := by decide +kernel
theorem d_Model_isRegion_16 : decode c_Model_isRegion 16 = .ok (.iload_n 2, 1) := by decide +kernel
theorem d_Model_isRegion_17 : decode c_Model_isRegion 17 = .ok (.iload_n 1, 1) := by decide +kernel
theorem d_Model_isRegion_18 : decode c_Model_isRegion 18 = .ok (.isub, 1) := by decide +kernel
theorem d_Model_isRegion_19 : decode c_Model_isRegion 19 = .ok (.iconst 3, 1) := by decide +kernel
theorem d_Model_isRegion_20 : decode c_Model_isRegion 20 = .ok (.if_icmp .ne (16), 3) := by decide +kernel
theorem d_Model_isRegion_23 : decode c_Model_isRegion 23 = .ok (.aload_n 0, 1) := by decide +kernel
theorem d_Model_isRegion_24 : decode c_Model_isRegion 24 = .ok (.iload_n 1, 1) := by decide +kernel
theorem d_Model_isRegion_25 : decode c_Model_isRegion 25 = .ok (.iload_n 2, 1) := by decide +kernel
theorem d_Model_isRegion_26 : decode c_Model_isRegion 26 = .ok (.invokevirtual 109, 3) := by decide +kernel
theorem d_Model_isRegion_29 : decode c_Model_isRegion 29 = .ok (.ifCond .eq (7), 3) := by decide +kernel
theorem d_Model_isRegion_32 : decode c_Model_isRegion 32 = .ok (.iconst 1, 1) := by decide +kernel
theorem d_Model_isRegion_33 : decode c_Model_isRegion 33 = .ok (.goto (4), 3) := by decide +kernel
theorem d_Model_isRegion_36 : decode c_Model_isRegion 36 = .ok (.iconst 0, 1) := by decide +kernel
theorem d_Model_isRegion_37 : decode c_Model_isRegion 37 = .ok (.ireturn, 1) := by decide +kernel
def sh_Model_isRegion_37 (F : Nat) (y0 : Int32) (w : im_W) : Option (Int32 × im_W) :=
  im_rz y0 w
set_option maxHeartbeats 4000000 in
set_option maxRecDepth 100000 in
theorem bk_Model_isRegion_37 {F : Nat} {r : Int32 × im_W} (X : im_X D vwCl tA lo im_NW c_Model_isRegion 3 (some .boolean) RC_Model im_T p s m args meth c) (y0 : Int32) (w : im_W) (hsh : sh_Model_isRegion_37 F y0 w = some r) : im_WW D vwCl tA lo 3 p l e (im_rm 3 66) s m args below meth c 0 0 (MQ below (im_Post D vwCl tA lo (some (.int r.1)) r.2) args s 0 0 (fun q => lo ≤ q)) 37 [] [.int y0] w := by
  obtain ⟨hx, hb, hr, hts, hown, hlk, hml, hK, hN⟩ := id X
  intro H locs ls hH hl
  unfold sh_Model_isRegion_37 at hsh
  obtain ⟨rfl, hn⟩ := im_rz_s hsh
  exact im_zret hx hb hr hlk hn hH d_Model_isRegion_37
def sh_Model_isRegion_32 (F : Nat)  (w : im_W) : Option (Int32 × im_W) :=
  sh_Model_isRegion_37 F (1 : Int32) w
set_option maxHeartbeats 4000000 in
set_option maxRecDepth 100000 in
theorem bk_Model_isRegion_32 {F : Nat} {r : Int32 × im_W} (X : im_X D vwCl tA lo im_NW c_Model_isRegion 3 (some .boolean) RC_Model im_T p s m args meth c)  (w : im_W) (hsh : sh_Model_isRegion_32 F w = some r) : im_WW D vwCl tA lo 3 p l e (im_rm 3 66) s m args below meth c 0 0 (MQ below (im_Post D vwCl tA lo (some (.int r.1)) r.2) args s 0 0 (fun q => lo ≤ q)) 32 [] [] w := by
  obtain ⟨hx, hb, hr, hts, hown, hlk, hml, hK, hN⟩ := id X
  intro H locs ls hH hl
  unfold sh_Model_isRegion_32 at hsh
  refine lv_iconst (v := 1) hx hb d_Model_isRegion_32 (by decide) ?_
  refine lv_goto (tgt := 37) hx hb d_Model_isRegion_33 (by decide) ?_
  exact bk_Model_isRegion_37 X (1 : Int32) w hsh H locs ls hH (lv_sub hl [] rfl)
def sh_Model_isRegion_36 (F : Nat)  (w : im_W) : Option (Int32 × im_W) :=
  sh_Model_isRegion_37 F (0 : Int32) w
set_option maxHeartbeats 4000000 in
set_option maxRecDepth 100000 in
theorem bk_Model_isRegion_36 {F : Nat} {r : Int32 × im_W} (X : im_X D vwCl tA lo im_NW c_Model_isRegion 3 (some .boolean) RC_Model im_T p s m args meth c)  (w : im_W) (hsh : sh_Model_isRegion_36 F w = some r) : im_WW D vwCl tA lo 3 p l e (im_rm 3 66) s m args below meth c 0 0 (MQ below (im_Post D vwCl tA lo (some (.int r.1)) r.2) args s 0 0 (fun q => lo ≤ q)) 36 [] [] w := by
  obtain ⟨hx, hb, hr, hts, hown, hlk, hml, hK, hN⟩ := id X
  intro H locs ls hH hl
  unfold sh_Model_isRegion_36 at hsh
  refine lv_iconst (v := 0) hx hb d_Model_isRegion_36 (by decide) ?_
  exact bk_Model_isRegion_37 X (0 : Int32) w hsh H locs ls hH (lv_sub hl [] rfl)
def sh_Model_isRegion_16 (F : Nat) (x0 : Nat) (x1 : Int32) (x2 : Int32) (w : im_W) : Option (Int32 × im_W) :=
  (if (x2 - x1) = (3 : Int32) then (im_is w 9 x0).bind fun u1 => im_b2 (sh_Model_allDigits F x0 x1 x2 w) fun v7 w5 => (if v7 = 0 then sh_Model_isRegion_36 F w5 else sh_Model_isRegion_32 F w5) else sh_Model_isRegion_36 F w)
set_option maxHeartbeats 4000000 in
set_option maxRecDepth 100000 in
theorem bk_Model_isRegion_16 {F : Nat} {r : Int32 × im_W} (X : im_X D vwCl tA lo im_NW c_Model_isRegion 3 (some .boolean) RC_Model im_T p s m args meth c) (x0 : Nat) (x1 : Int32) (x2 : Int32) (w : im_W) (hsh : sh_Model_isRegion_16 F x0 x1 x2 w = some r) : im_WW D vwCl tA lo 3 p l e (im_rm 3 66) s m args below meth c 0 0 (MQ below (im_Post D vwCl tA lo (some (.int r.1)) r.2) args s 0 0 (fun q => lo ≤ q)) 16 [(0, .ref (lo + x0)), (1, .int x1), (2, .int x2)] [] w := by
  obtain ⟨hx, hb, hr, hts, hown, hlk, hml, hK, hN⟩ := id X
  intro H locs ls hH hl
  unfold sh_Model_isRegion_16 at hsh
  refine lv_iload_n hx hb d_Model_isRegion_16 rfl (lv_at hl 2 rfl) ?_
  refine lv_iload_n hx hb d_Model_isRegion_17 rfl (lv_at hl 1 rfl) ?_
  refine lv_isub hx hb d_Model_isRegion_18 ?_
  refine lv_iconst (v := 3) hx hb d_Model_isRegion_19 (by decide) ?_
  refine lv_icmp_ne (tgt := 36) hx hb d_Model_isRegion_20 (by decide) (fun cc => ?_) (fun cc => ?_)
  · have hsh := im_if hsh cc
    exact bk_Model_isRegion_36 X w hsh H locs ls hH (lv_sub hl [] rfl)
  · have hsh := im_it hsh cc
    refine lv_aload_n hx hb d_Model_isRegion_23 rfl (lv_at hl 0 rfl) ?_
    refine lv_iload_n hx hb d_Model_isRegion_24 rfl (lv_at hl 1 rfl) ?_
    refine lv_iload_n hx hb d_Model_isRegion_25 rfl (lv_at hl 2 rfl) ?_
    obtain ⟨u1, h2, hsh⟩ := im_bd hsh
    obtain ⟨g3, h4⟩ := im_is_s h2
    obtain ⟨v7, w5, h6, hsh⟩ := im_bd2 hsh
    refine im_afterI (va_runV (As := [.int x1, .int x2]) (rest := []) (C := RC_Model) ⟨hx, hb, hml, hown, hts⟩ (met_Model_allDigits h6) ⟨(callB_of 2 hts (im_good wd_803) rfl rfl rfl (hts _ wd_10) (hts _ wd_800) (by decide +kernel) ⟨Nat.le_of_ble_eq_true rfl, Nat.le_of_ble_eq_true rfl⟩), hts _ wd_802, hts _ sl_Model_allDigits⟩ (im_preV im_NW_ok hK hN hH (ci := 9) rfl rfl h4 _) rfl rfl hl.1 rfl (lv_room (Nat.le_of_ble_eq_true rfl)) d_Model_isRegion_26 ⟨Nat.le_of_ble_eq_true rfl, Nat.le_of_ble_eq_true rfl⟩) hH (fun H locs hH => ?_)
    refine lv_if_eq (tgt := 36) hx hb d_Model_isRegion_29 (by decide) (fun cc => ?_) (fun cc => ?_)
    · have hsh := im_it hsh cc
      exact bk_Model_isRegion_36 X w5 hsh H locs ls hH (lv_sub hl [] rfl)
    · have hsh := im_if hsh cc
      exact bk_Model_isRegion_32 X w5 hsh H locs ls hH (lv_sub hl [] rfl)
def sh_Model_isRegion (F : Nat) (x0 : Nat) (x1 : Int32) (x2 : Int32) (w : im_W) : Option (Int32 × im_W) :=
  (if (x2 - x1) = (2 : Int32) then (im_is w 9 x0).bind fun u1 => im_b2 (sh_Model_allLetters F x0 x1 x2 w) fun v7 w5 => (if v7 = 0 then sh_Model_isRegion_16 F x0 x1 x2 w5 else sh_Model_isRegion_32 F w5) else sh_Model_isRegion_16 F x0 x1 x2 w)
set_option maxHeartbeats 4000000 in
set_option maxRecDepth 100000 in
theorem met_Model_isRegion {F : Nat} {x0 : Nat} {x1 : Int32} {x2 : Int32} {w : im_W} {r : Int32 × im_W} (hsh : sh_Model_isRegion F x0 x1 x2 w = some r) : Met l y_Model_isRegion (Cond.code y_Model_isRegion c_Model_isRegion 3 (some .boolean) :: im_T) (im_rm 3 66) (im_Pre D vwCl tA lo im_NW [.ref (lo + x0), .int x1, .int x2] w) (im_Post D vwCl tA lo (some (.int r.1)) r.2) 0 0 (fun q => lo ≤ q) := by
  refine im_ofW (cc := c_Model_isRegion) (nL := 3) (ret := (some .boolean)) (by decide) (Nat.le_of_ble_eq_true rfl) ?_
  intro p e s m args below meth c X H locs ls hH hl
  obtain ⟨hx, hb, hr, hts, hown, hlk, hml, hK, hN⟩ := id X
  have hl : lv_has ls 3 [(0, .ref (lo + x0)), (1, .int x1), (2, .int x2)] := hl
  unfold sh_Model_isRegion at hsh
  refine lv_iload_n hx hb d_Model_isRegion_0 rfl (lv_at hl 2 rfl) ?_
  refine lv_iload_n hx hb d_Model_isRegion_1 rfl (lv_at hl 1 rfl) ?_
  refine lv_isub hx hb d_Model_isRegion_2 ?_
  refine lv_iconst (v := 2) hx hb d_Model_isRegion_3 (by decide) ?_
  refine lv_icmp_ne (tgt := 16) hx hb d_Model_isRegion_4 (by decide) (fun cc => ?_) (fun cc => ?_)
  · have hsh := im_if hsh cc
    exact bk_Model_isRegion_16 X x0 x1 x2 w hsh H locs ls hH (lv_sub hl [0, 1, 2] rfl)
  · have hsh := im_it hsh cc
    refine lv_aload_n hx hb d_Model_isRegion_7 rfl (lv_at hl 0 rfl) ?_
    refine lv_iload_n hx hb d_Model_isRegion_8 rfl (lv_at hl 1 rfl) ?_
    refine lv_iload_n hx hb d_Model_isRegion_9 rfl (lv_at hl 2 rfl) ?_
    obtain ⟨u1, h2, hsh⟩ := im_bd hsh
    obtain ⟨g3, h4⟩ := im_is_s h2
    obtain ⟨v7, w5, h6, hsh⟩ := im_bd2 hsh
    refine im_afterI (va_runV (As := [.int x1, .int x2]) (rest := []) (C := RC_Model) ⟨hx, hb, hml, hown, hts⟩ (met_Model_allLetters h6) ⟨(callB_of 2 hts (im_good wd_799) rfl rfl rfl (hts _ wd_10) (hts _ wd_796) (by decide +kernel) ⟨Nat.le_of_ble_eq_true rfl, Nat.le_of_ble_eq_true rfl⟩), hts _ wd_798, hts _ sl_Model_allLetters⟩ (im_preV im_NW_ok hK hN hH (ci := 9) rfl rfl h4 _) rfl rfl hl.1 rfl (lv_room (Nat.le_of_ble_eq_true rfl)) d_Model_isRegion_10 ⟨Nat.le_of_ble_eq_true rfl, Nat.le_of_ble_eq_true rfl⟩) hH (fun H locs hH => ?_)
    refine lv_if_ne (tgt := 32) hx hb d_Model_isRegion_13 (by decide) (fun cc => ?_) (fun cc => ?_)
    · have hsh := im_if hsh cc
      exact bk_Model_isRegion_32 X w5 hsh H locs ls hH (lv_sub hl [] rfl)
    · have hsh := im_it hsh cc
      exact bk_Model_isRegion_16 X x0 x1 x2 w5 hsh H locs ls hH (lv_sub hl [0, 1, 2] rfl)
theorem wd_832 : (Jvm.Cond.methodLink "LanguageTagsModel" (112 : Nat) ({ cls := "LanguageTagsModel", name := "allBoth", desc := "(II)Z" } : Jvm.MethodName)) ∈ im_T := im_memT (i := 832) (by decide +kernel) (by decide +kernel)
theorem wd_834 : (Jvm.Cond.instanceMethod ({ cls := "LanguageTagsModel", name := "allBoth", desc := "(II)Z" } : Jvm.MethodName)) ∈ im_T := im_memT (i := 834) (by decide +kernel) (by decide +kernel)
theorem wd_835 : (Jvm.Cond.code ({ cls := "LanguageTagsModel", name := "allBoth", desc := "(II)Z" } : Jvm.MethodName) prog_12_method_7_code (5 : Nat) (Option.some Jvm.ClassFile.FieldType.boolean)) ∈ im_T := im_memT (i := 835) (by decide +kernel) (by decide +kernel)
theorem d_Model_isVariant_0 : decode c_Model_isVariant 0 = .ok (.iload_n 2, 1) := by decide +kernel
theorem d_Model_isVariant_1 : decode c_Model_isVariant 1 = .ok (.iload_n 1, 1) := by decide +kernel
theorem d_Model_isVariant_2 : decode c_Model_isVariant 2 = .ok (.isub, 1) := by decide +kernel
theorem d_Model_isVariant_3 : decode c_Model_isVariant 3 = .ok (.istore_n 3, 1) := by decide +kernel
theorem d_Model_isVariant_4 : decode c_Model_isVariant 4 = .ok (.aload_n 0, 1) := by decide +kernel
theorem d_Model_isVariant_5 : decode c_Model_isVariant 5 = .ok (.iload_n 1, 1) := by decide +kernel
theorem d_Model_isVariant_6 : decode c_Model_isVariant 6 = .ok (.iload_n 2, 1) := by decide +kernel
theorem d_Model_isVariant_7 : decode c_Model_isVariant 7 = .ok (.invokevirtual 112, 3) := by decide +kernel
theorem d_Model_isVariant_10 : decode c_Model_isVariant 10 = .ok (.ifCond .eq (36), 3) := by decide +kernel
theorem d_Model_isVariant_13 : decode c_Model_isVariant 13 = .ok (.iload_n 3, 1) := by decide +kernel
theorem d_Model_isVariant_14 : decode c_Model_isVariant 14 = .ok (.iconst 5, 1) := by decide +kernel
theorem d_Model_isVariant_15 : decode c_Model_isVariant 15 = .ok (.if_icmp .lt (9), 3) := by decide +kernel
theorem d_Model_isVariant_18 : decode c_Model_isVariant 18 = .ok (.iload_n 3, 1) := by decide +kernel
theorem d_Model_isVariant_19 : decode c_Model_isVariant 19 = .ok (.bipush (8), 2) := by decide +kernel
theorem d_Model_isVariant_21 : decode c_Model_isVariant 21 = .ok (.if_icmp .le (21), 3) := by decide +kernel
theorem d_Model_isVariant_24 : decode c_Model_isVariant 24 = .ok (.iload_n 3, 1) := by decide +kernel
theorem d_Model_isVariant_25 : decode c_Model_isVariant 25 = .ok (.iconst 4, 1) := by decide +kernel
theorem d_Model_isVariant_26 : decode c_Model_isVariant 26 = .ok (.if_icmp .ne (20), 3) := by decide +kernel
theorem d_Model_isVariant_29 : decode c_Model_isVariant 29 = .ok (.aload_n 0, 1) := by decide +kernel
theorem d_Model_isVariant_30 : decode c_Model_isVariant 30 = .ok (.aload_n 0, 1) := by decide +kernel
theorem d_Model_isVariant_31 : decode c_Model_isVariant 31 = .ok (.getfield 7, 3) := by decide +kernel
theorem d_Model_isVariant_34 : decode c_Model_isVariant 34 = .ok (.iload_n 1, 1) := by decide +kernel
theorem d_Model_isVariant_35 : decode c_Model_isVariant 35 = .ok (.caload, 1) := by decide +kernel
theorem d_Model_isVariant_36 : decode c_Model_isVariant 36 = .ok (.invokevirtual 98, 3) := by decide +kernel
theorem d_Model_isVariant_39 : decode c_Model_isVariant 39 = .ok (.ifCond .eq (7), 3) := by decide +kernel
theorem d_Model_isVariant_42 : decode c_Model_isVariant 42 = .ok (.iconst 1, 1) := by decide +kernel
theorem d_Model_isVariant_43 : decode c_Model_isVariant 43 = .ok (.goto (4), 3) := by decide +kernel
theorem d_Model_isVariant_46 : decode c_Model_isVariant 46 = .ok (.iconst 0, 1) := by decide +kernel
theorem d_Model_isVariant_47 : decode c_Model_isVariant 47 = .ok (.ireturn, 1) := by decide +kernel
def sh_Model_isVariant_47 (F : Nat) (y0 : Int32) (w : im_W) : Option (Int32 × im_W) :=
  im_rz y0 w
set_option maxHeartbeats 4000000 in
set_option maxRecDepth 100000 in
theorem bk_Model_isVariant_47 {F : Nat} {r : Int32 × im_W} (X : im_X D vwCl tA lo im_NW c_Model_isVariant 4 (some .boolean) RC_Model im_T p s m args meth c) (y0 : Int32) (w : im_W) (hsh : sh_Model_isVariant_47 F y0 w = some r) : im_WW D vwCl tA lo 4 p l e (im_rm 3 66) s m args below meth c 0 0 (MQ below (im_Post D vwCl tA lo (some (.int r.1)) r.2) args s 0 0 (fun q => lo ≤ q)) 47 [] [.int y0] w := by
  obtain ⟨hx, hb, hr, hts, hown, hlk, hml, hK, hN⟩ := id X
  intro H locs ls hH hl
  unfold sh_Model_isVariant_47 at hsh
  obtain ⟨rfl, hn⟩ := im_rz_s hsh
  exact im_zret hx hb hr hlk hn hH d_Model_isVariant_47
def sh_Model_isVariant_42 (F : Nat)  (w : im_W) : Option (Int32 × im_W) :=
  sh_Model_isVariant_47 F (1 : Int32) w
set_option maxHeartbeats 4000000 in
set_option maxRecDepth 100000 in
theorem bk_Model_isVariant_42 {F : Nat} {r : Int32 × im_W} (X : im_X D vwCl tA lo im_NW c_Model_isVariant 4 (some .boolean) RC_Model im_T p s m args meth c)  (w : im_W) (hsh : sh_Model_isVariant_42 F w = some r) : im_WW D vwCl tA lo 4 p l e (im_rm 3 66) s m args below meth c 0 0 (MQ below (im_Post D vwCl tA lo (some (.int r.1)) r.2) args s 0 0 (fun q => lo ≤ q)) 42 [] [] w := by
  obtain ⟨hx, hb, hr, hts, hown, hlk, hml, hK, hN⟩ := id X
  intro H locs ls hH hl
  unfold sh_Model_isVariant_42 at hsh
  refine lv_iconst (v := 1) hx hb d_Model_isVariant_42 (by decide) ?_
  refine lv_goto (tgt := 47) hx hb d_Model_isVariant_43 (by decide) ?_
  exact bk_Model_isVariant_47 X (1 : Int32) w hsh H locs ls hH (lv_sub hl [] rfl)
def sh_Model_isVariant_46 (F : Nat)  (w : im_W) : Option (Int32 × im_W) :=
  sh_Model_isVariant_47 F (0 : Int32) w
set_option maxHeartbeats 4000000 in
set_option maxRecDepth 100000 in
theorem bk_Model_isVariant_46 {F : Nat} {r : Int32 × im_W} (X : im_X D vwCl tA lo im_NW c_Model_isVariant 4 (some .boolean) RC_Model im_T p s m args meth c)  (w : im_W) (hsh : sh_Model_isVariant_46 F w = some r) : im_WW D vwCl tA lo 4 p l e (im_rm 3 66) s m args below meth c 0 0 (MQ below (im_Post D vwCl tA lo (some (.int r.1)) r.2) args s 0 0 (fun q => lo ≤ q)) 46 [] [] w := by
  obtain ⟨hx, hb, hr, hts, hown, hlk, hml, hK, hN⟩ := id X
  intro H locs ls hH hl
  unfold sh_Model_isVariant_46 at hsh
  refine lv_iconst (v := 0) hx hb d_Model_isVariant_46 (by decide) ?_
  exact bk_Model_isVariant_47 X (0 : Int32) w hsh H locs ls hH (lv_sub hl [] rfl)
def sh_Model_isVariant_24 (F : Nat) (x0 : Nat) (x1 : Int32) (x3 : Int32) (w : im_W) : Option (Int32 × im_W) :=
  (if x3 = (4 : Int32) then (im_gR w 9 x0 1).bind fun f1 => (im_lI w 2 f1 x1).bind fun e3 => (im_is w 9 x0).bind fun u5 => im_b2 (sh_Model_digit F x0 e3 w) fun v11 w9 => (if v11 = 0 then sh_Model_isVariant_46 F w9 else sh_Model_isVariant_42 F w9) else sh_Model_isVariant_46 F w)
set_option maxHeartbeats 4000000 in
set_option maxRecDepth 100000 in
theorem bk_Model_isVariant_24 {F : Nat} {r : Int32 × im_W} (X : im_X D vwCl tA lo im_NW c_Model_isVariant 4 (some .boolean) RC_Model im_T p s m args meth c) (x0 : Nat) (x1 : Int32) (x3 : Int32) (w : im_W) (hsh : sh_Model_isVariant_24 F x0 x1 x3 w = some r) : im_WW D vwCl tA lo 4 p l e (im_rm 3 66) s m args below meth c 0 0 (MQ below (im_Post D vwCl tA lo (some (.int r.1)) r.2) args s 0 0 (fun q => lo ≤ q)) 24 [(0, .ref (lo + x0)), (1, .int x1), (3, .int x3)] [] w := by
  obtain ⟨hx, hb, hr, hts, hown, hlk, hml, hK, hN⟩ := id X
  intro H locs ls hH hl
  unfold sh_Model_isVariant_24 at hsh
  refine lv_iload_n hx hb d_Model_isVariant_24 rfl (lv_at hl 2 rfl) ?_
  refine lv_iconst (v := 4) hx hb d_Model_isVariant_25 (by decide) ?_
  refine lv_icmp_ne (tgt := 46) hx hb d_Model_isVariant_26 (by decide) (fun cc => ?_) (fun cc => ?_)
  · have hsh := im_if hsh cc
    exact bk_Model_isVariant_46 X w hsh H locs ls hH (lv_sub hl [] rfl)
  · have hsh := im_it hsh cc
    refine lv_aload_n hx hb d_Model_isVariant_29 rfl (lv_at hl 0 rfl) ?_
    refine lv_aload_n hx hb d_Model_isVariant_30 rfl (lv_at hl 0 rfl) ?_
    obtain ⟨f1, h2, hsh⟩ := im_bd hsh
    refine im_getR hx hb hts inC_Model hown hK hH (ci := 9) rfl 1 (by decide) (hts _ wd_632) rfl h2 d_Model_isVariant_31 ?_
    refine lv_iload_n hx hb d_Model_isVariant_34 rfl (lv_at hl 1 rfl) ?_
    obtain ⟨e3, h4, hsh⟩ := im_bd hsh
    refine im_cald hx hb hK hH h4 d_Model_isVariant_35 ?_
    obtain ⟨u5, h6, hsh⟩ := im_bd hsh
    obtain ⟨g7, h8⟩ := im_is_s h6
    obtain ⟨v11, w9, h10, hsh⟩ := im_bd2 hsh
    refine im_afterI (va_runV (As := [.int e3]) (rest := []) (C := RC_Model) ⟨hx, hb, hml, hown, hts⟩ (met_Model_digit h10) ⟨(callB_of 1 hts (im_good wd_779) rfl rfl rfl (hts _ wd_10) (hts _ wd_776) (by decide +kernel) ⟨Nat.le_of_ble_eq_true rfl, Nat.le_of_ble_eq_true rfl⟩), hts _ wd_778, hts _ sl_Model_digit⟩ (im_preV im_NW_ok hK hN hH (ci := 9) rfl rfl h8 _) rfl rfl hl.1 rfl (lv_room (Nat.le_of_ble_eq_true rfl)) d_Model_isVariant_36 ⟨Nat.le_of_ble_eq_true rfl, Nat.le_of_ble_eq_true rfl⟩) hH (fun H locs hH => ?_)
    refine lv_if_eq (tgt := 46) hx hb d_Model_isVariant_39 (by decide) (fun cc => ?_) (fun cc => ?_)
    · have hsh := im_it hsh cc
      exact bk_Model_isVariant_46 X w9 hsh H locs ls hH (lv_sub hl [] rfl)
    · have hsh := im_if hsh cc
      exact bk_Model_isVariant_42 X w9 hsh H locs ls hH (lv_sub hl [] rfl)
def sh_Model_isVariant (F : Nat) (x0 : Nat) (x1 : Int32) (x2 : Int32) (w : im_W) : Option (Int32 × im_W) :=
  (im_is w 9 x0).bind fun u1 => im_b2 (sh_Model_allBoth F x0 x1 x2 w) fun v7 w5 => (if v7 = 0 then sh_Model_isVariant_46 F w5 else (if (x2 - x1) < (5 : Int32) then sh_Model_isVariant_24 F x0 x1 (x2 - x1) w5 else (if (x2 - x1) ≤ (8 : Int32) then sh_Model_isVariant_42 F w5 else sh_Model_isVariant_24 F x0 x1 (x2 - x1) w5)))
set_option maxHeartbeats 4000000 in
set_option maxRecDepth 100000 in
theorem met_Model_isVariant {F : Nat} {x0 : Nat} {x1 : Int32} {x2 : Int32} {w : im_W} {r : Int32 × im_W} (hsh : sh_Model_isVariant F x0 x1 x2 w = some r) : Met l y_Model_isVariant (Cond.code y_Model_isVariant c_Model_isVariant 4 (some .boolean) :: im_T) (im_rm 3 66) (im_Pre D vwCl tA lo im_NW [.ref (lo + x0), .int x1, .int x2] w) (im_Post D vwCl tA lo (some (.int r.1)) r.2) 0 0 (fun q => lo ≤ q) := by
  refine im_ofW (cc := c_Model_isVariant) (nL := 4) (ret := (some .boolean)) (by decide) (Nat.le_of_ble_eq_true rfl) ?_
  intro p e s m args below meth c X H locs ls hH hl
  obtain ⟨hx, hb, hr, hts, hown, hlk, hml, hK, hN⟩ := id X
  have hl : lv_has ls 4 [(0, .ref (lo + x0)), (1, .int x1), (2, .int x2)] := hl
  unfold sh_Model_isVariant at hsh
  refine lv_iload_n hx hb d_Model_isVariant_0 rfl (lv_at hl 2 rfl) ?_
  refine lv_iload_n hx hb d_Model_isVariant_1 rfl (lv_at hl 1 rfl) ?_
  refine lv_isub hx hb d_Model_isVariant_2 ?_
  refine lv_istore_n (lv' := [(3, .int (x2 - x1)), (0, .ref (lo + x0)), (1, .int x1), (2, .int x2)]) hx hb d_Model_isVariant_3 rfl hl (by decide) rfl (fun ls hl => ?_)
  refine lv_aload_n hx hb d_Model_isVariant_4 rfl (lv_at hl 1 rfl) ?_
  refine lv_iload_n hx hb d_Model_isVariant_5 rfl (lv_at hl 2 rfl) ?_
  refine lv_iload_n hx hb d_Model_isVariant_6 rfl (lv_at hl 3 rfl) ?_
  obtain ⟨u1, h2, hsh⟩ := im_bd hsh
  obtain ⟨g3, h4⟩ := im_is_s h2
  obtain ⟨v7, w5, h6, hsh⟩ := im_bd2 hsh
  refine im_afterI (va_runV (As := [.int x1, .int x2]) (rest := []) (C := RC_Model) ⟨hx, hb, hml, hown, hts⟩ (met_Model_allBoth h6) ⟨(callB_of 2 hts (im_good wd_835) rfl rfl rfl (hts _ wd_10) (hts _ wd_832) (by decide +kernel) ⟨Nat.le_of_ble_eq_true rfl, Nat.le_of_ble_eq_true rfl⟩), hts _ wd_834, hts _ sl_Model_allBoth⟩ (im_preV im_NW_ok hK hN hH (ci := 9) rfl rfl h4 _) rfl rfl hl.1 rfl (lv_room (Nat.le_of_ble_eq_true rfl)) d_Model_isVariant_7 ⟨Nat.le_of_ble_eq_true rfl, Nat.le_of_ble_eq_true rfl⟩) hH (fun H locs hH => ?_)
  refine lv_if_eq (tgt := 46) hx hb d_Model_isVariant_10 (by decide) (fun cc => ?_) (fun cc => ?_)
  · have hsh := im_it hsh cc
    exact bk_Model_isVariant_46 X w5 hsh H locs ls hH (lv_sub hl [] rfl)
  · have hsh := im_if hsh cc
    refine lv_iload_n hx hb d_Model_isVariant_13 rfl (lv_at hl 0 rfl) ?_
    refine lv_iconst (v := 5) hx hb d_Model_isVariant_14 (by decide) ?_
    refine lv_icmp_lt (tgt := 24) hx hb d_Model_isVariant_15 (by decide) (fun cc => ?_) (fun cc => ?_)
    · have hsh := im_it hsh cc
      exact bk_Model_isVariant_24 X x0 x1 (x2 - x1) w5 hsh H locs ls hH (lv_sub hl [1, 2, 0] rfl)
    · have hsh := im_if hsh cc
      refine lv_iload_n hx hb d_Model_isVariant_18 rfl (lv_at hl 0 rfl) ?_
      refine lv_bipush (v := 8) hx hb d_Model_isVariant_19 (by decide) ?_
      refine lv_icmp_le (tgt := 42) hx hb d_Model_isVariant_21 (by decide) (fun cc => ?_) (fun cc => ?_)
      · have hsh := im_it hsh cc
        exact bk_Model_isVariant_42 X w5 hsh H locs ls hH (lv_sub hl [] rfl)
      · have hsh := im_if hsh cc
        exact bk_Model_isVariant_24 X x0 x1 (x2 - x1) w5 hsh H locs ls hH (lv_sub hl [1, 2, 0] rfl)
theorem d_Model_isKey_0 : decode c_Model_isKey 0 = .ok (.iload_n 2, 1) := by decide +kernel
theorem d_Model_isKey_1 : decode c_Model_isKey 1 = .ok (.iload_n 1, 1) := by decide +kernel
theorem d_Model_isKey_2 : decode c_Model_isKey 2 = .ok (.isub, 1) := by decide +kernel
theorem d_Model_isKey_3 : decode c_Model_isKey 3 = .ok (.iconst 2, 1) := by decide +kernel
theorem d_Model_isKey_4 : decode c_Model_isKey 4 = .ok (.if_icmp .ne (31), 3) := by decide +kernel
theorem d_Model_isKey_7 : decode c_Model_isKey 7 = .ok (.aload_n 0, 1) := by decide +kernel
theorem d_Model_isKey_8 : decode c_Model_isKey 8 = .ok (.iload_n 1, 1) := by decide +kernel
theorem d_Model_isKey_9 : decode c_Model_isKey 9 = .ok (.iload_n 2, 1) := by decide +kernel
theorem d_Model_isKey_10 : decode c_Model_isKey 10 = .ok (.invokevirtual 112, 3) := by decide +kernel
theorem d_Model_isKey_13 : decode c_Model_isKey 13 = .ok (.ifCond .eq (22), 3) := by decide +kernel
theorem d_Model_isKey_16 : decode c_Model_isKey 16 = .ok (.aload_n 0, 1) := by decide +kernel
theorem d_Model_isKey_17 : decode c_Model_isKey 17 = .ok (.aload_n 0, 1) := by decide +kernel
theorem d_Model_isKey_18 : decode c_Model_isKey 18 = .ok (.getfield 7, 3) := by decide +kernel
theorem d_Model_isKey_21 : decode c_Model_isKey 21 = .ok (.iload_n 1, 1) := by decide +kernel
theorem d_Model_isKey_22 : decode c_Model_isKey 22 = .ok (.iconst 1, 1) := by decide +kernel
theorem d_Model_isKey_23 : decode c_Model_isKey 23 = .ok (.iadd, 1) := by decide +kernel
theorem d_Model_isKey_24 : decode c_Model_isKey 24 = .ok (.caload, 1) := by decide +kernel
theorem d_Model_isKey_25 : decode c_Model_isKey 25 = .ok (.invokevirtual 94, 3) := by decide +kernel
theorem d_Model_isKey_28 : decode c_Model_isKey 28 = .ok (.ifCond .eq (7), 3) := by decide +kernel
theorem d_Model_isKey_31 : decode c_Model_isKey 31 = .ok (.iconst 1, 1) := by decide +kernel
theorem d_Model_isKey_32 : decode c_Model_isKey 32 = .ok (.goto (4), 3) := by decide +kernel
theorem d_Model_isKey_35 : decode c_Model_isKey 35 = .ok (.iconst 0, 1) := by decide +kernel
theorem d_Model_isKey_36 : decode c_Model_isKey 36 = .ok (.ireturn, 1) := by decide +kernel
def sh_Model_isKey_36 (F : Nat) (y0 : Int32) (w : im_W) : Option (Int32 × im_W) :=
  im_rz y0 w
set_option maxHeartbeats 4000000 in
set_option maxRecDepth 100000 in
theorem bk_Model_isKey_36 {F : Nat} {r : Int32 × im_W} (X : im_X D vwCl tA lo im_NW c_Model_isKey 3 (some .boolean) RC_Model im_T p s m args meth c) (y0 : Int32) (w : im_W) (hsh : sh_Model_isKey_36 F y0 w = some r) : im_WW D vwCl tA lo 3 p l e (im_rm 3 66) s m args below meth c 0 0 (MQ below (im_Post D vwCl tA lo (some (.int r.1)) r.2) args s 0 0 (fun q => lo ≤ q)) 36 [] [.int y0] w := by
  obtain ⟨hx, hb, hr, hts, hown, hlk, hml, hK, hN⟩ := id X
  intro H locs ls hH hl
  unfold sh_Model_isKey_36 at hsh
  obtain ⟨rfl, hn⟩ := im_rz_s hsh
  exact im_zret hx hb hr hlk hn hH d_Model_isKey_36
def sh_Model_isKey_35 (F : Nat)  (w : im_W) : Option (Int32 × im_W) :=
  sh_Model_isKey_36 F (0 : Int32) w
set_option maxHeartbeats 4000000 in
set_option maxRecDepth 100000 in
theorem bk_Model_isKey_35 {F : Nat} {r : Int32 × im_W} (X : im_X D vwCl tA lo im_NW c_Model_isKey 3 (some .boolean) RC_Model im_T p s m args meth c)  (w : im_W) (hsh : sh_Model_isKey_35 F w = some r) : im_WW D vwCl tA lo 3 p l e (im_rm 3 66) s m args below meth c 0 0 (MQ below (im_Post D vwCl tA lo (some (.int r.1)) r.2) args s 0 0 (fun q => lo ≤ q)) 35 [] [] w := by
  obtain ⟨hx, hb, hr, hts, hown, hlk, hml, hK, hN⟩ := id X
  intro H locs ls hH hl
  unfold sh_Model_isKey_35 at hsh
  refine lv_iconst (v := 0) hx hb d_Model_isKey_35 (by decide) ?_
  exact bk_Model_isKey_36 X (0 : Int32) w hsh H locs ls hH (lv_sub hl [] rfl)
def sh_Model_isKey (F : Nat) (x0 : Nat) (x1 : Int32) (x2 : Int32) (w : im_W) : Option (Int32 × im_W) :=
  (if (x2 - x1) = (2 : Int32) then (im_is w 9 x0).bind fun u1 => im_b2 (sh_Model_allBoth F x0 x1 x2 w) fun v7 w5 => (if v7 = 0 then sh_Model_isKey_35 F w5 else (im_gR w5 9 x0 1).bind fun f8 => (im_lI w5 2 f8 (x1 + (1 : Int32))).bind fun e10 => (im_is w5 9 x0).bind fun u12 => im_b2 (sh_Model_letter F x0 e10 w5) fun v18 w16 => (if v18 = 0 then sh_Model_isKey_35 F w16 else sh_Model_isKey_36 F (1 : Int32) w16)) else sh_Model_isKey_35 F w)
set_option maxHeartbeats 4000000 in
set_option maxRecDepth 100000 in
theorem met_Model_isKey {F : Nat} {x0 : Nat} {x1 : Int32} {x2 : Int32} {w : im_W} {r : Int32 × im_W} (hsh : sh_Model_isKey F x0 x1 x2 w = some r) : Met l y_Model_isKey (Cond.code y_Model_isKey c_Model_isKey 3 (some .boolean) :: im_T) (im_rm 3 66) (im_Pre D vwCl tA lo im_NW [.ref (lo + x0), .int x1, .int x2] w) (im_Post D vwCl tA lo (some (.int r.1)) r.2) 0 0 (fun q => lo ≤ q) := by
  refine im_ofW (cc := c_Model_isKey) (nL := 3) (ret := (some .boolean)) (by decide) (Nat.le_of_ble_eq_true rfl) ?_
  intro p e s m args below meth c X H locs ls hH hl
  obtain ⟨hx, hb, hr, hts, hown, hlk, hml, hK, hN⟩ := id X
  have hl : lv_has ls 3 [(0, .ref (lo + x0)), (1, .int x1), (2, .int x2)] := hl
  unfold sh_Model_isKey at hsh
  refine lv_iload_n hx hb d_Model_isKey_0 rfl (lv_at hl 2 rfl) ?_
  refine lv_iload_n hx hb d_Model_isKey_1 rfl (lv_at hl 1 rfl) ?_
  refine lv_isub hx hb d_Model_isKey_2 ?_
  refine lv_iconst (v := 2) hx hb d_Model_isKey_3 (by decide) ?_
  refine lv_icmp_ne (tgt := 35) hx hb d_Model_isKey_4 (by decide) (fun cc => ?_) (fun cc => ?_)
  · have hsh := im_if hsh cc
    exact bk_Model_isKey_35 X w hsh H locs ls hH (lv_sub hl [] rfl)
  · have hsh := im_it hsh cc
    refine lv_aload_n hx hb d_Model_isKey_7 rfl (lv_at hl 0 rfl) ?_
    refine lv_iload_n hx hb d_Model_isKey_8 rfl (lv_at hl 1 rfl) ?_
    refine lv_iload_n hx hb d_Model_isKey_9 rfl (lv_at hl 2 rfl) ?_
    obtain ⟨u1, h2, hsh⟩ := im_bd hsh
    obtain ⟨g3, h4⟩ := im_is_s h2
    obtain ⟨v7, w5, h6, hsh⟩ := im_bd2 hsh
    refine im_afterI (va_runV (As := [.int x1, .int x2]) (rest := []) (C := RC_Model) ⟨hx, hb, hml, hown, hts⟩ (met_Model_allBoth h6) ⟨(callB_of 2 hts (im_good wd_835) rfl rfl rfl (hts _ wd_10) (hts _ wd_832) (by decide +kernel) ⟨Nat.le_of_ble_eq_true rfl, Nat.le_of_ble_eq_true rfl⟩), hts _ wd_834, hts _ sl_Model_allBoth⟩ (im_preV im_NW_ok hK hN hH (ci := 9) rfl rfl h4 _) rfl rfl hl.1 rfl (lv_room (Nat.le_of_ble_eq_true rfl)) d_Model_isKey_10 ⟨Nat.le_of_ble_eq_true rfl, Nat.le_of_ble_eq_true rfl⟩) hH (fun H locs hH => ?_)
    refine lv_if_eq (tgt := 35) hx hb d_Model_isKey_13 (by decide) (fun cc => ?_) (fun cc => ?_)
    · have hsh := im_it hsh cc
      exact bk_Model_isKey_35 X w5 hsh H locs ls hH (lv_sub hl [] rfl)
    · have hsh := im_if hsh cc
      refine lv_aload_n hx hb d_Model_isKey_16 rfl (lv_at hl 0 rfl) ?_
      refine lv_aload_n hx hb d_Model_isKey_17 rfl (lv_at hl 0 rfl) ?_
      obtain ⟨f8, h9, hsh⟩ := im_bd hsh
      refine im_getR hx hb hts inC_Model hown hK hH (ci := 9) rfl 1 (by decide) (hts _ wd_632) rfl h9 d_Model_isKey_18 ?_
      refine lv_iload_n hx hb d_Model_isKey_21 rfl (lv_at hl 1 rfl) ?_
      refine lv_iconst (v := 1) hx hb d_Model_isKey_22 (by decide) ?_
      refine lv_iadd hx hb d_Model_isKey_23 ?_
      obtain ⟨e10, h11, hsh⟩ := im_bd hsh
      refine im_cald hx hb hK hH h11 d_Model_isKey_24 ?_
      obtain ⟨u12, h13, hsh⟩ := im_bd hsh
      obtain ⟨g14, h15⟩ := im_is_s h13
      obtain ⟨v18, w16, h17, hsh⟩ := im_bd2 hsh
      refine im_afterI (va_runV (As := [.int e10]) (rest := []) (C := RC_Model) ⟨hx, hb, hml, hown, hts⟩ (met_Model_letter h17) ⟨(callB_of 1 hts (im_good wd_771) rfl rfl rfl (hts _ wd_10) (hts _ wd_768) (by decide +kernel) ⟨Nat.le_of_ble_eq_true rfl, Nat.le_of_ble_eq_true rfl⟩), hts _ wd_770, hts _ sl_Model_letter⟩ (im_preV im_NW_ok hK hN hH (ci := 9) rfl rfl h15 _) rfl rfl hl.1 rfl (lv_room (Nat.le_of_ble_eq_true rfl)) d_Model_isKey_25 ⟨Nat.le_of_ble_eq_true rfl, Nat.le_of_ble_eq_true rfl⟩) hH (fun H locs hH => ?_)
      refine lv_if_eq (tgt := 35) hx hb d_Model_isKey_28 (by decide) (fun cc => ?_) (fun cc => ?_)
      · have hsh := im_it hsh cc
        exact bk_Model_isKey_35 X w16 hsh H locs ls hH (lv_sub hl [] rfl)
      · have hsh := im_if hsh cc
        refine lv_iconst (v := 1) hx hb d_Model_isKey_31 (by decide) ?_
        refine lv_goto (tgt := 36) hx hb d_Model_isKey_32 (by decide) ?_
        exact bk_Model_isKey_36 X (1 : Int32) w16 hsh H locs ls hH (lv_sub hl [] rfl)
theorem d_Model_isOne_0 : decode c_Model_isOne 0 = .ok (.iload_n 2, 1) := by decide +kernel
theorem d_Model_isOne_1 : decode c_Model_isOne 1 = .ok (.iload_n 1, 1) := by decide +kernel
theorem d_Model_isOne_2 : decode c_Model_isOne 2 = .ok (.isub, 1) := by decide +kernel
theorem d_Model_isOne_3 : decode c_Model_isOne 3 = .ok (.iconst 1, 1) := by decide +kernel
theorem d_Model_isOne_4 : decode c_Model_isOne 4 = .ok (.if_icmp .ne (21), 3) := by decide +kernel
theorem d_Model_isOne_7 : decode c_Model_isOne 7 = .ok (.aload_n 0, 1) := by decide +kernel
theorem d_Model_isOne_8 : decode c_Model_isOne 8 = .ok (.aload_n 0, 1) := by decide +kernel
theorem d_Model_isOne_9 : decode c_Model_isOne 9 = .ok (.getfield 7, 3) := by decide +kernel
theorem d_Model_isOne_12 : decode c_Model_isOne 12 = .ok (.iload_n 1, 1) := by decide +kernel
theorem d_Model_isOne_13 : decode c_Model_isOne 13 = .ok (.caload, 1) := by decide +kernel
theorem d_Model_isOne_14 : decode c_Model_isOne 14 = .ok (.invokevirtual 90, 3) := by decide +kernel
theorem d_Model_isOne_17 : decode c_Model_isOne 17 = .ok (.iload_n 3, 1) := by decide +kernel
theorem d_Model_isOne_18 : decode c_Model_isOne 18 = .ok (.if_icmp .ne (7), 3) := by decide +kernel
theorem d_Model_isOne_21 : decode c_Model_isOne 21 = .ok (.iconst 1, 1) := by decide +kernel
theorem d_Model_isOne_22 : decode c_Model_isOne 22 = .ok (.goto (4), 3) := by decide +kernel
theorem d_Model_isOne_25 : decode c_Model_isOne 25 = .ok (.iconst 0, 1) := by decide +kernel
theorem d_Model_isOne_26 : decode c_Model_isOne 26 = .ok (.ireturn, 1) := by decide +kernel
def sh_Model_isOne_26 (F : Nat) (y0 : Int32) (w : im_W) : Option (Int32 × im_W) :=
  im_rz y0 w
set_option maxHeartbeats 4000000 in
set_option maxRecDepth 100000 in
theorem bk_Model_isOne_26 {F : Nat} {r : Int32 × im_W} (X : im_X D vwCl tA lo im_NW c_Model_isOne 4 (some .boolean) RC_Model im_T p s m args meth c) (y0 : Int32) (w : im_W) (hsh : sh_Model_isOne_26 F y0 w = some r) : im_WW D vwCl tA lo 4 p l e (im_rm 1 21) s m args below meth c 0 0 (MQ below (im_Post D vwCl tA lo (some (.int r.1)) r.2) args s 0 0 (fun q => lo ≤ q)) 26 [] [.int y0] w := by
  obtain ⟨hx, hb, hr, hts, hown, hlk, hml, hK, hN⟩ := id X
  intro H locs ls hH hl
  unfold sh_Model_isOne_26 at hsh
  obtain ⟨rfl, hn⟩ := im_rz_s hsh
  exact im_zret hx hb hr hlk hn hH d_Model_isOne_26
def sh_Model_isOne_25 (F : Nat)  (w : im_W) : Option (Int32 × im_W) :=
  sh_Model_isOne_26 F (0 : Int32) w
set_option maxHeartbeats 4000000 in
set_option maxRecDepth 100000 in
theorem bk_Model_isOne_25 {F : Nat} {r : Int32 × im_W} (X : im_X D vwCl tA lo im_NW c_Model_isOne 4 (some .boolean) RC_Model im_T p s m args meth c)  (w : im_W) (hsh : sh_Model_isOne_25 F w = some r) : im_WW D vwCl tA lo 4 p l e (im_rm 1 21) s m args below meth c 0 0 (MQ below (im_Post D vwCl tA lo (some (.int r.1)) r.2) args s 0 0 (fun q => lo ≤ q)) 25 [] [] w := by
  obtain ⟨hx, hb, hr, hts, hown, hlk, hml, hK, hN⟩ := id X
  intro H locs ls hH hl
  unfold sh_Model_isOne_25 at hsh
  refine lv_iconst (v := 0) hx hb d_Model_isOne_25 (by decide) ?_
  exact bk_Model_isOne_26 X (0 : Int32) w hsh H locs ls hH (lv_sub hl [] rfl)
def sh_Model_isOne (F : Nat) (x0 : Nat) (x1 : Int32) (x2 : Int32) (x3 : Int32) (w : im_W) : Option (Int32 × im_W) :=
  (if (x2 - x1) = (1 : Int32) then (im_gR w 9 x0 1).bind fun f1 => (im_lI w 2 f1 x1).bind fun e3 => (im_is w 9 x0).bind fun u5 => im_b2 (sh_Model_small F x0 e3 w) fun v11 w9 => (if v11 = x3 then sh_Model_isOne_26 F (1 : Int32) w9 else sh_Model_isOne_25 F w9) else sh_Model_isOne_25 F w)
set_option maxHeartbeats 4000000 in
set_option maxRecDepth 100000 in
theorem met_Model_isOne {F : Nat} {x0 : Nat} {x1 : Int32} {x2 : Int32} {x3 : Int32} {w : im_W} {r : Int32 × im_W} (hsh : sh_Model_isOne F x0 x1 x2 x3 w = some r) : Met l y_Model_isOne (Cond.code y_Model_isOne c_Model_isOne 4 (some .boolean) :: im_T) (im_rm 1 21) (im_Pre D vwCl tA lo im_NW [.ref (lo + x0), .int x1, .int x2, .int x3] w) (im_Post D vwCl tA lo (some (.int r.1)) r.2) 0 0 (fun q => lo ≤ q) := by
  refine im_ofW (cc := c_Model_isOne) (nL := 4) (ret := (some .boolean)) (by decide) (Nat.le_of_ble_eq_true rfl) ?_
  intro p e s m args below meth c X H locs ls hH hl
  obtain ⟨hx, hb, hr, hts, hown, hlk, hml, hK, hN⟩ := id X
  have hl : lv_has ls 4 [(0, .ref (lo + x0)), (1, .int x1), (2, .int x2), (3, .int x3)] := hl
  unfold sh_Model_isOne at hsh
  refine lv_iload_n hx hb d_Model_isOne_0 rfl (lv_at hl 2 rfl) ?_
  refine lv_iload_n hx hb d_Model_isOne_1 rfl (lv_at hl 1 rfl) ?_
  refine lv_isub hx hb d_Model_isOne_2 ?_
  refine lv_iconst (v := 1) hx hb d_Model_isOne_3 (by decide) ?_
  refine lv_icmp_ne (tgt := 25) hx hb d_Model_isOne_4 (by decide) (fun cc => ?_) (fun cc => ?_)
  · have hsh := im_if hsh cc
    exact bk_Model_isOne_25 X w hsh H locs ls hH (lv_sub hl [] rfl)
  · have hsh := im_it hsh cc
    refine lv_aload_n hx hb d_Model_isOne_7 rfl (lv_at hl 0 rfl) ?_
    refine lv_aload_n hx hb d_Model_isOne_8 rfl (lv_at hl 0 rfl) ?_
    obtain ⟨f1, h2, hsh⟩ := im_bd hsh
    refine im_getR hx hb hts inC_Model hown hK hH (ci := 9) rfl 1 (by decide) (hts _ wd_632) rfl h2 d_Model_isOne_9 ?_
    refine lv_iload_n hx hb d_Model_isOne_12 rfl (lv_at hl 1 rfl) ?_
    obtain ⟨e3, h4, hsh⟩ := im_bd hsh
    refine im_cald hx hb hK hH h4 d_Model_isOne_13 ?_
    obtain ⟨u5, h6, hsh⟩ := im_bd hsh
    obtain ⟨g7, h8⟩ := im_is_s h6
    obtain ⟨v11, w9, h10, hsh⟩ := im_bd2 hsh
    refine im_afterI (va_runV (As := [.int e3]) (rest := []) (C := RC_Model) ⟨hx, hb, hml, hown, hts⟩ (met_Model_small h10) ⟨(callB_of 1 hts (im_good wd_775) rfl rfl rfl (hts _ wd_10) (hts _ wd_772) (by decide +kernel) ⟨Nat.le_of_ble_eq_true rfl, Nat.le_of_ble_eq_true rfl⟩), hts _ wd_774, hts _ sl_Model_small⟩ (im_preV im_NW_ok hK hN hH (ci := 9) rfl rfl h8 _) rfl rfl hl.1 rfl (lv_room (Nat.le_of_ble_eq_true rfl)) d_Model_isOne_14 ⟨Nat.le_of_ble_eq_true rfl, Nat.le_of_ble_eq_true rfl⟩) hH (fun H locs hH => ?_)
    refine lv_iload_n hx hb d_Model_isOne_17 rfl (lv_at hl 3 rfl) ?_
    refine lv_icmp_ne (tgt := 25) hx hb d_Model_isOne_18 (by decide) (fun cc => ?_) (fun cc => ?_)
    · have hsh := im_if hsh cc
      exact bk_Model_isOne_25 X w9 hsh H locs ls hH (lv_sub hl [] rfl)
    · have hsh := im_it hsh cc
      refine lv_iconst (v := 1) hx hb d_Model_isOne_21 (by decide) ?_
      refine lv_goto (tgt := 26) hx hb d_Model_isOne_22 (by decide) ?_
      exact bk_Model_isOne_26 X (1 : Int32) w9 hsh H locs ls hH (lv_sub hl [] rfl)
theorem d_Model_same_0 : decode c_Model_same 0 = .ok (.iload_n 2, 1) := by decide +kernel
theorem d_Model_same_1 : decode c_Model_same 1 = .ok (.iload_n 1, 1) := by decide +kernel
theorem d_Model_same_2 : decode c_Model_same 2 = .ok (.isub, 1) := by decide +kernel
theorem d_Model_same_3 : decode c_Model_same 3 = .ok (.iload 4, 2) := by decide +kernel
theorem d_Model_same_5 : decode c_Model_same 5 = .ok (.iload_n 3, 1) := by decide +kernel
theorem d_Model_same_6 : decode c_Model_same 6 = .ok (.isub, 1) := by decide +kernel
theorem d_Model_same_7 : decode c_Model_same 7 = .ok (.if_icmp .ne (7), 3) := by decide +kernel
theorem d_Model_same_10 : decode c_Model_same 10 = .ok (.iconst 1, 1) := by decide +kernel
theorem d_Model_same_11 : decode c_Model_same 11 = .ok (.goto (4), 3) := by decide +kernel
theorem d_Model_same_14 : decode c_Model_same 14 = .ok (.iconst 0, 1) := by decide +kernel
theorem d_Model_same_15 : decode c_Model_same 15 = .ok (.istore 5, 2) := by decide +kernel
theorem d_Model_same_17 : decode c_Model_same 17 = .ok (.iconst 0, 1) := by decide +kernel
theorem d_Model_same_18 : decode c_Model_same 18 = .ok (.istore 6, 2) := by decide +kernel
theorem d_Model_same_20 : decode c_Model_same 20 = .ok (.iload 6, 2) := by decide +kernel
theorem d_Model_same_22 : decode c_Model_same 22 = .ok (.iload_n 2, 1) := by decide +kernel
theorem d_Model_same_23 : decode c_Model_same 23 = .ok (.iload_n 1, 1) := by decide +kernel
theorem d_Model_same_24 : decode c_Model_same 24 = .ok (.isub, 1) := by decide +kernel
theorem d_Model_same_25 : decode c_Model_same 25 = .ok (.if_icmp .ge (50), 3) := by decide +kernel
theorem d_Model_same_28 : decode c_Model_same 28 = .ok (.iload 5, 2) := by decide +kernel
theorem d_Model_same_30 : decode c_Model_same 30 = .ok (.ifCond .eq (45), 3) := by decide +kernel
theorem d_Model_same_33 : decode c_Model_same 33 = .ok (.aload_n 0, 1) := by decide +kernel
theorem d_Model_same_34 : decode c_Model_same 34 = .ok (.aload_n 0, 1) := by decide +kernel
theorem d_Model_same_35 : decode c_Model_same 35 = .ok (.getfield 7, 3) := by decide +kernel
theorem d_Model_same_38 : decode c_Model_same 38 = .ok (.iload_n 1, 1) := by decide +kernel
theorem d_Model_same_39 : decode c_Model_same 39 = .ok (.iload 6, 2) := by decide +kernel
theorem d_Model_same_41 : decode c_Model_same 41 = .ok (.iadd, 1) := by decide +kernel
theorem d_Model_same_42 : decode c_Model_same 42 = .ok (.caload, 1) := by decide +kernel
theorem d_Model_same_43 : decode c_Model_same 43 = .ok (.invokevirtual 90, 3) := by decide +kernel
theorem d_Model_same_46 : decode c_Model_same 46 = .ok (.aload_n 0, 1) := by decide +kernel
theorem d_Model_same_47 : decode c_Model_same 47 = .ok (.aload_n 0, 1) := by decide +kernel
theorem d_Model_same_48 : decode c_Model_same 48 = .ok (.getfield 7, 3) := by decide +kernel
theorem d_Model_same_51 : decode c_Model_same 51 = .ok (.iload_n 3, 1) := by decide +kernel
theorem d_Model_same_52 : decode c_Model_same 52 = .ok (.iload 6, 2) := by decide +kernel
theorem d_Model_same_54 : decode c_Model_same 54 = .ok (.iadd, 1) := by decide +kernel
theorem d_Model_same_55 : decode c_Model_same 55 = .ok (.caload, 1) := by decide +kernel
theorem d_Model_same_56 : decode c_Model_same 56 = .ok (.invokevirtual 90, 3) := by decide +kernel
theorem d_Model_same_59 : decode c_Model_same 59 = .ok (.if_icmp .ne (7), 3) := by decide +kernel
theorem d_Model_same_62 : decode c_Model_same 62 = .ok (.iconst 1, 1) := by decide +kernel
theorem d_Model_same_63 : decode c_Model_same 63 = .ok (.goto (4), 3) := by decide +kernel
theorem d_Model_same_66 : decode c_Model_same 66 = .ok (.iconst 0, 1) := by decide +kernel
theorem d_Model_same_67 : decode c_Model_same 67 = .ok (.istore 5, 2) := by decide +kernel
theorem d_Model_same_69 : decode c_Model_same 69 = .ok (.iinc 6 (1), 3) := by decide +kernel
theorem d_Model_same_72 : decode c_Model_same 72 = .ok (.goto (-52), 3) := by decide +kernel
theorem d_Model_same_75 : decode c_Model_same 75 = .ok (.iload 5, 2) := by decide +kernel
theorem d_Model_same_77 : decode c_Model_same 77 = .ok (.ireturn, 1) := by decide +kernel
def sh_Model_same_67 (F : Nat) (k20 : Nat → Int32 → Int32 → Int32 → Int32 → Int32 → im_W → Option (Int32 × im_W)) (x0 : Nat) (x1 : Int32) (x2 : Int32) (x3 : Int32) (x6 : Int32) (y0 : Int32) (w : im_W) : Option (Int32 × im_W) :=
  k20 x0 x1 x2 x3 y0 (x6 + (1 : Int32)) w
set_option maxHeartbeats 4000000 in
set_option maxRecDepth 100000 in
theorem bk_Model_same_67 {F : Nat} {r : Int32 × im_W} (X : im_X D vwCl tA lo im_NW c_Model_same 7 (some .boolean) RC_Model im_T p s m args meth c) {k20 : Nat → Int32 → Int32 → Int32 → Int32 → Int32 → im_W → Option (Int32 × im_W)} (hk20 : ∀ (x0 : Nat) (x1 : Int32) (x2 : Int32) (x3 : Int32) (x5 : Int32) (x6 : Int32) (w : im_W), k20 x0 x1 x2 x3 x5 x6 w = some r → im_WW D vwCl tA lo 7 p l e (im_rm 1 21) s m args below meth c 0 0 (MQ below (im_Post D vwCl tA lo (some (.int r.1)) r.2) args s 0 0 (fun q => lo ≤ q)) 20 [(0, .ref (lo + x0)), (1, .int x1), (2, .int x2), (3, .int x3), (5, .int x5), (6, .int x6)] [] w) (x0 : Nat) (x1 : Int32) (x2 : Int32) (x3 : Int32) (x6 : Int32) (y0 : Int32) (w : im_W) (hsh : sh_Model_same_67 F k20 x0 x1 x2 x3 x6 y0 w = some r) : im_WW D vwCl tA lo 7 p l e (im_rm 1 21) s m args below meth c 0 0 (MQ below (im_Post D vwCl tA lo (some (.int r.1)) r.2) args s 0 0 (fun q => lo ≤ q)) 67 [(0, .ref (lo + x0)), (1, .int x1), (2, .int x2), (3, .int x3), (6, .int x6)] [.int y0] w := by
  obtain ⟨hx, hb, hr, hts, hown, hlk, hml, hK, hN⟩ := id X
  intro H locs ls hH hl
  unfold sh_Model_same_67 at hsh
  refine lv_istore (lv' := [(5, .int y0), (0, .ref (lo + x0)), (1, .int x1), (2, .int x2), (3, .int x3), (6, .int x6)]) hx hb d_Model_same_67 hl (by decide) rfl (fun ls hl => ?_)
  refine lv_iinc (v := (x6 + (1 : Int32))) (lv' := [(6, .int (x6 + (1 : Int32))), (5, .int y0), (0, .ref (lo + x0)), (1, .int x1), (2, .int x2), (3, .int x3)]) hx hb d_Model_same_69 hl (k := 5) rfl rfl (by decide) rfl (fun ls hl => ?_)
  refine lv_goto (tgt := 20) hx hb d_Model_same_72 (by decide) ?_
  exact hk20 x0 x1 x2 x3 y0 (x6 + (1 : Int32)) w hsh H locs ls hH (lv_sub hl [2, 3, 4, 5, 1, 0] rfl)
def sh_Model_same_75 (F : Nat) (x5 : Int32) (w : im_W) : Option (Int32 × im_W) :=
  im_rz x5 w
set_option maxHeartbeats 4000000 in
set_option maxRecDepth 100000 in
theorem bk_Model_same_75 {F : Nat} {r : Int32 × im_W} (X : im_X D vwCl tA lo im_NW c_Model_same 7 (some .boolean) RC_Model im_T p s m args meth c) (x5 : Int32) (w : im_W) (hsh : sh_Model_same_75 F x5 w = some r) : im_WW D vwCl tA lo 7 p l e (im_rm 1 21) s m args below meth c 0 0 (MQ below (im_Post D vwCl tA lo (some (.int r.1)) r.2) args s 0 0 (fun q => lo ≤ q)) 75 [(5, .int x5)] [] w := by
  obtain ⟨hx, hb, hr, hts, hown, hlk, hml, hK, hN⟩ := id X
  intro H locs ls hH hl
  unfold sh_Model_same_75 at hsh
  refine lv_iload hx hb d_Model_same_75 (lv_at hl 0 rfl) ?_
  obtain ⟨rfl, hn⟩ := im_rz_s hsh
  exact im_zret hx hb hr hlk hn hH d_Model_same_77
def sh_Model_same_20 (F : Nat) : Nat → Nat → Int32 → Int32 → Int32 → Int32 → Int32 → im_W → Option (Int32 × im_W)
  | 0, _, _, _, _, _, _, _ => none
  | f + 1, x0, x1, x2, x3, x5, x6, w => (if (x2 - x1) ≤ x6 then sh_Model_same_75 F x5 w else (if x5 = 0 then sh_Model_same_75 F x5 w else (im_gR w 9 x0 1).bind fun f1 => (im_lI w 2 f1 (x1 + x6)).bind fun e3 => (im_is w 9 x0).bind fun u5 => im_b2 (sh_Model_small F x0 e3 w) fun v11 w9 => (im_gR w9 9 x0 1).bind fun f12 => (im_lI w9 2 f12 (x3 + x6)).bind fun e14 => (im_is w9 9 x0).bind fun u16 => im_b2 (sh_Model_small F x0 e14 w9) fun v22 w20 => (if v11 = v22 then sh_Model_same_67 F (sh_Model_same_20 F f) x0 x1 x2 x3 x6 (1 : Int32) w20 else sh_Model_same_67 F (sh_Model_same_20 F f) x0 x1 x2 x3 x6 (0 : Int32) w20)))
set_option maxHeartbeats 4000000 in
set_option maxRecDepth 100000 in
theorem bk_Model_same_20 {F : Nat} {r : Int32 × im_W} (X : im_X D vwCl tA lo im_NW c_Model_same 7 (some .boolean) RC_Model im_T p s m args meth c) : ∀ (f : Nat) (x0 : Nat) (x1 : Int32) (x2 : Int32) (x3 : Int32) (x5 : Int32) (x6 : Int32) (w : im_W), sh_Model_same_20 F f x0 x1 x2 x3 x5 x6 w = some r → im_WW D vwCl tA lo 7 p l e (im_rm 1 21) s m args below meth c 0 0 (MQ below (im_Post D vwCl tA lo (some (.int r.1)) r.2) args s 0 0 (fun q => lo ≤ q)) 20 [(0, .ref (lo + x0)), (1, .int x1), (2, .int x2), (3, .int x3), (5, .int x5), (6, .int x6)] [] w := by
  obtain ⟨hx, hb, hr, hts, hown, hlk, hml, hK, hN⟩ := id X
  intro f
  induction f with
  | zero =>
    intro x0 x1 x2 x3 x5 x6 w hsh
    cases hsh
  | succ f ih =>
    intro x0 x1 x2 x3 x5 x6 w hsh H locs ls hH hl
    unfold sh_Model_same_20 at hsh
    refine lv_iload hx hb d_Model_same_20 (lv_at hl 5 rfl) ?_
    refine lv_iload_n hx hb d_Model_same_22 rfl (lv_at hl 2 rfl) ?_
    refine lv_iload_n hx hb d_Model_same_23 rfl (lv_at hl 1 rfl) ?_
    refine lv_isub hx hb d_Model_same_24 ?_
    refine lv_icmp_ge (tgt := 75) hx hb d_Model_same_25 (by decide) (fun cc => ?_) (fun cc => ?_)
    · have hsh := im_it hsh cc
      exact bk_Model_same_75 X x5 w hsh H locs ls hH (lv_sub hl [4] rfl)
    · have hsh := im_if hsh cc
      refine lv_iload hx hb d_Model_same_28 (lv_at hl 4 rfl) ?_
      refine lv_if_eq (tgt := 75) hx hb d_Model_same_30 (by decide) (fun cc => ?_) (fun cc => ?_)
      · have hsh := im_it hsh cc
        exact bk_Model_same_75 X x5 w hsh H locs ls hH (lv_sub hl [4] rfl)
      · have hsh := im_if hsh cc
        refine lv_aload_n hx hb d_Model_same_33 rfl (lv_at hl 0 rfl) ?_
        refine lv_aload_n hx hb d_Model_same_34 rfl (lv_at hl 0 rfl) ?_
        obtain ⟨f1, h2, hsh⟩ := im_bd hsh
        refine im_getR hx hb hts inC_Model hown hK hH (ci := 9) rfl 1 (by decide) (hts _ wd_632) rfl h2 d_Model_same_35 ?_
        refine lv_iload_n hx hb d_Model_same_38 rfl (lv_at hl 1 rfl) ?_
        refine lv_iload hx hb d_Model_same_39 (lv_at hl 5 rfl) ?_
        refine lv_iadd hx hb d_Model_same_41 ?_
        obtain ⟨e3, h4, hsh⟩ := im_bd hsh
        refine im_cald hx hb hK hH h4 d_Model_same_42 ?_
        obtain ⟨u5, h6, hsh⟩ := im_bd hsh
        obtain ⟨g7, h8⟩ := im_is_s h6
        obtain ⟨v11, w9, h10, hsh⟩ := im_bd2 hsh
        refine im_afterI (va_runV (As := [.int e3]) (rest := []) (C := RC_Model) ⟨hx, hb, hml, hown, hts⟩ (met_Model_small h10) ⟨(callB_of 1 hts (im_good wd_775) rfl rfl rfl (hts _ wd_10) (hts _ wd_772) (by decide +kernel) ⟨Nat.le_of_ble_eq_true rfl, Nat.le_of_ble_eq_true rfl⟩), hts _ wd_774, hts _ sl_Model_small⟩ (im_preV im_NW_ok hK hN hH (ci := 9) rfl rfl h8 _) rfl rfl hl.1 rfl (lv_room (Nat.le_of_ble_eq_true rfl)) d_Model_same_43 ⟨Nat.le_of_ble_eq_true rfl, Nat.le_of_ble_eq_true rfl⟩) hH (fun H locs hH => ?_)
        refine lv_aload_n hx hb d_Model_same_46 rfl (lv_at hl 0 rfl) ?_
        refine lv_aload_n hx hb d_Model_same_47 rfl (lv_at hl 0 rfl) ?_
        obtain ⟨f12, h13, hsh⟩ := im_bd hsh
        refine im_getR hx hb hts inC_Model hown hK hH (ci := 9) rfl 1 (by decide) (hts _ wd_632) rfl h13 d_Model_same_48 ?_
        refine lv_iload_n hx hb d_Model_same_51 rfl (lv_at hl 3 rfl) ?_
        refine lv_iload hx hb d_Model_same_52 (lv_at hl 5 rfl) ?_
        refine lv_iadd hx hb d_Model_same_54 ?_
        obtain ⟨e14, h15, hsh⟩ := im_bd hsh
        refine im_cald hx hb hK hH h15 d_Model_same_55 ?_
        obtain ⟨u16, h17, hsh⟩ := im_bd hsh
        obtain ⟨g18, h19⟩ := im_is_s h17
        obtain ⟨v22, w20, h21, hsh⟩ := im_bd2 hsh
        refine im_afterI (va_runV (As := [.int e14]) (rest := [.int v11]) (C := RC_Model) ⟨hx, hb, hml, hown, hts⟩ (met_Model_small h21) ⟨(callB_of 1 hts (im_good wd_775) rfl rfl rfl (hts _ wd_10) (hts _ wd_772) (by decide +kernel) ⟨Nat.le_of_ble_eq_true rfl, Nat.le_of_ble_eq_true rfl⟩), hts _ wd_774, hts _ sl_Model_small⟩ (im_preV im_NW_ok hK hN hH (ci := 9) rfl rfl h19 _) rfl rfl hl.1 rfl (lv_room (Nat.le_of_ble_eq_true rfl)) d_Model_same_56 ⟨Nat.le_of_ble_eq_true rfl, Nat.le_of_ble_eq_true rfl⟩) hH (fun H locs hH => ?_)
        refine lv_icmp_ne (tgt := 66) hx hb d_Model_same_59 (by decide) (fun cc => ?_) (fun cc => ?_)
        · have hsh := im_if hsh cc
          refine lv_iconst (v := 0) hx hb d_Model_same_66 (by decide) ?_
          exact bk_Model_same_67 X ih x0 x1 x2 x3 x6 (0 : Int32) w20 hsh H locs ls hH (lv_sub hl [0, 1, 2, 3, 5] rfl)
        · have hsh := im_it hsh cc
          refine lv_iconst (v := 1) hx hb d_Model_same_62 (by decide) ?_
          refine lv_goto (tgt := 67) hx hb d_Model_same_63 (by decide) ?_
          exact bk_Model_same_67 X ih x0 x1 x2 x3 x6 (1 : Int32) w20 hsh H locs ls hH (lv_sub hl [0, 1, 2, 3, 5] rfl)
def sh_Model_same_15 (F : Nat) (x0 : Nat) (x1 : Int32) (x2 : Int32) (x3 : Int32) (y0 : Int32) (w : im_W) : Option (Int32 × im_W) :=
  sh_Model_same_20 F F x0 x1 x2 x3 y0 (0 : Int32) w
set_option maxHeartbeats 4000000 in
set_option maxRecDepth 100000 in
theorem bk_Model_same_15 {F : Nat} {r : Int32 × im_W} (X : im_X D vwCl tA lo im_NW c_Model_same 7 (some .boolean) RC_Model im_T p s m args meth c) (x0 : Nat) (x1 : Int32) (x2 : Int32) (x3 : Int32) (y0 : Int32) (w : im_W) (hsh : sh_Model_same_15 F x0 x1 x2 x3 y0 w = some r) : im_WW D vwCl tA lo 7 p l e (im_rm 1 21) s m args below meth c 0 0 (MQ below (im_Post D vwCl tA lo (some (.int r.1)) r.2) args s 0 0 (fun q => lo ≤ q)) 15 [(0, .ref (lo + x0)), (1, .int x1), (2, .int x2), (3, .int x3)] [.int y0] w := by
  obtain ⟨hx, hb, hr, hts, hown, hlk, hml, hK, hN⟩ := id X
  intro H locs ls hH hl
  unfold sh_Model_same_15 at hsh
  refine lv_istore (lv' := [(5, .int y0), (0, .ref (lo + x0)), (1, .int x1), (2, .int x2), (3, .int x3)]) hx hb d_Model_same_15 hl (by decide) rfl (fun ls hl => ?_)
  refine lv_iconst (v := 0) hx hb d_Model_same_17 (by decide) ?_
  refine lv_istore (lv' := [(6, .int (0 : Int32)), (5, .int y0), (0, .ref (lo + x0)), (1, .int x1), (2, .int x2), (3, .int x3)]) hx hb d_Model_same_18 hl (by decide) rfl (fun ls hl => ?_)
  exact bk_Model_same_20 X F x0 x1 x2 x3 y0 (0 : Int32) w hsh H locs ls hH (lv_sub hl [2, 3, 4, 5, 1, 0] rfl)
def sh_Model_same (F : Nat) (x0 : Nat) (x1 : Int32) (x2 : Int32) (x3 : Int32) (x4 : Int32) (w : im_W) : Option (Int32 × im_W) :=
  (if (x2 - x1) = (x4 - x3) then sh_Model_same_15 F x0 x1 x2 x3 (1 : Int32) w else sh_Model_same_15 F x0 x1 x2 x3 (0 : Int32) w)
set_option maxHeartbeats 4000000 in
set_option maxRecDepth 100000 in
theorem met_Model_same {F : Nat} {x0 : Nat} {x1 : Int32} {x2 : Int32} {x3 : Int32} {x4 : Int32} {w : im_W} {r : Int32 × im_W} (hsh : sh_Model_same F x0 x1 x2 x3 x4 w = some r) : Met l y_Model_same (Cond.code y_Model_same c_Model_same 7 (some .boolean) :: im_T) (im_rm 1 21) (im_Pre D vwCl tA lo im_NW [.ref (lo + x0), .int x1, .int x2, .int x3, .int x4] w) (im_Post D vwCl tA lo (some (.int r.1)) r.2) 0 0 (fun q => lo ≤ q) := by
  refine im_ofW (cc := c_Model_same) (nL := 7) (ret := (some .boolean)) (by decide) (Nat.le_of_ble_eq_true rfl) ?_
  intro p e s m args below meth c X H locs ls hH hl
  obtain ⟨hx, hb, hr, hts, hown, hlk, hml, hK, hN⟩ := id X
  have hl : lv_has ls 7 [(0, .ref (lo + x0)), (1, .int x1), (2, .int x2), (3, .int x3), (4, .int x4)] := hl
  unfold sh_Model_same at hsh
  refine lv_iload_n hx hb d_Model_same_0 rfl (lv_at hl 2 rfl) ?_
  refine lv_iload_n hx hb d_Model_same_1 rfl (lv_at hl 1 rfl) ?_
  refine lv_isub hx hb d_Model_same_2 ?_
  refine lv_iload hx hb d_Model_same_3 (lv_at hl 4 rfl) ?_
  refine lv_iload_n hx hb d_Model_same_5 rfl (lv_at hl 3 rfl) ?_
  refine lv_isub hx hb d_Model_same_6 ?_
  refine lv_icmp_ne (tgt := 14) hx hb d_Model_same_7 (by decide) (fun cc => ?_) (fun cc => ?_)
  · have hsh := im_if hsh cc
    refine lv_iconst (v := 0) hx hb d_Model_same_14 (by decide) ?_
    exact bk_Model_same_15 X x0 x1 x2 x3 (0 : Int32) w hsh H locs ls hH (lv_sub hl [0, 1, 2, 3] rfl)
  · have hsh := im_it hsh cc
    refine lv_iconst (v := 1) hx hb d_Model_same_10 (by decide) ?_
    refine lv_goto (tgt := 15) hx hb d_Model_same_11 (by decide) ?_
    exact bk_Model_same_15 X x0 x1 x2 x3 (1 : Int32) w hsh H locs ls hH (lv_sub hl [0, 1, 2, 3] rfl)
theorem wd_636 : (Jvm.Cond.fieldLink "LanguageTagsModel" (154 : Nat) "LanguageTagsModel" "variants" "I") ∈ im_T := im_memT (i := 636) (by decide +kernel) (by decide +kernel)
theorem wd_637 : (Jvm.Cond.fieldLink "LanguageTagsModel" (13 : Nat) "LanguageTagsModel" "variantFrom" "[I") ∈ im_T := im_memT (i := 637) (by decide +kernel) (by decide +kernel)
theorem wd_638 : (Jvm.Cond.fieldLink "LanguageTagsModel" (17 : Nat) "LanguageTagsModel" "variantTo" "[I") ∈ im_T := im_memT (i := 638) (by decide +kernel) (by decide +kernel)
theorem wd_808 : (Jvm.Cond.methodLink "LanguageTagsModel" (157 : Nat) ({ cls := "LanguageTagsModel", name := "same", desc := "(IIII)Z" } : Jvm.MethodName)) ∈ im_T := im_memT (i := 808) (by decide +kernel) (by decide +kernel)
theorem wd_810 : (Jvm.Cond.instanceMethod ({ cls := "LanguageTagsModel", name := "same", desc := "(IIII)Z" } : Jvm.MethodName)) ∈ im_T := im_memT (i := 810) (by decide +kernel) (by decide +kernel)
theorem wd_811 : (Jvm.Cond.code ({ cls := "LanguageTagsModel", name := "same", desc := "(IIII)Z" } : Jvm.MethodName) prog_12_method_16_code (7 : Nat) (Option.some Jvm.ClassFile.FieldType.boolean)) ∈ im_T := im_memT (i := 811) (by decide +kernel) (by decide +kernel)
theorem wd_836 : (Jvm.Cond.methodLink "LanguageTagsModel" (137 : Nat) ({ cls := "LanguageTagsModel", name := "isOne", desc := "(IIC)Z" } : Jvm.MethodName)) ∈ im_T := im_memT (i := 836) (by decide +kernel) (by decide +kernel)
theorem wd_838 : (Jvm.Cond.instanceMethod ({ cls := "LanguageTagsModel", name := "isOne", desc := "(IIC)Z" } : Jvm.MethodName)) ∈ im_T := im_memT (i := 838) (by decide +kernel) (by decide +kernel)
theorem wd_839 : (Jvm.Cond.code ({ cls := "LanguageTagsModel", name := "isOne", desc := "(IIC)Z" } : Jvm.MethodName) prog_12_method_15_code (4 : Nat) (Option.some Jvm.ClassFile.FieldType.boolean)) ∈ im_T := im_memT (i := 839) (by decide +kernel) (by decide +kernel)
theorem wd_844 : (Jvm.Cond.methodLink "LanguageTagsModel" (151 : Nat) ({ cls := "LanguageTagsModel", name := "isVariant", desc := "(II)Z" } : Jvm.MethodName)) ∈ im_T := im_memT (i := 844) (by decide +kernel) (by decide +kernel)
theorem wd_846 : (Jvm.Cond.instanceMethod ({ cls := "LanguageTagsModel", name := "isVariant", desc := "(II)Z" } : Jvm.MethodName)) ∈ im_T := im_memT (i := 846) (by decide +kernel) (by decide +kernel)
theorem wd_847 : (Jvm.Cond.code ({ cls := "LanguageTagsModel", name := "isVariant", desc := "(II)Z" } : Jvm.MethodName) prog_12_method_13_code (4 : Nat) (Option.some Jvm.ClassFile.FieldType.boolean)) ∈ im_T := im_memT (i := 847) (by decide +kernel) (by decide +kernel)
theorem d_Model_standVariant_0 : decode c_Model_standVariant 0 = .ok (.aload_n 0, 1) := by decide +kernel
theorem d_Model_standVariant_1 : decode c_Model_standVariant 1 = .ok (.iload_n 1, 1) := by decide +kernel
theorem d_Model_standVariant_2 : decode c_Model_standVariant 2 = .ok (.iload_n 2, 1) := by decide +kernel
theorem d_Model_standVariant_3 : decode c_Model_standVariant 3 = .ok (.bipush (117), 2) := by decide +kernel
theorem d_Model_standVariant_5 : decode c_Model_standVariant 5 = .ok (.invokevirtual 137, 3) := by decide +kernel
theorem d_Model_standVariant_8 : decode c_Model_standVariant 8 = .ok (.ifCond .eq (5), 3) := by decide +kernel
theorem d_Model_standVariant_11 : decode c_Model_standVariant 11 = .ok (.iconst 4, 1) := by decide +kernel
theorem d_Model_standVariant_12 : decode c_Model_standVariant 12 = .ok (.ireturn, 1) := by decide +kernel
theorem d_Model_standVariant_13 : decode c_Model_standVariant 13 = .ok (.aload_n 0, 1) := by decide +kernel
theorem d_Model_standVariant_14 : decode c_Model_standVariant 14 = .ok (.iload_n 1, 1) := by decide +kernel
theorem d_Model_standVariant_15 : decode c_Model_standVariant 15 = .ok (.iload_n 2, 1) := by decide +kernel
theorem d_Model_standVariant_16 : decode c_Model_standVariant 16 = .ok (.invokevirtual 151, 3) := by decide +kernel
theorem d_Model_standVariant_19 : decode c_Model_standVariant 19 = .ok (.istore_n 3, 1) := by decide +kernel
theorem d_Model_standVariant_20 : decode c_Model_standVariant 20 = .ok (.iconst 0, 1) := by decide +kernel
theorem d_Model_standVariant_21 : decode c_Model_standVariant 21 = .ok (.istore 4, 2) := by decide +kernel
theorem d_Model_standVariant_23 : decode c_Model_standVariant 23 = .ok (.iload 4, 2) := by decide +kernel
theorem d_Model_standVariant_25 : decode c_Model_standVariant 25 = .ok (.aload_n 0, 1) := by decide +kernel
theorem d_Model_standVariant_26 : decode c_Model_standVariant 26 = .ok (.getfield 154, 3) := by decide +kernel
theorem d_Model_standVariant_29 : decode c_Model_standVariant 29 = .ok (.if_icmp .ge (42), 3) := by decide +kernel
theorem d_Model_standVariant_32 : decode c_Model_standVariant 32 = .ok (.iload_n 3, 1) := by decide +kernel
theorem d_Model_standVariant_33 : decode c_Model_standVariant 33 = .ok (.ifCond .eq (38), 3) := by decide +kernel
theorem d_Model_standVariant_36 : decode c_Model_standVariant 36 = .ok (.aload_n 0, 1) := by decide +kernel
theorem d_Model_standVariant_37 : decode c_Model_standVariant 37 = .ok (.iload_n 1, 1) := by decide +kernel
theorem d_Model_standVariant_38 : decode c_Model_standVariant 38 = .ok (.iload_n 2, 1) := by decide +kernel
theorem d_Model_standVariant_39 : decode c_Model_standVariant 39 = .ok (.aload_n 0, 1) := by decide +kernel
theorem d_Model_standVariant_40 : decode c_Model_standVariant 40 = .ok (.getfield 13, 3) := by decide +kernel
theorem d_Model_standVariant_43 : decode c_Model_standVariant 43 = .ok (.iload 4, 2) := by decide +kernel
theorem d_Model_standVariant_45 : decode c_Model_standVariant 45 = .ok (.iaload, 1) := by decide +kernel
theorem d_Model_standVariant_46 : decode c_Model_standVariant 46 = .ok (.aload_n 0, 1) := by decide +kernel
theorem d_Model_standVariant_47 : decode c_Model_standVariant 47 = .ok (.getfield 17, 3) := by decide +kernel
theorem d_Model_standVariant_50 : decode c_Model_standVariant 50 = .ok (.iload 4, 2) := by decide +kernel
theorem d_Model_standVariant_52 : decode c_Model_standVariant 52 = .ok (.iaload, 1) := by decide +kernel
theorem d_Model_standVariant_53 : decode c_Model_standVariant 53 = .ok (.invokevirtual 157, 3) := by decide +kernel
theorem d_Model_standVariant_56 : decode c_Model_standVariant 56 = .ok (.ifCond .ne (7), 3) := by decide +kernel
theorem d_Model_standVariant_59 : decode c_Model_standVariant 59 = .ok (.iconst 1, 1) := by decide +kernel
theorem d_Model_standVariant_60 : decode c_Model_standVariant 60 = .ok (.goto (4), 3) := by decide +kernel
theorem d_Model_standVariant_63 : decode c_Model_standVariant 63 = .ok (.iconst 0, 1) := by decide +kernel
theorem d_Model_standVariant_64 : decode c_Model_standVariant 64 = .ok (.istore_n 3, 1) := by decide +kernel
theorem d_Model_standVariant_65 : decode c_Model_standVariant 65 = .ok (.iinc 4 (1), 3) := by decide +kernel
theorem d_Model_standVariant_68 : decode c_Model_standVariant 68 = .ok (.goto (-45), 3) := by decide +kernel
theorem d_Model_standVariant_71 : decode c_Model_standVariant 71 = .ok (.iload_n 3, 1) := by decide +kernel
theorem d_Model_standVariant_72 : decode c_Model_standVariant 72 = .ok (.ifCond .ne (5), 3) := by decide +kernel
theorem d_Model_standVariant_75 : decode c_Model_standVariant 75 = .ok (.iconst (-1), 1) := by decide +kernel
theorem d_Model_standVariant_76 : decode c_Model_standVariant 76 = .ok (.ireturn, 1) := by decide +kernel
theorem d_Model_standVariant_77 : decode c_Model_standVariant 77 = .ok (.aload_n 0, 1) := by decide +kernel
theorem d_Model_standVariant_78 : decode c_Model_standVariant 78 = .ok (.getfield 13, 3) := by decide +kernel
theorem d_Model_standVariant_81 : decode c_Model_standVariant 81 = .ok (.aload_n 0, 1) := by decide +kernel
theorem d_Model_standVariant_82 : decode c_Model_standVariant 82 = .ok (.getfield 154, 3) := by decide +kernel
theorem d_Model_standVariant_85 : decode c_Model_standVariant 85 = .ok (.iload_n 1, 1) := by decide +kernel
theorem d_Model_standVariant_86 : decode c_Model_standVariant 86 = .ok (.iastore, 1) := by decide +kernel
theorem d_Model_standVariant_87 : decode c_Model_standVariant 87 = .ok (.aload_n 0, 1) := by decide +kernel
theorem d_Model_standVariant_88 : decode c_Model_standVariant 88 = .ok (.getfield 17, 3) := by decide +kernel
theorem d_Model_standVariant_91 : decode c_Model_standVariant 91 = .ok (.aload_n 0, 1) := by decide +kernel
theorem d_Model_standVariant_92 : decode c_Model_standVariant 92 = .ok (.getfield 154, 3) := by decide +kernel
theorem d_Model_standVariant_95 : decode c_Model_standVariant 95 = .ok (.iload_n 2, 1) := by decide +kernel
theorem d_Model_standVariant_96 : decode c_Model_standVariant 96 = .ok (.iastore, 1) := by decide +kernel
theorem d_Model_standVariant_97 : decode c_Model_standVariant 97 = .ok (.aload_n 0, 1) := by decide +kernel
theorem d_Model_standVariant_98 : decode c_Model_standVariant 98 = .ok (.dup, 1) := by decide +kernel
theorem d_Model_standVariant_99 : decode c_Model_standVariant 99 = .ok (.getfield 154, 3) := by decide +kernel
theorem d_Model_standVariant_102 : decode c_Model_standVariant 102 = .ok (.iconst 1, 1) := by decide +kernel
theorem d_Model_standVariant_103 : decode c_Model_standVariant 103 = .ok (.iadd, 1) := by decide +kernel
theorem d_Model_standVariant_104 : decode c_Model_standVariant 104 = .ok (.putfield 154, 3) := by decide +kernel
theorem d_Model_standVariant_107 : decode c_Model_standVariant 107 = .ok (.iconst 3, 1) := by decide +kernel
theorem d_Model_standVariant_108 : decode c_Model_standVariant 108 = .ok (.ireturn, 1) := by decide +kernel
def sh_Model_standVariant_64 (F : Nat) (k23 : Nat → Int32 → Int32 → Int32 → Int32 → im_W → Option (Int32 × im_W)) (x0 : Nat) (x1 : Int32) (x2 : Int32) (x4 : Int32) (y0 : Int32) (w : im_W) : Option (Int32 × im_W) :=
  k23 x0 x1 x2 y0 (x4 + (1 : Int32)) w
set_option maxHeartbeats 4000000 in
set_option maxRecDepth 100000 in
theorem bk_Model_standVariant_64 {F : Nat} {r : Int32 × im_W} (X : im_X D vwCl tA lo im_NW c_Model_standVariant 5 (some .int) RC_Model im_T p s m args meth c) {k23 : Nat → Int32 → Int32 → Int32 → Int32 → im_W → Option (Int32 × im_W)} (hk23 : ∀ (x0 : Nat) (x1 : Int32) (x2 : Int32) (x3 : Int32) (x4 : Int32) (w : im_W), k23 x0 x1 x2 x3 x4 w = some r → im_WW D vwCl tA lo 5 p l e (im_rm 4 89) s m args below meth c 0 0 (MQ below (im_Post D vwCl tA lo (some (.int r.1)) r.2) args s 0 0 (fun q => lo ≤ q)) 23 [(0, .ref (lo + x0)), (1, .int x1), (2, .int x2), (3, .int x3), (4, .int x4)] [] w) (x0 : Nat) (x1 : Int32) (x2 : Int32) (x4 : Int32) (y0 : Int32) (w : im_W) (hsh : sh_Model_standVariant_64 F k23 x0 x1 x2 x4 y0 w = some r) : im_WW D vwCl tA lo 5 p l e (im_rm 4 89) s m args below meth c 0 0 (MQ below (im_Post D vwCl tA lo (some (.int r.1)) r.2) args s 0 0 (fun q => lo ≤ q)) 64 [(0, .ref (lo + x0)), (1, .int x1), (2, .int x2), (4, .int x4)] [.int y0] w := by
  obtain ⟨hx, hb, hr, hts, hown, hlk, hml, hK, hN⟩ := id X
  intro H locs ls hH hl
  unfold sh_Model_standVariant_64 at hsh
  refine lv_istore_n (lv' := [(3, .int y0), (0, .ref (lo + x0)), (1, .int x1), (2, .int x2), (4, .int x4)]) hx hb d_Model_standVariant_64 rfl hl (by decide) rfl (fun ls hl => ?_)
  refine lv_iinc (v := (x4 + (1 : Int32))) (lv' := [(4, .int (x4 + (1 : Int32))), (3, .int y0), (0, .ref (lo + x0)), (1, .int x1), (2, .int x2)]) hx hb d_Model_standVariant_65 hl (k := 4) rfl rfl (by decide) rfl (fun ls hl => ?_)
  refine lv_goto (tgt := 23) hx hb d_Model_standVariant_68 (by decide) ?_
  exact hk23 x0 x1 x2 y0 (x4 + (1 : Int32)) w hsh H locs ls hH (lv_sub hl [2, 3, 4, 1, 0] rfl)
def sh_Model_standVariant_71 (F : Nat) (x0 : Nat) (x1 : Int32) (x2 : Int32) (x3 : Int32) (w : im_W) : Option (Int32 × im_W) :=
  (if x3 = 0 then some ((-1 : Int32), w) else (im_gR w 9 x0 6).bind fun f1 => (im_gI w 9 x0 5).bind fun f3 => (im_sI w 0 f1 f3 x1).bind fun w5 => (im_gR w5 9 x0 7).bind fun f7 => (im_gI w5 9 x0 5).bind fun f9 => (im_sI w5 0 f7 f9 x2).bind fun w11 => (im_gI w11 9 x0 5).bind fun f13 => (im_pV w11 9 x0 5 (.int (f13 + (1 : Int32)))).bind fun w15 => some ((3 : Int32), w15))
set_option maxHeartbeats 4000000 in
set_option maxRecDepth 100000 in
theorem bk_Model_standVariant_71 {F : Nat} {r : Int32 × im_W} (X : im_X D vwCl tA lo im_NW c_Model_standVariant 5 (some .int) RC_Model im_T p s m args meth c) (x0 : Nat) (x1 : Int32) (x2 : Int32) (x3 : Int32) (w : im_W) (hsh : sh_Model_standVariant_71 F x0 x1 x2 x3 w = some r) : im_WW D vwCl tA lo 5 p l e (im_rm 4 89) s m args below meth c 0 0 (MQ below (im_Post D vwCl tA lo (some (.int r.1)) r.2) args s 0 0 (fun q => lo ≤ q)) 71 [(0, .ref (lo + x0)), (1, .int x1), (2, .int x2), (3, .int x3)] [] w := by
  obtain ⟨hx, hb, hr, hts, hown, hlk, hml, hK, hN⟩ := id X
  intro H locs ls hH hl
  unfold sh_Model_standVariant_71 at hsh
  refine lv_iload_n hx hb d_Model_standVariant_71 rfl (lv_at hl 3 rfl) ?_
  refine lv_if_ne (tgt := 77) hx hb d_Model_standVariant_72 (by decide) (fun cc => ?_) (fun cc => ?_)
  · have hsh := im_if hsh cc
    refine lv_aload_n hx hb d_Model_standVariant_77 rfl (lv_at hl 0 rfl) ?_
    obtain ⟨f1, h2, hsh⟩ := im_bd hsh
    refine im_getR hx hb hts inC_Model hown hK hH (ci := 9) rfl 6 (by decide) (hts _ wd_637) rfl h2 d_Model_standVariant_78 ?_
    refine lv_aload_n hx hb d_Model_standVariant_81 rfl (lv_at hl 0 rfl) ?_
    obtain ⟨f3, h4, hsh⟩ := im_bd hsh
    refine im_getI hx hb hts inC_Model hown hK hH (ci := 9) rfl 5 (by decide) (hts _ wd_636) rfl h4 d_Model_standVariant_82 ?_
    refine lv_iload_n hx hb d_Model_standVariant_85 rfl (lv_at hl 1 rfl) ?_
    obtain ⟨w5, h6, hsh⟩ := im_bd hsh
    refine im_iast hx hb hK hH h6 d_Model_standVariant_86 (fun H locs hH => ?_)
    refine lv_aload_n hx hb d_Model_standVariant_87 rfl (lv_at hl 0 rfl) ?_
    obtain ⟨f7, h8, hsh⟩ := im_bd hsh
    refine im_getR hx hb hts inC_Model hown hK hH (ci := 9) rfl 7 (by decide) (hts _ wd_638) rfl h8 d_Model_standVariant_88 ?_
    refine lv_aload_n hx hb d_Model_standVariant_91 rfl (lv_at hl 0 rfl) ?_
    obtain ⟨f9, h10, hsh⟩ := im_bd hsh
    refine im_getI hx hb hts inC_Model hown hK hH (ci := 9) rfl 5 (by decide) (hts _ wd_636) rfl h10 d_Model_standVariant_92 ?_
    refine lv_iload_n hx hb d_Model_standVariant_95 rfl (lv_at hl 2 rfl) ?_
    obtain ⟨w11, h12, hsh⟩ := im_bd hsh
    refine im_iast hx hb hK hH h12 d_Model_standVariant_96 (fun H locs hH => ?_)
    refine lv_aload_n hx hb d_Model_standVariant_97 rfl (lv_at hl 0 rfl) ?_
    refine lv_dup hx hb d_Model_standVariant_98 rfl ?_
    obtain ⟨f13, h14, hsh⟩ := im_bd hsh
    refine im_getI hx hb hts inC_Model hown hK hH (ci := 9) rfl 5 (by decide) (hts _ wd_636) rfl h14 d_Model_standVariant_99 ?_
    refine lv_iconst (v := 1) hx hb d_Model_standVariant_102 (by decide) ?_
    refine lv_iadd hx hb d_Model_standVariant_103 ?_
    obtain ⟨w15, h16, hsh⟩ := im_bd hsh
    refine im_put (v := .int (f13 + (1 : Int32))) hx hb hts inC_Model tyC_Model tyC_Model_ok nmC_Model hown hK hH (ci := 9) rfl 5 (by decide) (hts _ wd_636) rfl rfl rfl rfl h16 d_Model_standVariant_104 (fun H locs hH => ?_)
    refine lv_iconst (v := 3) hx hb d_Model_standVariant_107 (by decide) ?_
    obtain rfl := Option.some.inj hsh
    exact im_iret hx hb hr hlk hH d_Model_standVariant_108
  · have hsh := im_it hsh cc
    refine lv_iconst (v := -1) hx hb d_Model_standVariant_75 (by decide) ?_
    obtain rfl := Option.some.inj hsh
    exact im_iret hx hb hr hlk hH d_Model_standVariant_76
def sh_Model_standVariant_23 (F : Nat) : Nat → Nat → Int32 → Int32 → Int32 → Int32 → im_W → Option (Int32 × im_W)
  | 0, _, _, _, _, _, _ => none
  | f + 1, x0, x1, x2, x3, x4, w => (im_gI w 9 x0 5).bind fun f1 => (if f1 ≤ x4 then sh_Model_standVariant_71 F x0 x1 x2 x3 w else (if x3 = 0 then sh_Model_standVariant_71 F x0 x1 x2 x3 w else (im_gR w 9 x0 6).bind fun f3 => (im_lI w 0 f3 x4).bind fun e5 => (im_gR w 9 x0 7).bind fun f7 => (im_lI w 0 f7 x4).bind fun e9 => (im_is w 9 x0).bind fun u11 => im_b2 (sh_Model_same F x0 x1 x2 e5 e9 w) fun v17 w15 => (if v17 = 0 then sh_Model_standVariant_64 F (sh_Model_standVariant_23 F f) x0 x1 x2 x4 (1 : Int32) w15 else sh_Model_standVariant_64 F (sh_Model_standVariant_23 F f) x0 x1 x2 x4 (0 : Int32) w15)))
set_option maxHeartbeats 4000000 in
set_option maxRecDepth 100000 in
theorem bk_Model_standVariant_23 {F : Nat} {r : Int32 × im_W} (X : im_X D vwCl tA lo im_NW c_Model_standVariant 5 (some .int) RC_Model im_T p s m args meth c) : ∀ (f : Nat) (x0 : Nat) (x1 : Int32) (x2 : Int32) (x3 : Int32) (x4 : Int32) (w : im_W), sh_Model_standVariant_23 F f x0 x1 x2 x3 x4 w = some r → im_WW D vwCl tA lo 5 p l e (im_rm 4 89) s m args below meth c 0 0 (MQ below (im_Post D vwCl tA lo (some (.int r.1)) r.2) args s 0 0 (fun q => lo ≤ q)) 23 [(0, .ref (lo + x0)), (1, .int x1), (2, .int x2), (3, .int x3), (4, .int x4)] [] w := by
  obtain ⟨hx, hb, hr, hts, hown, hlk, hml, hK, hN⟩ := id X
  intro f
  induction f with
  | zero =>
    intro x0 x1 x2 x3 x4 w hsh
    cases hsh
  | succ f ih =>
    intro x0 x1 x2 x3 x4 w hsh H locs ls hH hl
    unfold sh_Model_standVariant_23 at hsh
    refine lv_iload hx hb d_Model_standVariant_23 (lv_at hl 4 rfl) ?_
    refine lv_aload_n hx hb d_Model_standVariant_25 rfl (lv_at hl 0 rfl) ?_
    obtain ⟨f1, h2, hsh⟩ := im_bd hsh
    refine im_getI hx hb hts inC_Model hown hK hH (ci := 9) rfl 5 (by decide) (hts _ wd_636) rfl h2 d_Model_standVariant_26 ?_
    refine lv_icmp_ge (tgt := 71) hx hb d_Model_standVariant_29 (by decide) (fun cc => ?_) (fun cc => ?_)
    · have hsh := im_it hsh cc
      exact bk_Model_standVariant_71 X x0 x1 x2 x3 w hsh H locs ls hH (lv_sub hl [0, 1, 2, 3] rfl)
    · have hsh := im_if hsh cc
      refine lv_iload_n hx hb d_Model_standVariant_32 rfl (lv_at hl 3 rfl) ?_
      refine lv_if_eq (tgt := 71) hx hb d_Model_standVariant_33 (by decide) (fun cc => ?_) (fun cc => ?_)
      · have hsh := im_it hsh cc
        exact bk_Model_standVariant_71 X x0 x1 x2 x3 w hsh H locs ls hH (lv_sub hl [0, 1, 2, 3] rfl)
      · have hsh := im_if hsh cc
        refine lv_aload_n hx hb d_Model_standVariant_36 rfl (lv_at hl 0 rfl) ?_
        refine lv_iload_n hx hb d_Model_standVariant_37 rfl (lv_at hl 1 rfl) ?_
        refine lv_iload_n hx hb d_Model_standVariant_38 rfl (lv_at hl 2 rfl) ?_
        refine lv_aload_n hx hb d_Model_standVariant_39 rfl (lv_at hl 0 rfl) ?_
        obtain ⟨f3, h4, hsh⟩ := im_bd hsh
        refine im_getR hx hb hts inC_Model hown hK hH (ci := 9) rfl 6 (by decide) (hts _ wd_637) rfl h4 d_Model_standVariant_40 ?_
        refine lv_iload hx hb d_Model_standVariant_43 (lv_at hl 4 rfl) ?_
        obtain ⟨e5, h6, hsh⟩ := im_bd hsh
        refine im_iald hx hb hK hH h6 d_Model_standVariant_45 ?_
        refine lv_aload_n hx hb d_Model_standVariant_46 rfl (lv_at hl 0 rfl) ?_
        obtain ⟨f7, h8, hsh⟩ := im_bd hsh
        refine im_getR hx hb hts inC_Model hown hK hH (ci := 9) rfl 7 (by decide) (hts _ wd_638) rfl h8 d_Model_standVariant_47 ?_
        refine lv_iload hx hb d_Model_standVariant_50 (lv_at hl 4 rfl) ?_
        obtain ⟨e9, h10, hsh⟩ := im_bd hsh
        refine im_iald hx hb hK hH h10 d_Model_standVariant_52 ?_
        obtain ⟨u11, h12, hsh⟩ := im_bd hsh
        obtain ⟨g13, h14⟩ := im_is_s h12
        obtain ⟨v17, w15, h16, hsh⟩ := im_bd2 hsh
        refine im_afterI (va_runV (As := [.int x1, .int x2, .int e5, .int e9]) (rest := []) (C := RC_Model) ⟨hx, hb, hml, hown, hts⟩ (met_Model_same h16) ⟨(callB_of 4 hts (im_good wd_811) rfl rfl rfl (hts _ wd_10) (hts _ wd_808) (by decide +kernel) ⟨Nat.le_of_ble_eq_true rfl, Nat.le_of_ble_eq_true rfl⟩), hts _ wd_810, hts _ sl_Model_same⟩ (im_preV im_NW_ok hK hN hH (ci := 9) rfl rfl h14 _) rfl rfl hl.1 rfl (lv_room (Nat.le_of_ble_eq_true rfl)) d_Model_standVariant_53 ⟨Nat.le_of_ble_eq_true rfl, Nat.le_of_ble_eq_true rfl⟩) hH (fun H locs hH => ?_)
        refine lv_if_ne (tgt := 63) hx hb d_Model_standVariant_56 (by decide) (fun cc => ?_) (fun cc => ?_)
        · have hsh := im_if hsh cc
          refine lv_iconst (v := 0) hx hb d_Model_standVariant_63 (by decide) ?_
          exact bk_Model_standVariant_64 X ih x0 x1 x2 x4 (0 : Int32) w15 hsh H locs ls hH (lv_sub hl [0, 1, 2, 4] rfl)
        · have hsh := im_it hsh cc
          refine lv_iconst (v := 1) hx hb d_Model_standVariant_59 (by decide) ?_
          refine lv_goto (tgt := 64) hx hb d_Model_standVariant_60 (by decide) ?_
          exact bk_Model_standVariant_64 X ih x0 x1 x2 x4 (1 : Int32) w15 hsh H locs ls hH (lv_sub hl [0, 1, 2, 4] rfl)
def sh_Model_standVariant (F : Nat) (x0 : Nat) (x1 : Int32) (x2 : Int32) (w : im_W) : Option (Int32 × im_W) :=
  (im_is w 9 x0).bind fun u1 => im_b2 (sh_Model_isOne F x0 x1 x2 (117 : Int32) w) fun v7 w5 => (if v7 = 0 then (im_is w5 9 x0).bind fun u8 => im_b2 (sh_Model_isVariant F x0 x1 x2 w5) fun v14 w12 => sh_Model_standVariant_23 F F x0 x1 x2 v14 (0 : Int32) w12 else some ((4 : Int32), w5))
set_option maxHeartbeats 4000000 in
set_option maxRecDepth 100000 in
theorem met_Model_standVariant {F : Nat} {x0 : Nat} {x1 : Int32} {x2 : Int32} {w : im_W} {r : Int32 × im_W} (hsh : sh_Model_standVariant F x0 x1 x2 w = some r) : Met l y_Model_standVariant (Cond.code y_Model_standVariant c_Model_standVariant 5 (some .int) :: im_T) (im_rm 4 89) (im_Pre D vwCl tA lo im_NW [.ref (lo + x0), .int x1, .int x2] w) (im_Post D vwCl tA lo (some (.int r.1)) r.2) 0 0 (fun q => lo ≤ q) := by
  refine im_ofW (cc := c_Model_standVariant) (nL := 5) (ret := (some .int)) (by decide) (Nat.le_of_ble_eq_true rfl) ?_
  intro p e s m args below meth c X H locs ls hH hl
  obtain ⟨hx, hb, hr, hts, hown, hlk, hml, hK, hN⟩ := id X
  have hl : lv_has ls 5 [(0, .ref (lo + x0)), (1, .int x1), (2, .int x2)] := hl
  unfold sh_Model_standVariant at hsh
  refine lv_aload_n hx hb d_Model_standVariant_0 rfl (lv_at hl 0 rfl) ?_
  refine lv_iload_n hx hb d_Model_standVariant_1 rfl (lv_at hl 1 rfl) ?_
  refine lv_iload_n hx hb d_Model_standVariant_2 rfl (lv_at hl 2 rfl) ?_
  refine lv_bipush (v := 117) hx hb d_Model_standVariant_3 (by decide) ?_
  obtain ⟨u1, h2, hsh⟩ := im_bd hsh
  obtain ⟨g3, h4⟩ := im_is_s h2
  obtain ⟨v7, w5, h6, hsh⟩ := im_bd2 hsh
  refine im_afterI (va_runV (As := [.int x1, .int x2, .int (117 : Int32)]) (rest := []) (C := RC_Model) ⟨hx, hb, hml, hown, hts⟩ (met_Model_isOne h6) ⟨(callB_of 3 hts (im_good wd_839) rfl rfl rfl (hts _ wd_10) (hts _ wd_836) (by decide +kernel) ⟨Nat.le_of_ble_eq_true rfl, Nat.le_of_ble_eq_true rfl⟩), hts _ wd_838, hts _ sl_Model_isOne⟩ (im_preV im_NW_ok hK hN hH (ci := 9) rfl rfl h4 _) rfl rfl hl.1 rfl (lv_room (Nat.le_of_ble_eq_true rfl)) d_Model_standVariant_5 ⟨Nat.le_of_ble_eq_true rfl, Nat.le_of_ble_eq_true rfl⟩) hH (fun H locs hH => ?_)
  refine lv_if_eq (tgt := 13) hx hb d_Model_standVariant_8 (by decide) (fun cc => ?_) (fun cc => ?_)
  · have hsh := im_it hsh cc
    refine lv_aload_n hx hb d_Model_standVariant_13 rfl (lv_at hl 0 rfl) ?_
    refine lv_iload_n hx hb d_Model_standVariant_14 rfl (lv_at hl 1 rfl) ?_
    refine lv_iload_n hx hb d_Model_standVariant_15 rfl (lv_at hl 2 rfl) ?_
    obtain ⟨u8, h9, hsh⟩ := im_bd hsh
    obtain ⟨g10, h11⟩ := im_is_s h9
    obtain ⟨v14, w12, h13, hsh⟩ := im_bd2 hsh
    refine im_afterI (va_runV (As := [.int x1, .int x2]) (rest := []) (C := RC_Model) ⟨hx, hb, hml, hown, hts⟩ (met_Model_isVariant h13) ⟨(callB_of 2 hts (im_good wd_847) rfl rfl rfl (hts _ wd_10) (hts _ wd_844) (by decide +kernel) ⟨Nat.le_of_ble_eq_true rfl, Nat.le_of_ble_eq_true rfl⟩), hts _ wd_846, hts _ sl_Model_isVariant⟩ (im_preV im_NW_ok hK hN hH (ci := 9) rfl rfl h11 _) rfl rfl hl.1 rfl (lv_room (Nat.le_of_ble_eq_true rfl)) d_Model_standVariant_16 ⟨Nat.le_of_ble_eq_true rfl, Nat.le_of_ble_eq_true rfl⟩) hH (fun H locs hH => ?_)
    refine lv_istore_n (lv' := [(3, .int v14), (0, .ref (lo + x0)), (1, .int x1), (2, .int x2)]) hx hb d_Model_standVariant_19 rfl hl (by decide) rfl (fun ls hl => ?_)
    refine lv_iconst (v := 0) hx hb d_Model_standVariant_20 (by decide) ?_
    refine lv_istore (lv' := [(4, .int (0 : Int32)), (3, .int v14), (0, .ref (lo + x0)), (1, .int x1), (2, .int x2)]) hx hb d_Model_standVariant_21 hl (by decide) rfl (fun ls hl => ?_)
    exact bk_Model_standVariant_23 X F x0 x1 x2 v14 (0 : Int32) w12 hsh H locs ls hH (lv_sub hl [2, 3, 4, 1, 0] rfl)
  · have hsh := im_if hsh cc
    refine lv_iconst (v := 4) hx hb d_Model_standVariant_11 (by decide) ?_
    obtain rfl := Option.some.inj hsh
    exact im_iret hx hb hr hlk hH d_Model_standVariant_12
end GEN
