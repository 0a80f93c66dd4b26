section GEN
variable {l : Launch} {D : va_G} {tA : Nat → ClassId} {lo : Nat} {p : Program} {e : Env} {s : State} {m : MethodId} {args : Array Value} {below : List Frame} {meth : Method} {c : Code}
theorem wd_175 : (Jvm.Cond.fieldLink "LanguageTags" (14 : Nat) "LanguageTags" "typed" "LLanguageTags$Text;") ∈ im_T := im_memT (i := 175) (by decide +kernel) (by decide +kernel)
theorem wd_228 : (Jvm.Cond.methodLink "LanguageTags" (95 : Nat) ({ cls := "LanguageTags$Subtag", name := "isLetter", desc := "(C)Z" } : Jvm.MethodName)) ∈ im_T := im_memT (i := 228) (by decide +kernel) (by decide +kernel)
theorem wd_231 : (Jvm.Cond.methodLink "LanguageTags" (101 : Nat) ({ cls := "LanguageTags$Subtag", name := "isDigit", desc := "(C)Z" } : Jvm.MethodName)) ∈ im_T := im_memT (i := 231) (by decide +kernel) (by decide +kernel)
theorem wd_234 : (Jvm.Cond.methodLink "LanguageTags" (104 : Nat) ({ cls := "LanguageTags$Subtag", name := "isCut", desc := "(C)Z" } : Jvm.MethodName)) ∈ im_T := im_memT (i := 234) (by decide +kernel) (by decide +kernel)
theorem wd_237 : (Jvm.Cond.methodLink "LanguageTags" (107 : Nat) ({ cls := "LanguageTags$Text", name := "isFull", desc := "()Z" } : Jvm.MethodName)) ∈ im_T := im_memT (i := 237) (by decide +kernel) (by decide +kernel)
theorem wd_241 : (Jvm.Cond.methodLink "LanguageTags" (111 : Nat) ({ cls := "LanguageTags$Text", name := "append", desc := "(C)V" } : Jvm.MethodName)) ∈ im_T := im_memT (i := 241) (by decide +kernel) (by decide +kernel)
theorem d_LT_type_0 : decode c_LT_type 0 = .ok (.iload_n 1, 1) := by decide +kernel
theorem d_LT_type_1 : decode c_LT_type 1 = .ok (.invokestatic 95, 3) := by decide +kernel
theorem d_LT_type_4 : decode c_LT_type 4 = .ok (.ifCond .ne (23), 3) := by decide +kernel
theorem d_LT_type_7 : decode c_LT_type 7 = .ok (.iload_n 1, 1) := by decide +kernel
theorem d_LT_type_8 : decode c_LT_type 8 = .ok (.invokestatic 101, 3) := by decide +kernel
theorem d_LT_type_11 : decode c_LT_type 11 = .ok (.ifCond .ne (16), 3) := by decide +kernel
theorem d_LT_type_14 : decode c_LT_type 14 = .ok (.iload_n 1, 1) := by decide +kernel
theorem d_LT_type_15 : decode c_LT_type 15 = .ok (.invokestatic 104, 3) := by decide +kernel
theorem d_LT_type_18 : decode c_LT_type 18 = .ok (.ifCond .ne (9), 3) := by decide +kernel
theorem d_LT_type_21 : decode c_LT_type 21 = .ok (.iload_n 1, 1) := by decide +kernel
theorem d_LT_type_22 : decode c_LT_type 22 = .ok (.bipush (61), 2) := by decide +kernel
theorem d_LT_type_24 : decode c_LT_type 24 = .ok (.if_icmp .ne (7), 3) := by decide +kernel
theorem d_LT_type_27 : decode c_LT_type 27 = .ok (.iconst 1, 1) := by decide +kernel
theorem d_LT_type_28 : decode c_LT_type 28 = .ok (.goto (4), 3) := by decide +kernel
theorem d_LT_type_31 : decode c_LT_type 31 = .ok (.iconst 0, 1) := by decide +kernel
theorem d_LT_type_32 : decode c_LT_type 32 = .ok (.istore_n 2, 1) := by decide +kernel
theorem d_LT_type_33 : decode c_LT_type 33 = .ok (.iload_n 2, 1) := by decide +kernel
theorem d_LT_type_34 : decode c_LT_type 34 = .ok (.ifCond .eq (13), 3) := by decide +kernel
theorem d_LT_type_37 : decode c_LT_type 37 = .ok (.aload_n 0, 1) := by decide +kernel
theorem d_LT_type_38 : decode c_LT_type 38 = .ok (.getfield 14, 3) := by decide +kernel
theorem d_LT_type_41 : decode c_LT_type 41 = .ok (.invokevirtual 107, 3) := by decide +kernel
theorem d_LT_type_44 : decode c_LT_type 44 = .ok (.ifCond .eq (5), 3) := by decide +kernel
theorem d_LT_type_47 : decode c_LT_type 47 = .ok (.iconst 0, 1) := by decide +kernel
theorem d_LT_type_48 : decode c_LT_type 48 = .ok (.ireturn, 1) := by decide +kernel
theorem d_LT_type_49 : decode c_LT_type 49 = .ok (.aload_n 0, 1) := by decide +kernel
theorem d_LT_type_50 : decode c_LT_type 50 = .ok (.getfield 14, 3) := by decide +kernel
theorem d_LT_type_53 : decode c_LT_type 53 = .ok (.iload_n 1, 1) := by decide +kernel
theorem d_LT_type_54 : decode c_LT_type 54 = .ok (.invokevirtual 111, 3) := by decide +kernel
theorem d_LT_type_57 : decode c_LT_type 57 = .ok (.iconst 1, 1) := by decide +kernel
theorem d_LT_type_58 : decode c_LT_type 58 = .ok (.ireturn, 1) := by decide +kernel
def sh_LT_type_47 (F : Nat)  (w : im_W) : Option (Int32 × im_W) :=
  im_rz (0 : Int32) w
set_option maxHeartbeats 4000000 in
set_option maxRecDepth 100000 in
theorem bk_LT_type_47 {F : Nat} {r : Int32 × im_W} (X : im_X D vwCl tA lo im_NW c_LT_type 3 (some .boolean) RC_LT im_T p s m args meth c)  (w : im_W) (hsh : sh_LT_type_47 F w = some r) : im_WW D vwCl tA lo 3 p l e (im_rm 2 41) s m args below meth c 0 0 (MQ below (im_Post D vwCl tA lo (some (.int r.1)) r.2) args s 0 0 (fun q => lo ≤ q)) 47 [] [] w := by
  obtain ⟨hx, hb, hr, hts, hown, hlk, hml, hK, hN⟩ := id X
  intro H locs ls hH hl
  unfold sh_LT_type_47 at hsh
  refine lv_iconst (v := 0) hx hb d_LT_type_47 (by decide) ?_
  obtain ⟨rfl, hn⟩ := im_rz_s hsh
  exact im_zret hx hb hr hlk hn hH d_LT_type_48
def sh_LT_type_32 (F : Nat) (x0 : Nat) (x1 : Int32) (y0 : Int32) (w : im_W) : Option (Int32 × im_W) :=
  (if y0 = 0 then sh_LT_type_47 F w else (im_gR w 8 x0 0).bind fun f1 => (im_is w 7 f1).bind fun u3 => im_b2 (sh_Text_isFull F f1 w) fun v9 w7 => (if v9 = 0 then (im_gR w7 8 x0 0).bind fun f10 => (im_is w7 7 f10).bind fun u12 => (sh_Text_append F f10 x1 w7).bind fun w16 => im_rz (1 : Int32) w16 else sh_LT_type_47 F w7))
set_option maxHeartbeats 4000000 in
set_option maxRecDepth 100000 in
theorem bk_LT_type_32 {F : Nat} {r : Int32 × im_W} (X : im_X D vwCl tA lo im_NW c_LT_type 3 (some .boolean) RC_LT im_T p s m args meth c) (x0 : Nat) (x1 : Int32) (y0 : Int32) (w : im_W) (hsh : sh_LT_type_32 F x0 x1 y0 w = some r) : im_WW D vwCl tA lo 3 p l e (im_rm 2 41) s m args below meth c 0 0 (MQ below (im_Post D vwCl tA lo (some (.int r.1)) r.2) args s 0 0 (fun q => lo ≤ q)) 32 [(0, .ref (lo + x0)), (1, .int x1)] [.int y0] w := by
  obtain ⟨hx, hb, hr, hts, hown, hlk, hml, hK, hN⟩ := id X
  intro H locs ls hH hl
  unfold sh_LT_type_32 at hsh
  refine lv_istore_n (lv' := [(2, .int y0), (0, .ref (lo + x0)), (1, .int x1)]) hx hb d_LT_type_32 rfl hl (by decide) rfl (fun ls hl => ?_)
  refine lv_iload_n hx hb d_LT_type_33 rfl (lv_at hl 0 rfl) ?_
  refine lv_if_eq (tgt := 47) hx hb d_LT_type_34 (by decide) (fun cc => ?_) (fun cc => ?_)
  · have hsh := im_it hsh cc
    exact bk_LT_type_47 X w hsh H locs ls hH (lv_sub hl [] rfl)
  · have hsh := im_if hsh cc
    refine lv_aload_n hx hb d_LT_type_37 rfl (lv_at hl 1 rfl) ?_
    obtain ⟨f1, h2, hsh⟩ := im_bd hsh
    refine im_getR hx hb hts inC_LT hown hK hH (ci := 8) rfl 0 (by decide) (hts _ wd_175) rfl h2 d_LT_type_38 ?_
    obtain ⟨u3, h4, hsh⟩ := im_bd hsh
    obtain ⟨g5, h6⟩ := im_is_s h4
    obtain ⟨v9, w7, h8, hsh⟩ := im_bd2 hsh
    refine im_afterI (va_runV (As := []) (rest := []) (C := RC_Text) ⟨hx, hb, hml, hown, hts⟩ (met_Text_isFull h8) ⟨(callB_of 0 hts (im_good wd_240) rfl rfl rfl (hts _ wd_2) (hts _ wd_237) (by decide +kernel) ⟨Nat.le_of_ble_eq_true rfl, Nat.le_of_ble_eq_true rfl⟩), hts _ wd_238, hts _ wd_239⟩ (im_preV im_NW_ok hK hN hH (ci := 7) rfl rfl h6 _) rfl rfl hl.1 rfl (lv_room (Nat.le_of_ble_eq_true rfl)) d_LT_type_41 ⟨Nat.le_of_ble_eq_true rfl, Nat.le_of_ble_eq_true rfl⟩) hH (fun H locs hH => ?_)
    refine lv_if_eq (tgt := 49) hx hb d_LT_type_44 (by decide) (fun cc => ?_) (fun cc => ?_)
    · have hsh := im_it hsh cc
      refine lv_aload_n hx hb d_LT_type_49 rfl (lv_at hl 1 rfl) ?_
      obtain ⟨f10, h11, hsh⟩ := im_bd hsh
      refine im_getR hx hb hts inC_LT hown hK hH (ci := 8) rfl 0 (by decide) (hts _ wd_175) rfl h11 d_LT_type_50 ?_
      refine lv_iload_n hx hb d_LT_type_53 rfl (lv_at hl 2 rfl) ?_
      obtain ⟨u12, h13, hsh⟩ := im_bd hsh
      obtain ⟨g14, h15⟩ := im_is_s h13
      obtain ⟨w16, h17, hsh⟩ := im_bd hsh
      refine im_afterV (va_runV (As := [.int x1]) (rest := []) (C := RC_Text) ⟨hx, hb, hml, hown, hts⟩ (met_Text_append h17) ⟨(callB_of 1 hts (im_good wd_244) rfl rfl rfl (hts _ wd_2) (hts _ wd_241) (by decide +kernel) ⟨Nat.le_of_ble_eq_true rfl, Nat.le_of_ble_eq_true rfl⟩), hts _ wd_242, hts _ wd_243⟩ (im_preV im_NW_ok hK hN hH (ci := 7) rfl rfl h15 _) rfl rfl hl.1 rfl (lv_room (Nat.le_of_ble_eq_true rfl)) d_LT_type_54 ⟨Nat.le_of_ble_eq_true rfl, Nat.le_of_ble_eq_true rfl⟩) hH (fun H locs hH => ?_)
      refine lv_iconst (v := 1) hx hb d_LT_type_57 (by decide) ?_
      obtain ⟨rfl, hn⟩ := im_rz_s hsh
      exact im_zret hx hb hr hlk hn hH d_LT_type_58
    · have hsh := im_if hsh cc
      exact bk_LT_type_47 X w7 hsh H locs ls hH (lv_sub hl [] rfl)
def sh_LT_type_27 (F : Nat) (x0 : Nat) (x1 : Int32) (w : im_W) : Option (Int32 × im_W) :=
  sh_LT_type_32 F x0 x1 (1 : Int32) w
set_option maxHeartbeats 4000000 in
set_option maxRecDepth 100000 in
theorem bk_LT_type_27 {F : Nat} {r : Int32 × im_W} (X : im_X D vwCl tA lo im_NW c_LT_type 3 (some .boolean) RC_LT im_T p s m args meth c) (x0 : Nat) (x1 : Int32) (w : im_W) (hsh : sh_LT_type_27 F x0 x1 w = some r) : im_WW D vwCl tA lo 3 p l e (im_rm 2 41) s m args below meth c 0 0 (MQ below (im_Post D vwCl tA lo (some (.int r.1)) r.2) args s 0 0 (fun q => lo ≤ q)) 27 [(0, .ref (lo + x0)), (1, .int x1)] [] w := by
  obtain ⟨hx, hb, hr, hts, hown, hlk, hml, hK, hN⟩ := id X
  intro H locs ls hH hl
  unfold sh_LT_type_27 at hsh
  refine lv_iconst (v := 1) hx hb d_LT_type_27 (by decide) ?_
  refine lv_goto (tgt := 32) hx hb d_LT_type_28 (by decide) ?_
  exact bk_LT_type_32 X x0 x1 (1 : Int32) w hsh H locs ls hH (lv_sub hl [0, 1] rfl)
def sh_LT_type (F : Nat) (x0 : Nat) (x1 : Int32) (w : im_W) : Option (Int32 × im_W) :=
  im_b2 (sh_Subtag_isLetter F x1 w) fun v3 w1 => (if v3 = 0 then im_b2 (sh_Subtag_isDigit F x1 w1) fun v6 w4 => (if v6 = 0 then im_b2 (sh_Subtag_isCut F x1 w4) fun v9 w7 => (if v9 = 0 then (if x1 = (61 : Int32) then sh_LT_type_27 F x0 x1 w7 else sh_LT_type_32 F x0 x1 (0 : Int32) w7) else sh_LT_type_27 F x0 x1 w7) else sh_LT_type_27 F x0 x1 w4) else sh_LT_type_27 F x0 x1 w1)
set_option maxHeartbeats 4000000 in
set_option maxRecDepth 100000 in
theorem met_LT_type {F : Nat} {x0 : Nat} {x1 : Int32} {w : im_W} {r : Int32 × im_W} (hsh : sh_LT_type F x0 x1 w = some r) : Met l y_LT_type (Cond.code y_LT_type c_LT_type 3 (some .boolean) :: im_T) (im_rm 2 41) (im_Pre D vwCl tA lo im_NW [.ref (lo + x0), .int x1] w) (im_Post D vwCl tA lo (some (.int r.1)) r.2) 0 0 (fun q => lo ≤ q) := by
  refine im_ofW (cc := c_LT_type) (nL := 3) (ret := (some .boolean)) (by decide) (Nat.le_of_ble_eq_true rfl) ?_
  intro p e s m args below meth c X H locs ls hH hl
  obtain ⟨hx, hb, hr, hts, hown, hlk, hml, hK, hN⟩ := id X
  have hl : lv_has ls 3 [(0, .ref (lo + x0)), (1, .int x1)] := hl
  unfold sh_LT_type at hsh
  refine lv_iload_n hx hb d_LT_type_0 rfl (lv_at hl 1 rfl) ?_
  obtain ⟨v3, w1, h2, hsh⟩ := im_bd2 hsh
  refine im_afterI (va_runS (As := [.int x1]) (rest := []) ⟨hx, hb, hml, hown, hts⟩ (met_Subtag_isLetter h2) ⟨(callB_of 1 hts (im_good wd_230) rfl rfl rfl (hts _ wd_11) (hts _ wd_228) (by decide +kernel) ⟨Nat.le_of_ble_eq_true rfl, Nat.le_of_ble_eq_true rfl⟩), hts _ wd_229⟩ (im_pre im_NW_ok hK hN hH _) rfl rfl hl.1 rfl (lv_room (Nat.le_of_ble_eq_true rfl)) d_LT_type_1 ⟨Nat.le_of_ble_eq_true rfl, Nat.le_of_ble_eq_true rfl⟩) hH (fun H locs hH => ?_)
  refine lv_if_ne (tgt := 27) hx hb d_LT_type_4 (by decide) (fun cc => ?_) (fun cc => ?_)
  · have hsh := im_if hsh cc
    exact bk_LT_type_27 X x0 x1 w1 hsh H locs ls hH (lv_sub hl [0, 1] rfl)
  · have hsh := im_it hsh cc
    refine lv_iload_n hx hb d_LT_type_7 rfl (lv_at hl 1 rfl) ?_
    obtain ⟨v6, w4, h5, hsh⟩ := im_bd2 hsh
    refine im_afterI (va_runS (As := [.int x1]) (rest := []) ⟨hx, hb, hml, hown, hts⟩ (met_Subtag_isDigit h5) ⟨(callB_of 1 hts (im_good wd_233) rfl rfl rfl (hts _ wd_11) (hts _ wd_231) (by decide +kernel) ⟨Nat.le_of_ble_eq_true rfl, Nat.le_of_ble_eq_true rfl⟩), hts _ wd_232⟩ (im_pre im_NW_ok hK hN hH _) rfl rfl hl.1 rfl (lv_room (Nat.le_of_ble_eq_true rfl)) d_LT_type_8 ⟨Nat.le_of_ble_eq_true rfl, Nat.le_of_ble_eq_true rfl⟩) hH (fun H locs hH => ?_)
    refine lv_if_ne (tgt := 27) hx hb d_LT_type_11 (by decide) (fun cc => ?_) (fun cc => ?_)
    · have hsh := im_if hsh cc
      exact bk_LT_type_27 X x0 x1 w4 hsh H locs ls hH (lv_sub hl [0, 1] rfl)
    · have hsh := im_it hsh cc
      refine lv_iload_n hx hb d_LT_type_14 rfl (lv_at hl 1 rfl) ?_
      obtain ⟨v9, w7, h8, hsh⟩ := im_bd2 hsh
      refine im_afterI (va_runS (As := [.int x1]) (rest := []) ⟨hx, hb, hml, hown, hts⟩ (met_Subtag_isCut h8) ⟨(callB_of 1 hts (im_good wd_236) rfl rfl rfl (hts _ wd_11) (hts _ wd_234) (by decide +kernel) ⟨Nat.le_of_ble_eq_true rfl, Nat.le_of_ble_eq_true rfl⟩), hts _ wd_235⟩ (im_pre im_NW_ok hK hN hH _) rfl rfl hl.1 rfl (lv_room (Nat.le_of_ble_eq_true rfl)) d_LT_type_15 ⟨Nat.le_of_ble_eq_true rfl, Nat.le_of_ble_eq_true rfl⟩) hH (fun H locs hH => ?_)
      refine lv_if_ne (tgt := 27) hx hb d_LT_type_18 (by decide) (fun cc => ?_) (fun cc => ?_)
      · have hsh := im_if hsh cc
        exact bk_LT_type_27 X x0 x1 w7 hsh H locs ls hH (lv_sub hl [0, 1] rfl)
      · have hsh := im_it hsh cc
        refine lv_iload_n hx hb d_LT_type_21 rfl (lv_at hl 1 rfl) ?_
        refine lv_bipush (v := 61) hx hb d_LT_type_22 (by decide) ?_
        refine lv_icmp_ne (tgt := 31) hx hb d_LT_type_24 (by decide) (fun cc => ?_) (fun cc => ?_)
        · have hsh := im_if hsh cc
          refine lv_iconst (v := 0) hx hb d_LT_type_31 (by decide) ?_
          exact bk_LT_type_32 X x0 x1 (0 : Int32) w7 hsh H locs ls hH (lv_sub hl [0, 1] rfl)
        · have hsh := im_it hsh cc
          exact bk_LT_type_27 X x0 x1 w7 hsh H locs ls hH (lv_sub hl [0, 1] rfl)
theorem wd_250 : (Jvm.Cond.methodLink "LanguageTags" (115 : Nat) ({ cls := "LanguageTags$Text", name := "clear", desc := "()V" } : Jvm.MethodName)) ∈ im_T := im_memT (i := 250) (by decide +kernel) (by decide +kernel)
theorem wd_251 : (Jvm.Cond.instanceMethod ({ cls := "LanguageTags$Text", name := "clear", desc := "()V" } : Jvm.MethodName)) ∈ im_T := im_memT (i := 251) (by decide +kernel) (by decide +kernel)
theorem wd_252 : (Jvm.Cond.selects "LanguageTags$Text" ({ cls := "LanguageTags$Text", name := "clear", desc := "()V" } : Jvm.MethodName) ({ cls := "LanguageTags$Text", name := "clear", desc := "()V" } : Jvm.MethodName)) ∈ im_T := im_memT (i := 252) (by decide +kernel) (by decide +kernel)
theorem wd_253 : (Jvm.Cond.code ({ cls := "LanguageTags$Text", name := "clear", desc := "()V" } : Jvm.MethodName) prog_10_method_4_code (1 : Nat) (Option.none : Option Jvm.ClassFile.FieldType)) ∈ im_T := im_memT (i := 253) (by decide +kernel) (by decide +kernel)
theorem d_LT_wipe_0 : decode c_LT_wipe 0 = .ok (.aload_n 0, 1) := by decide +kernel
theorem d_LT_wipe_1 : decode c_LT_wipe 1 = .ok (.getfield 14, 3) := by decide +kernel
theorem d_LT_wipe_4 : decode c_LT_wipe 4 = .ok (.invokevirtual 115, 3) := by decide +kernel
theorem d_LT_wipe_7 : decode c_LT_wipe 7 = .ok (.return_, 1) := by decide +kernel
def sh_LT_wipe (F : Nat) (x0 : Nat) (w : im_W) : Option (im_W) :=
  (im_gR w 8 x0 0).bind fun f1 => (im_is w 7 f1).bind fun u3 => (sh_Text_clear F f1 w).bind fun w7 => some w7
set_option maxHeartbeats 4000000 in
set_option maxRecDepth 100000 in
theorem met_LT_wipe {F : Nat} {x0 : Nat} {w : im_W} {r : im_W} (hsh : sh_LT_wipe F x0 w = some r) : Met l y_LT_wipe (Cond.code y_LT_wipe c_LT_wipe 1 none :: im_T) (im_rm 1 20) (im_Pre D vwCl tA lo im_NW [.ref (lo + x0)] w) (im_Post D vwCl tA lo none r) 0 0 (fun q => lo ≤ q) := by
  refine im_ofW (cc := c_LT_wipe) (nL := 1) (ret := none) (by decide) (Nat.le_of_ble_eq_true rfl) ?_
  intro p e s m args below meth c X H locs ls hH hl
  obtain ⟨hx, hb, hr, hts, hown, hlk, hml, hK, hN⟩ := id X
  have hl : lv_has ls 1 [(0, .ref (lo + x0))] := hl
  unfold sh_LT_wipe at hsh
  refine lv_aload_n hx hb d_LT_wipe_0 rfl (lv_at hl 0 rfl) ?_
  obtain ⟨f1, h2, hsh⟩ := im_bd hsh
  refine im_getR hx hb hts inC_LT hown hK hH (ci := 8) rfl 0 (by decide) (hts _ wd_175) rfl h2 d_LT_wipe_1 ?_
  obtain ⟨u3, h4, hsh⟩ := im_bd hsh
  obtain ⟨g5, h6⟩ := im_is_s h4
  obtain ⟨w7, h8, hsh⟩ := im_bd hsh
  refine im_afterV (va_runV (As := []) (rest := []) (C := RC_Text) ⟨hx, hb, hml, hown, hts⟩ (met_Text_clear h8) ⟨(callB_of 0 hts (im_good wd_253) rfl rfl rfl (hts _ wd_2) (hts _ wd_250) (by decide +kernel) ⟨Nat.le_of_ble_eq_true rfl, Nat.le_of_ble_eq_true rfl⟩), hts _ wd_251, hts _ wd_252⟩ (im_preV im_NW_ok hK hN hH (ci := 7) rfl rfl h6 _) rfl rfl hl.1 rfl (lv_room (Nat.le_of_ble_eq_true rfl)) d_LT_wipe_4 ⟨Nat.le_of_ble_eq_true rfl, Nat.le_of_ble_eq_true rfl⟩) hH (fun H locs hH => ?_)
  obtain rfl := Option.some.inj hsh
  exact im_vret hx hb hr hlk hH d_LT_wipe_7
theorem wd_278 : (Jvm.Cond.methodLink "LanguageTags" (246 : Nat) ({ cls := "LanguageTags$Subtag", name := "isRegion", desc := "(J)Z" } : Jvm.MethodName)) ∈ im_T := im_memT (i := 278) (by decide +kernel) (by decide +kernel)
theorem wd_291 : (Jvm.Cond.methodLink "LanguageTags" (250 : Nat) ({ cls := "LanguageTags$Subtag", name := "isLanguage", desc := "(J)Z" } : Jvm.MethodName)) ∈ im_T := im_memT (i := 291) (by decide +kernel) (by decide +kernel)
theorem d_LT_isAliasPart_0 : decode c_LT_isAliasPart 0 = .ok (.iload_n 2, 1) := by decide +kernel
theorem d_LT_isAliasPart_1 : decode c_LT_isAliasPart 1 = .ok (.ifCond .eq (10), 3) := by decide +kernel
theorem d_LT_isAliasPart_4 : decode c_LT_isAliasPart 4 = .ok (.lload_n 0, 1) := by decide +kernel
theorem d_LT_isAliasPart_5 : decode c_LT_isAliasPart 5 = .ok (.invokestatic 246, 3) := by decide +kernel
theorem d_LT_isAliasPart_8 : decode c_LT_isAliasPart 8 = .ok (.goto (7), 3) := by decide +kernel
theorem d_LT_isAliasPart_11 : decode c_LT_isAliasPart 11 = .ok (.lload_n 0, 1) := by decide +kernel
theorem d_LT_isAliasPart_12 : decode c_LT_isAliasPart 12 = .ok (.invokestatic 250, 3) := by decide +kernel
theorem d_LT_isAliasPart_15 : decode c_LT_isAliasPart 15 = .ok (.ireturn, 1) := by decide +kernel
def sh_LT_isAliasPart_15 (F : Nat) (y0 : Int32) (w : im_W) : Option (Int32 × im_W) :=
  im_rz y0 w
set_option maxHeartbeats 4000000 in
set_option maxRecDepth 100000 in
theorem bk_LT_isAliasPart_15 {F : Nat} {r : Int32 × im_W} (X : im_X D vwCl tA lo im_NW c_LT_isAliasPart 3 (some .boolean) RC_LT im_T p s m args meth c) (y0 : Int32) (w : im_W) (hsh : sh_LT_isAliasPart_15 F y0 w = some r) : im_WW D vwCl tA lo 3 p l e (im_rm 3 67) s m args below meth c 0 0 (MQ below (im_Post D vwCl tA lo (some (.int r.1)) r.2) args s 0 0 (fun q => lo ≤ q)) 15 [] [.int y0] w := by
  obtain ⟨hx, hb, hr, hts, hown, hlk, hml, hK, hN⟩ := id X
  intro H locs ls hH hl
  unfold sh_LT_isAliasPart_15 at hsh
  obtain ⟨rfl, hn⟩ := im_rz_s hsh
  exact im_zret hx hb hr hlk hn hH d_LT_isAliasPart_15
def sh_LT_isAliasPart (F : Nat) (x0 : Int64) (x2 : Int32) (w : im_W) : Option (Int32 × im_W) :=
  (if x2 = 0 then im_b2 (sh_Subtag_isLanguage F x0 w) fun v3 w1 => sh_LT_isAliasPart_15 F v3 w1 else im_b2 (sh_Subtag_isRegion F x0 w) fun v6 w4 => sh_LT_isAliasPart_15 F v6 w4)
set_option maxHeartbeats 4000000 in
set_option maxRecDepth 100000 in
theorem met_LT_isAliasPart {F : Nat} {x0 : Int64} {x2 : Int32} {w : im_W} {r : Int32 × im_W} (hsh : sh_LT_isAliasPart F x0 x2 w = some r) : Met l y_LT_isAliasPart (Cond.code y_LT_isAliasPart c_LT_isAliasPart 3 (some .boolean) :: im_T) (im_rm 3 67) (im_Pre D vwCl tA lo im_NW [.long x0, .int x2] w) (im_Post D vwCl tA lo (some (.int r.1)) r.2) 0 0 (fun q => lo ≤ q) := by
  refine im_ofW (cc := c_LT_isAliasPart) (nL := 3) (ret := (some .boolean)) (by decide) (Nat.le_of_ble_eq_true rfl) ?_
  intro p e s m args below meth c X H locs ls hH hl
  obtain ⟨hx, hb, hr, hts, hown, hlk, hml, hK, hN⟩ := id X
  have hl : lv_has ls 3 [(0, .long x0), (2, .int x2)] := hl
  unfold sh_LT_isAliasPart at hsh
  refine lv_iload_n hx hb d_LT_isAliasPart_0 rfl (lv_at hl 1 rfl) ?_
  refine lv_if_eq (tgt := 11) hx hb d_LT_isAliasPart_1 (by decide) (fun cc => ?_) (fun cc => ?_)
  · have hsh := im_it hsh cc
    refine lv_lload_n hx hb d_LT_isAliasPart_11 rfl (lv_at hl 0 rfl) ?_
    obtain ⟨v3, w1, h2, hsh⟩ := im_bd2 hsh
    refine im_afterI (va_runS (As := [.long x0]) (rest := []) ⟨hx, hb, hml, hown, hts⟩ (met_Subtag_isLanguage h2) ⟨(callB_of 1 hts (im_good wd_293) rfl rfl rfl (hts _ wd_11) (hts _ wd_291) (by decide +kernel) ⟨Nat.le_of_ble_eq_true rfl, Nat.le_of_ble_eq_true rfl⟩), hts _ wd_292⟩ (im_pre im_NW_ok hK hN hH _) rfl rfl hl.1 rfl (lv_room (Nat.le_of_ble_eq_true rfl)) d_LT_isAliasPart_12 ⟨Nat.le_of_ble_eq_true rfl, Nat.le_of_ble_eq_true rfl⟩) hH (fun H locs hH => ?_)
    exact bk_LT_isAliasPart_15 X v3 w1 hsh H locs ls hH (lv_sub hl [] rfl)
  · have hsh := im_if hsh cc
    refine lv_lload_n hx hb d_LT_isAliasPart_4 rfl (lv_at hl 0 rfl) ?_
    obtain ⟨v6, w4, h5, hsh⟩ := im_bd2 hsh
    refine im_afterI (va_runS (As := [.long x0]) (rest := []) ⟨hx, hb, hml, hown, hts⟩ (met_Subtag_isRegion h5) ⟨(callB_of 1 hts (im_good wd_280) rfl rfl rfl (hts _ wd_11) (hts _ wd_278) (by decide +kernel) ⟨Nat.le_of_ble_eq_true rfl, Nat.le_of_ble_eq_true rfl⟩), hts _ wd_279⟩ (im_pre im_NW_ok hK hN hH _) rfl rfl hl.1 rfl (lv_room (Nat.le_of_ble_eq_true rfl)) d_LT_isAliasPart_5 ⟨Nat.le_of_ble_eq_true rfl, Nat.le_of_ble_eq_true rfl⟩) hH (fun H locs hH => ?_)
    refine lv_goto (tgt := 15) hx hb d_LT_isAliasPart_8 (by decide) ?_
    exact bk_LT_isAliasPart_15 X v6 w4 hsh H locs ls hH (lv_sub hl [] rfl)
theorem wd_179 : (Jvm.Cond.fieldLink "LanguageTags" (38 : Nat) "LanguageTags" "likelyPairs" "LLanguageTags$Pairs;") ∈ im_T := im_memT (i := 179) (by decide +kernel) (by decide +kernel)
theorem wd_180 : (Jvm.Cond.fieldLink "LanguageTags" (42 : Nat) "LanguageTags" "parentPairs" "LLanguageTags$Pairs;") ∈ im_T := im_memT (i := 180) (by decide +kernel) (by decide +kernel)
theorem wd_188 : (Jvm.Cond.fieldLink "LanguageTags" (85 : Nat) "LanguageTags" "knownCount" "I") ∈ im_T := im_memT (i := 188) (by decide +kernel) (by decide +kernel)
theorem wd_298 : (Jvm.Cond.methodLink "LanguageTags" (197 : Nat) ({ cls := "LanguageTags$Pairs", name := "count", desc := "()I" } : Jvm.MethodName)) ∈ im_T := im_memT (i := 298) (by decide +kernel) (by decide +kernel)
theorem wd_299 : (Jvm.Cond.instanceMethod ({ cls := "LanguageTags$Pairs", name := "count", desc := "()I" } : Jvm.MethodName)) ∈ im_T := im_memT (i := 299) (by decide +kernel) (by decide +kernel)
theorem wd_300 : (Jvm.Cond.selects "LanguageTags$Pairs" ({ cls := "LanguageTags$Pairs", name := "count", desc := "()I" } : Jvm.MethodName) ({ cls := "LanguageTags$Pairs", name := "count", desc := "()I" } : Jvm.MethodName)) ∈ im_T := im_memT (i := 300) (by decide +kernel) (by decide +kernel)
theorem wd_301 : (Jvm.Cond.code ({ cls := "LanguageTags$Pairs", name := "count", desc := "()I" } : Jvm.MethodName) prog_6_method_2_code (1 : Nat) (Option.some Jvm.ClassFile.FieldType.int)) ∈ im_T := im_memT (i := 301) (by decide +kernel) (by decide +kernel)
theorem d_LT_formsAreFixed_0 : decode c_LT_formsAreFixed 0 = .ok (.aload_n 0, 1) := by decide +kernel
theorem d_LT_formsAreFixed_1 : decode c_LT_formsAreFixed 1 = .ok (.getfield 85, 3) := by decide +kernel
theorem d_LT_formsAreFixed_4 : decode c_LT_formsAreFixed 4 = .ok (.ifCond .gt (23), 3) := by decide +kernel
theorem d_LT_formsAreFixed_7 : decode c_LT_formsAreFixed 7 = .ok (.aload_n 0, 1) := by decide +kernel
theorem d_LT_formsAreFixed_8 : decode c_LT_formsAreFixed 8 = .ok (.getfield 38, 3) := by decide +kernel
theorem d_LT_formsAreFixed_11 : decode c_LT_formsAreFixed 11 = .ok (.invokevirtual 197, 3) := by decide +kernel
theorem d_LT_formsAreFixed_14 : decode c_LT_formsAreFixed 14 = .ok (.ifCond .gt (13), 3) := by decide +kernel
theorem d_LT_formsAreFixed_17 : decode c_LT_formsAreFixed 17 = .ok (.aload_n 0, 1) := by decide +kernel
theorem d_LT_formsAreFixed_18 : decode c_LT_formsAreFixed 18 = .ok (.getfield 42, 3) := by decide +kernel
theorem d_LT_formsAreFixed_21 : decode c_LT_formsAreFixed 21 = .ok (.invokevirtual 197, 3) := by decide +kernel
theorem d_LT_formsAreFixed_24 : decode c_LT_formsAreFixed 24 = .ok (.ifCond .le (7), 3) := by decide +kernel
theorem d_LT_formsAreFixed_27 : decode c_LT_formsAreFixed 27 = .ok (.iconst 1, 1) := by decide +kernel
theorem d_LT_formsAreFixed_28 : decode c_LT_formsAreFixed 28 = .ok (.goto (4), 3) := by decide +kernel
theorem d_LT_formsAreFixed_31 : decode c_LT_formsAreFixed 31 = .ok (.iconst 0, 1) := by decide +kernel
theorem d_LT_formsAreFixed_32 : decode c_LT_formsAreFixed 32 = .ok (.ireturn, 1) := by decide +kernel
def sh_LT_formsAreFixed_32 (F : Nat) (y0 : Int32) (w : im_W) : Option (Int32 × im_W) :=
  im_rz y0 w
set_option maxHeartbeats 4000000 in
set_option maxRecDepth 100000 in
theorem bk_LT_formsAreFixed_32 {F : Nat} {r : Int32 × im_W} (X : im_X D vwCl tA lo im_NW c_LT_formsAreFixed 1 (some .boolean) RC_LT im_T p s m args meth c) (y0 : Int32) (w : im_W) (hsh : sh_LT_formsAreFixed_32 F y0 w = some r) : im_WW D vwCl tA lo 1 p l e (im_rm 1 20) s m args below meth c 0 0 (MQ below (im_Post D vwCl tA lo (some (.int r.1)) r.2) args s 0 0 (fun q => lo ≤ q)) 32 [] [.int y0] w := by
  obtain ⟨hx, hb, hr, hts, hown, hlk, hml, hK, hN⟩ := id X
  intro H locs ls hH hl
  unfold sh_LT_formsAreFixed_32 at hsh
  obtain ⟨rfl, hn⟩ := im_rz_s hsh
  exact im_zret hx hb hr hlk hn hH d_LT_formsAreFixed_32
def sh_LT_formsAreFixed_27 (F : Nat)  (w : im_W) : Option (Int32 × im_W) :=
  sh_LT_formsAreFixed_32 F (1 : Int32) w
set_option maxHeartbeats 4000000 in
set_option maxRecDepth 100000 in
theorem bk_LT_formsAreFixed_27 {F : Nat} {r : Int32 × im_W} (X : im_X D vwCl tA lo im_NW c_LT_formsAreFixed 1 (some .boolean) RC_LT im_T p s m args meth c)  (w : im_W) (hsh : sh_LT_formsAreFixed_27 F w = some r) : im_WW D vwCl tA lo 1 p l e (im_rm 1 20) s m args below meth c 0 0 (MQ below (im_Post D vwCl tA lo (some (.int r.1)) r.2) args s 0 0 (fun q => lo ≤ q)) 27 [] [] w := by
  obtain ⟨hx, hb, hr, hts, hown, hlk, hml, hK, hN⟩ := id X
  intro H locs ls hH hl
  unfold sh_LT_formsAreFixed_27 at hsh
  refine lv_iconst (v := 1) hx hb d_LT_formsAreFixed_27 (by decide) ?_
  refine lv_goto (tgt := 32) hx hb d_LT_formsAreFixed_28 (by decide) ?_
  exact bk_LT_formsAreFixed_32 X (1 : Int32) w hsh H locs ls hH (lv_sub hl [] rfl)
def sh_LT_formsAreFixed (F : Nat) (x0 : Nat) (w : im_W) : Option (Int32 × im_W) :=
  (im_gI w 8 x0 13).bind fun f1 => (if 0 < f1 then sh_LT_formsAreFixed_27 F w else (im_gR w 8 x0 4).bind fun f3 => (im_is w 4 f3).bind fun u5 => im_b2 (sh_Pairs_count F f3 w) fun v11 w9 => (if 0 < v11 then sh_LT_formsAreFixed_27 F w9 else (im_gR w9 8 x0 5).bind fun f12 => (im_is w9 4 f12).bind fun u14 => im_b2 (sh_Pairs_count F f12 w9) fun v20 w18 => (if v20 ≤ 0 then sh_LT_formsAreFixed_32 F (0 : Int32) w18 else sh_LT_formsAreFixed_27 F w18)))
set_option maxHeartbeats 4000000 in
set_option maxRecDepth 100000 in
theorem met_LT_formsAreFixed {F : Nat} {x0 : Nat} {w : im_W} {r : Int32 × im_W} (hsh : sh_LT_formsAreFixed F x0 w = some r) : Met l y_LT_formsAreFixed (Cond.code y_LT_formsAreFixed c_LT_formsAreFixed 1 (some .boolean) :: im_T) (im_rm 1 20) (im_Pre D vwCl tA lo im_NW [.ref (lo + x0)] w) (im_Post D vwCl tA lo (some (.int r.1)) r.2) 0 0 (fun q => lo ≤ q) := by
  refine im_ofW (cc := c_LT_formsAreFixed) (nL := 1) (ret := (some .boolean)) (by decide) (Nat.le_of_ble_eq_true rfl) ?_
  intro p e s m args below meth c X H locs ls hH hl
  obtain ⟨hx, hb, hr, hts, hown, hlk, hml, hK, hN⟩ := id X
  have hl : lv_has ls 1 [(0, .ref (lo + x0))] := hl
  unfold sh_LT_formsAreFixed at hsh
  refine lv_aload_n hx hb d_LT_formsAreFixed_0 rfl (lv_at hl 0 rfl) ?_
  obtain ⟨f1, h2, hsh⟩ := im_bd hsh
  refine im_getI hx hb hts inC_LT hown hK hH (ci := 8) rfl 13 (by decide) (hts _ wd_188) rfl h2 d_LT_formsAreFixed_1 ?_
  refine lv_if_gt (tgt := 27) hx hb d_LT_formsAreFixed_4 (by decide) (fun cc => ?_) (fun cc => ?_)
  · have hsh := im_it hsh cc
    exact bk_LT_formsAreFixed_27 X w hsh H locs ls hH (lv_sub hl [] rfl)
  · have hsh := im_if hsh cc
    refine lv_aload_n hx hb d_LT_formsAreFixed_7 rfl (lv_at hl 0 rfl) ?_
    obtain ⟨f3, h4, hsh⟩ := im_bd hsh
    refine im_getR hx hb hts inC_LT hown hK hH (ci := 8) rfl 4 (by decide) (hts _ wd_179) rfl h4 d_LT_formsAreFixed_8 ?_
    obtain ⟨u5, h6, hsh⟩ := im_bd hsh
    obtain ⟨g7, h8⟩ := im_is_s h6
    obtain ⟨v11, w9, h10, hsh⟩ := im_bd2 hsh
    refine im_afterI (va_runV (As := []) (rest := []) (C := RC_Pairs) ⟨hx, hb, hml, hown, hts⟩ (met_Pairs_count h10) ⟨(callB_of 0 hts (im_good wd_301) rfl rfl rfl (hts _ wd_5) (hts _ wd_298) (by decide +kernel) ⟨Nat.le_of_ble_eq_true rfl, Nat.le_of_ble_eq_true rfl⟩), hts _ wd_299, hts _ wd_300⟩ (im_preV im_NW_ok hK hN hH (ci := 4) rfl rfl h8 _) rfl rfl hl.1 rfl (lv_room (Nat.le_of_ble_eq_true rfl)) d_LT_formsAreFixed_11 ⟨Nat.le_of_ble_eq_true rfl, Nat.le_of_ble_eq_true rfl⟩) hH (fun H locs hH => ?_)
    refine lv_if_gt (tgt := 27) hx hb d_LT_formsAreFixed_14 (by decide) (fun cc => ?_) (fun cc => ?_)
    · have hsh := im_it hsh cc
      exact bk_LT_formsAreFixed_27 X w9 hsh H locs ls hH (lv_sub hl [] rfl)
    · have hsh := im_if hsh cc
      refine lv_aload_n hx hb d_LT_formsAreFixed_17 rfl (lv_at hl 0 rfl) ?_
      obtain ⟨f12, h13, hsh⟩ := im_bd hsh
      refine im_getR hx hb hts inC_LT hown hK hH (ci := 8) rfl 5 (by decide) (hts _ wd_180) rfl h13 d_LT_formsAreFixed_18 ?_
      obtain ⟨u14, h15, hsh⟩ := im_bd hsh
      obtain ⟨g16, h17⟩ := im_is_s h15
      obtain ⟨v20, w18, h19, hsh⟩ := im_bd2 hsh
      refine im_afterI (va_runV (As := []) (rest := []) (C := RC_Pairs) ⟨hx, hb, hml, hown, hts⟩ (met_Pairs_count h19) ⟨(callB_of 0 hts (im_good wd_301) rfl rfl rfl (hts _ wd_5) (hts _ wd_298) (by decide +kernel) ⟨Nat.le_of_ble_eq_true rfl, Nat.le_of_ble_eq_true rfl⟩), hts _ wd_299, hts _ wd_300⟩ (im_preV im_NW_ok hK hN hH (ci := 4) rfl rfl h17 _) rfl rfl hl.1 rfl (lv_room (Nat.le_of_ble_eq_true rfl)) d_LT_formsAreFixed_21 ⟨Nat.le_of_ble_eq_true rfl, Nat.le_of_ble_eq_true rfl⟩) hH (fun H locs hH => ?_)
      refine lv_if_le (tgt := 31) hx hb d_LT_formsAreFixed_24 (by decide) (fun cc => ?_) (fun cc => ?_)
      · have hsh := im_it hsh cc
        refine lv_iconst (v := 0) hx hb d_LT_formsAreFixed_31 (by decide) ?_
        exact bk_LT_formsAreFixed_32 X (0 : Int32) w18 hsh H locs ls hH (lv_sub hl [] rfl)
      · have hsh := im_if hsh cc
        exact bk_LT_formsAreFixed_27 X w18 hsh H locs ls hH (lv_sub hl [] rfl)
theorem wd_1 : (Jvm.Cond.initialized "LanguageTags") ∈ im_T := im_memT (i := 1) (by decide +kernel) (by decide +kernel)
theorem wd_178 : (Jvm.Cond.fieldLink "LanguageTags" (31 : Nat) "LanguageTags" "aliases" "LLanguageTags$Aliases;") ∈ im_T := im_memT (i := 178) (by decide +kernel) (by decide +kernel)
theorem wd_258 : (Jvm.Cond.methodLink "LanguageTags" (118 : Nat) ({ cls := "LanguageTags$Text", name := "placeOf", desc := "(C)I" } : Jvm.MethodName)) ∈ im_T := im_memT (i := 258) (by decide +kernel) (by decide +kernel)
theorem wd_259 : (Jvm.Cond.instanceMethod ({ cls := "LanguageTags$Text", name := "placeOf", desc := "(C)I" } : Jvm.MethodName)) ∈ im_T := im_memT (i := 259) (by decide +kernel) (by decide +kernel)
theorem wd_260 : (Jvm.Cond.selects "LanguageTags$Text" ({ cls := "LanguageTags$Text", name := "placeOf", desc := "(C)I" } : Jvm.MethodName) ({ cls := "LanguageTags$Text", name := "placeOf", desc := "(C)I" } : Jvm.MethodName)) ∈ im_T := im_memT (i := 260) (by decide +kernel) (by decide +kernel)
theorem wd_261 : (Jvm.Cond.code ({ cls := "LanguageTags$Text", name := "placeOf", desc := "(C)I" } : Jvm.MethodName) prog_10_method_8_code (3 : Nat) (Option.some Jvm.ClassFile.FieldType.int)) ∈ im_T := im_memT (i := 261) (by decide +kernel) (by decide +kernel)
theorem wd_262 : (Jvm.Cond.methodLink "LanguageTags" (122 : Nat) ({ cls := "LanguageTags$Subtag", name := "cutOut", desc := "(LLanguageTags$Text;II)J" } : Jvm.MethodName)) ∈ im_T := im_memT (i := 262) (by decide +kernel) (by decide +kernel)
theorem wd_271 : (Jvm.Cond.methodLink "LanguageTags" (126 : Nat) ({ cls := "LanguageTags$Text", name := "length", desc := "()I" } : Jvm.MethodName)) ∈ im_T := im_memT (i := 271) (by decide +kernel) (by decide +kernel)
theorem wd_272 : (Jvm.Cond.instanceMethod ({ cls := "LanguageTags$Text", name := "length", desc := "()I" } : Jvm.MethodName)) ∈ im_T := im_memT (i := 272) (by decide +kernel) (by decide +kernel)
theorem wd_273 : (Jvm.Cond.selects "LanguageTags$Text" ({ cls := "LanguageTags$Text", name := "length", desc := "()I" } : Jvm.MethodName) ({ cls := "LanguageTags$Text", name := "length", desc := "()I" } : Jvm.MethodName)) ∈ im_T := im_memT (i := 273) (by decide +kernel) (by decide +kernel)
theorem wd_274 : (Jvm.Cond.code ({ cls := "LanguageTags$Text", name := "length", desc := "()I" } : Jvm.MethodName) prog_10_method_2_code (1 : Nat) (Option.some Jvm.ClassFile.FieldType.int)) ∈ im_T := im_memT (i := 274) (by decide +kernel) (by decide +kernel)
theorem wd_275 : (Jvm.Cond.methodLink "LanguageTags" (130 : Nat) ({ cls := "LanguageTags", name := "isAliasPart", desc := "(JZ)Z" } : Jvm.MethodName)) ∈ im_T := im_memT (i := 275) (by decide +kernel) (by decide +kernel)
theorem wd_276 : (Jvm.Cond.static ({ cls := "LanguageTags", name := "isAliasPart", desc := "(JZ)Z" } : Jvm.MethodName)) ∈ im_T := im_memT (i := 276) (by decide +kernel) (by decide +kernel)
theorem wd_277 : (Jvm.Cond.code ({ cls := "LanguageTags", name := "isAliasPart", desc := "(JZ)Z" } : Jvm.MethodName) prog_1_method_20_code (3 : Nat) (Option.some Jvm.ClassFile.FieldType.boolean)) ∈ im_T := im_memT (i := 277) (by decide +kernel) (by decide +kernel)
theorem wd_294 : (Jvm.Cond.methodLink "LanguageTags" (134 : Nat) ({ cls := "LanguageTags", name := "formsAreFixed", desc := "()Z" } : Jvm.MethodName)) ∈ im_T := im_memT (i := 294) (by decide +kernel) (by decide +kernel)
theorem wd_296 : (Jvm.Cond.instanceMethod ({ cls := "LanguageTags", name := "formsAreFixed", desc := "()Z" } : Jvm.MethodName)) ∈ im_T := im_memT (i := 296) (by decide +kernel) (by decide +kernel)
theorem wd_297 : (Jvm.Cond.code ({ cls := "LanguageTags", name := "formsAreFixed", desc := "()Z" } : Jvm.MethodName) prog_1_method_21_code (1 : Nat) (Option.some Jvm.ClassFile.FieldType.boolean)) ∈ im_T := im_memT (i := 297) (by decide +kernel) (by decide +kernel)
theorem wd_302 : (Jvm.Cond.methodLink "LanguageTags" (137 : Nat) ({ cls := "LanguageTags$Aliases", name := "isFull", desc := "()Z" } : Jvm.MethodName)) ∈ im_T := im_memT (i := 302) (by decide +kernel) (by decide +kernel)
theorem wd_306 : (Jvm.Cond.methodLink "LanguageTags" (138 : Nat) ({ cls := "LanguageTags$Aliases", name := "indexOf", desc := "(JZ)I" } : Jvm.MethodName)) ∈ im_T := im_memT (i := 306) (by decide +kernel) (by decide +kernel)
theorem wd_310 : (Jvm.Cond.methodLink "LanguageTags" (142 : Nat) ({ cls := "LanguageTags$Aliases", name := "replaced", desc := "(JZ)J" } : Jvm.MethodName)) ∈ im_T := im_memT (i := 310) (by decide +kernel) (by decide +kernel)
theorem wd_315 : (Jvm.Cond.methodLink "LanguageTags" (146 : Nat) ({ cls := "LanguageTags$Aliases", name := "append", desc := "(JJZ)V" } : Jvm.MethodName)) ∈ im_T := im_memT (i := 315) (by decide +kernel) (by decide +kernel)
theorem wd_316 : (Jvm.Cond.instanceMethod ({ cls := "LanguageTags$Aliases", name := "append", desc := "(JJZ)V" } : Jvm.MethodName)) ∈ im_T := im_memT (i := 316) (by decide +kernel) (by decide +kernel)
theorem wd_317 : (Jvm.Cond.selects "LanguageTags$Aliases" ({ cls := "LanguageTags$Aliases", name := "append", desc := "(JJZ)V" } : Jvm.MethodName) ({ cls := "LanguageTags$Aliases", name := "append", desc := "(JJZ)V" } : Jvm.MethodName)) ∈ im_T := im_memT (i := 317) (by decide +kernel) (by decide +kernel)
theorem wd_318 : (Jvm.Cond.code ({ cls := "LanguageTags$Aliases", name := "append", desc := "(JJZ)V" } : Jvm.MethodName) prog_2_method_4_code (6 : Nat) (Option.none : Option Jvm.ClassFile.FieldType)) ∈ im_T := im_memT (i := 318) (by decide +kernel) (by decide +kernel)
theorem wd_320 : (Jvm.Cond.methodLink "LanguageTags" (149 : Nat) ({ cls := "LanguageTags$Aliases", name := "count", desc := "()I" } : Jvm.MethodName)) ∈ im_T := im_memT (i := 320) (by decide +kernel) (by decide +kernel)
theorem wd_321 : (Jvm.Cond.instanceMethod ({ cls := "LanguageTags$Aliases", name := "count", desc := "()I" } : Jvm.MethodName)) ∈ im_T := im_memT (i := 321) (by decide +kernel) (by decide +kernel)
theorem wd_322 : (Jvm.Cond.selects "LanguageTags$Aliases" ({ cls := "LanguageTags$Aliases", name := "count", desc := "()I" } : Jvm.MethodName) ({ cls := "LanguageTags$Aliases", name := "count", desc := "()I" } : Jvm.MethodName)) ∈ im_T := im_memT (i := 322) (by decide +kernel) (by decide +kernel)
theorem wd_323 : (Jvm.Cond.code ({ cls := "LanguageTags$Aliases", name := "count", desc := "()I" } : Jvm.MethodName) prog_2_method_2_code (1 : Nat) (Option.some Jvm.ClassFile.FieldType.int)) ∈ im_T := im_memT (i := 323) (by decide +kernel) (by decide +kernel)
theorem d_LT_alias_0 : decode c_LT_alias 0 = .ok (.aload_n 0, 1) := by decide +kernel
theorem d_LT_alias_1 : decode c_LT_alias 1 = .ok (.getfield 14, 3) := by decide +kernel
theorem d_LT_alias_4 : decode c_LT_alias 4 = .ok (.bipush (61), 2) := by decide +kernel
theorem d_LT_alias_6 : decode c_LT_alias 6 = .ok (.invokevirtual 118, 3) := by decide +kernel
theorem d_LT_alias_9 : decode c_LT_alias 9 = .ok (.istore_n 2, 1) := by decide +kernel
theorem d_LT_alias_10 : decode c_LT_alias 10 = .ok (.iload_n 2, 1) := by decide +kernel
theorem d_LT_alias_11 : decode c_LT_alias 11 = .ok (.ifCond .ge (5), 3) := by decide +kernel
theorem d_LT_alias_14 : decode c_LT_alias 14 = .ok (.iconst (-1), 1) := by decide +kernel
theorem d_LT_alias_15 : decode c_LT_alias 15 = .ok (.ireturn, 1) := by decide +kernel
theorem d_LT_alias_16 : decode c_LT_alias 16 = .ok (.aload_n 0, 1) := by decide +kernel
theorem d_LT_alias_17 : decode c_LT_alias 17 = .ok (.getfield 14, 3) := by decide +kernel
theorem d_LT_alias_20 : decode c_LT_alias 20 = .ok (.iconst 0, 1) := by decide +kernel
theorem d_LT_alias_21 : decode c_LT_alias 21 = .ok (.iload_n 2, 1) := by decide +kernel
theorem d_LT_alias_22 : decode c_LT_alias 22 = .ok (.invokestatic 122, 3) := by decide +kernel
theorem d_LT_alias_25 : decode c_LT_alias 25 = .ok (.lstore_n 3, 1) := by decide +kernel
theorem d_LT_alias_26 : decode c_LT_alias 26 = .ok (.aload_n 0, 1) := by decide +kernel
theorem d_LT_alias_27 : decode c_LT_alias 27 = .ok (.getfield 14, 3) := by decide +kernel
theorem d_LT_alias_30 : decode c_LT_alias 30 = .ok (.iload_n 2, 1) := by decide +kernel
theorem d_LT_alias_31 : decode c_LT_alias 31 = .ok (.iconst 1, 1) := by decide +kernel
theorem d_LT_alias_32 : decode c_LT_alias 32 = .ok (.iadd, 1) := by decide +kernel
theorem d_LT_alias_33 : decode c_LT_alias 33 = .ok (.aload_n 0, 1) := by decide +kernel
theorem d_LT_alias_34 : decode c_LT_alias 34 = .ok (.getfield 14, 3) := by decide +kernel
theorem d_LT_alias_37 : decode c_LT_alias 37 = .ok (.invokevirtual 126, 3) := by decide +kernel
theorem d_LT_alias_40 : decode c_LT_alias 40 = .ok (.invokestatic 122, 3) := by decide +kernel
theorem d_LT_alias_43 : decode c_LT_alias 43 = .ok (.lstore 5, 2) := by decide +kernel
theorem d_LT_alias_45 : decode c_LT_alias 45 = .ok (.lload_n 3, 1) := by decide +kernel
theorem d_LT_alias_46 : decode c_LT_alias 46 = .ok (.iload_n 1, 1) := by decide +kernel
theorem d_LT_alias_47 : decode c_LT_alias 47 = .ok (.invokestatic 130, 3) := by decide +kernel
theorem d_LT_alias_50 : decode c_LT_alias 50 = .ok (.ifCond .eq (19), 3) := by decide +kernel
theorem d_LT_alias_53 : decode c_LT_alias 53 = .ok (.lload 5, 2) := by decide +kernel
theorem d_LT_alias_55 : decode c_LT_alias 55 = .ok (.iload_n 1, 1) := by decide +kernel
theorem d_LT_alias_56 : decode c_LT_alias 56 = .ok (.invokestatic 130, 3) := by decide +kernel
theorem d_LT_alias_59 : decode c_LT_alias 59 = .ok (.ifCond .eq (10), 3) := by decide +kernel
theorem d_LT_alias_62 : decode c_LT_alias 62 = .ok (.lload_n 3, 1) := by decide +kernel
theorem d_LT_alias_63 : decode c_LT_alias 63 = .ok (.lload 5, 2) := by decide +kernel
theorem d_LT_alias_65 : decode c_LT_alias 65 = .ok (.lcmp, 1) := by decide +kernel
theorem d_LT_alias_66 : decode c_LT_alias 66 = .ok (.ifCond .ne (5), 3) := by decide +kernel
theorem d_LT_alias_69 : decode c_LT_alias 69 = .ok (.iconst (-1), 1) := by decide +kernel
theorem d_LT_alias_70 : decode c_LT_alias 70 = .ok (.ireturn, 1) := by decide +kernel
theorem d_LT_alias_71 : decode c_LT_alias 71 = .ok (.aload_n 0, 1) := by decide +kernel
theorem d_LT_alias_72 : decode c_LT_alias 72 = .ok (.invokevirtual 134, 3) := by decide +kernel
theorem d_LT_alias_75 : decode c_LT_alias 75 = .ok (.ifCond .ne (13), 3) := by decide +kernel
theorem d_LT_alias_78 : decode c_LT_alias 78 = .ok (.aload_n 0, 1) := by decide +kernel
theorem d_LT_alias_79 : decode c_LT_alias 79 = .ok (.getfield 31, 3) := by decide +kernel
theorem d_LT_alias_82 : decode c_LT_alias 82 = .ok (.invokevirtual 137, 3) := by decide +kernel
theorem d_LT_alias_85 : decode c_LT_alias 85 = .ok (.ifCond .eq (6), 3) := by decide +kernel
theorem d_LT_alias_88 : decode c_LT_alias 88 = .ok (.bipush (-2), 2) := by decide +kernel
theorem d_LT_alias_90 : decode c_LT_alias 90 = .ok (.ireturn, 1) := by decide +kernel
theorem d_LT_alias_91 : decode c_LT_alias 91 = .ok (.aload_n 0, 1) := by decide +kernel
theorem d_LT_alias_92 : decode c_LT_alias 92 = .ok (.getfield 31, 3) := by decide +kernel
theorem d_LT_alias_95 : decode c_LT_alias 95 = .ok (.lload_n 3, 1) := by decide +kernel
theorem d_LT_alias_96 : decode c_LT_alias 96 = .ok (.iload_n 1, 1) := by decide +kernel
theorem d_LT_alias_97 : decode c_LT_alias 97 = .ok (.invokevirtual 138, 3) := by decide +kernel
theorem d_LT_alias_100 : decode c_LT_alias 100 = .ok (.ifCond .ge (18), 3) := by decide +kernel
theorem d_LT_alias_103 : decode c_LT_alias 103 = .ok (.aload_n 0, 1) := by decide +kernel
theorem d_LT_alias_104 : decode c_LT_alias 104 = .ok (.getfield 31, 3) := by decide +kernel
theorem d_LT_alias_107 : decode c_LT_alias 107 = .ok (.lload 5, 2) := by decide +kernel
theorem d_LT_alias_109 : decode c_LT_alias 109 = .ok (.iload_n 1, 1) := by decide +kernel
theorem d_LT_alias_110 : decode c_LT_alias 110 = .ok (.invokevirtual 142, 3) := by decide +kernel
theorem d_LT_alias_113 : decode c_LT_alias 113 = .ok (.lload_n 3, 1) := by decide +kernel
theorem d_LT_alias_114 : decode c_LT_alias 114 = .ok (.lcmp, 1) := by decide +kernel
theorem d_LT_alias_115 : decode c_LT_alias 115 = .ok (.ifCond .ne (6), 3) := by decide +kernel
theorem d_LT_alias_118 : decode c_LT_alias 118 = .ok (.bipush (-3), 2) := by decide +kernel
theorem d_LT_alias_120 : decode c_LT_alias 120 = .ok (.ireturn, 1) := by decide +kernel
theorem d_LT_alias_121 : decode c_LT_alias 121 = .ok (.aload_n 0, 1) := by decide +kernel
theorem d_LT_alias_122 : decode c_LT_alias 122 = .ok (.getfield 31, 3) := by decide +kernel
theorem d_LT_alias_125 : decode c_LT_alias 125 = .ok (.lload_n 3, 1) := by decide +kernel
theorem d_LT_alias_126 : decode c_LT_alias 126 = .ok (.lload 5, 2) := by decide +kernel
theorem d_LT_alias_128 : decode c_LT_alias 128 = .ok (.iload_n 1, 1) := by decide +kernel
theorem d_LT_alias_129 : decode c_LT_alias 129 = .ok (.invokevirtual 146, 3) := by decide +kernel
theorem d_LT_alias_132 : decode c_LT_alias 132 = .ok (.aload_n 0, 1) := by decide +kernel
theorem d_LT_alias_133 : decode c_LT_alias 133 = .ok (.getfield 14, 3) := by decide +kernel
theorem d_LT_alias_136 : decode c_LT_alias 136 = .ok (.invokevirtual 115, 3) := by decide +kernel
theorem d_LT_alias_139 : decode c_LT_alias 139 = .ok (.aload_n 0, 1) := by decide +kernel
theorem d_LT_alias_140 : decode c_LT_alias 140 = .ok (.getfield 31, 3) := by decide +kernel
theorem d_LT_alias_143 : decode c_LT_alias 143 = .ok (.invokevirtual 149, 3) := by decide +kernel
theorem d_LT_alias_146 : decode c_LT_alias 146 = .ok (.ireturn, 1) := by decide +kernel
def sh_LT_alias_69 (F : Nat)  (w : im_W) : Option (Int32 × im_W) :=
  some ((-1 : Int32), w)
set_option maxHeartbeats 4000000 in
set_option maxRecDepth 100000 in
theorem bk_LT_alias_69 {F : Nat} {r : Int32 × im_W} (X : im_X D vwCl tA lo im_NW c_LT_alias 7 (some .int) RC_LT im_T p s m args meth c)  (w : im_W) (hsh : sh_LT_alias_69 F w = some r) : im_WW D vwCl tA lo 7 p l e (im_rm 4 89) s m args below meth c 0 0 (MQ below (im_Post D vwCl tA lo (some (.int r.1)) r.2) args s 0 0 (fun q => lo ≤ q)) 69 [] [] w := by
  obtain ⟨hx, hb, hr, hts, hown, hlk, hml, hK, hN⟩ := id X
  intro H locs ls hH hl
  unfold sh_LT_alias_69 at hsh
  refine lv_iconst (v := -1) hx hb d_LT_alias_69 (by decide) ?_
  obtain rfl := Option.some.inj hsh
  exact im_iret hx hb hr hlk hH d_LT_alias_70
def sh_LT_alias_88 (F : Nat)  (w : im_W) : Option (Int32 × im_W) :=
  some ((-2 : Int32), w)
set_option maxHeartbeats 4000000 in
set_option maxRecDepth 100000 in
theorem bk_LT_alias_88 {F : Nat} {r : Int32 × im_W} (X : im_X D vwCl tA lo im_NW c_LT_alias 7 (some .int) RC_LT im_T p s m args meth c)  (w : im_W) (hsh : sh_LT_alias_88 F w = some r) : im_WW D vwCl tA lo 7 p l e (im_rm 4 89) s m args below meth c 0 0 (MQ below (im_Post D vwCl tA lo (some (.int r.1)) r.2) args s 0 0 (fun q => lo ≤ q)) 88 [] [] w := by
  obtain ⟨hx, hb, hr, hts, hown, hlk, hml, hK, hN⟩ := id X
  intro H locs ls hH hl
  unfold sh_LT_alias_88 at hsh
  refine lv_bipush (v := -2) hx hb d_LT_alias_88 (by decide) ?_
  obtain rfl := Option.some.inj hsh
  exact im_iret hx hb hr hlk hH d_LT_alias_90
def sh_LT_alias_118 (F : Nat)  (w : im_W) : Option (Int32 × im_W) :=
  some ((-3 : Int32), w)
set_option maxHeartbeats 4000000 in
set_option maxRecDepth 100000 in
theorem bk_LT_alias_118 {F : Nat} {r : Int32 × im_W} (X : im_X D vwCl tA lo im_NW c_LT_alias 7 (some .int) RC_LT im_T p s m args meth c)  (w : im_W) (hsh : sh_LT_alias_118 F w = some r) : im_WW D vwCl tA lo 7 p l e (im_rm 4 89) s m args below meth c 0 0 (MQ below (im_Post D vwCl tA lo (some (.int r.1)) r.2) args s 0 0 (fun q => lo ≤ q)) 118 [] [] w := by
  obtain ⟨hx, hb, hr, hts, hown, hlk, hml, hK, hN⟩ := id X
  intro H locs ls hH hl
  unfold sh_LT_alias_118 at hsh
  refine lv_bipush (v := -3) hx hb d_LT_alias_118 (by decide) ?_
  obtain rfl := Option.some.inj hsh
  exact im_iret hx hb hr hlk hH d_LT_alias_120
def sh_LT_alias (F : Nat) (x0 : Nat) (x1 : Int32) (w : im_W) : Option (Int32 × im_W) :=
  (im_gR w 8 x0 0).bind fun f1 => (im_is w 7 f1).bind fun u3 => im_b2 (sh_Text_placeOf F f1 (61 : Int32) w) fun v9 w7 => (if 0 ≤ v9 then (im_gR w7 8 x0 0).bind fun f10 => im_b2 (sh_Subtag_cutOut F f10 (0 : Int32) v9 w7) fun v14 w12 => (im_gR w12 8 x0 0).bind fun f15 => (im_gR w12 8 x0 0).bind fun f17 => (im_is w12 7 f17).bind fun u19 => im_b2 (sh_Text_length F f17 w12) fun v25 w23 => im_b2 (sh_Subtag_cutOut F f15 (v9 + (1 : Int32)) v25 w23) fun v28 w26 => im_b2 (sh_LT_isAliasPart F v14 x1 w26) fun v31 w29 => (if v31 = 0 then sh_LT_alias_69 F w29 else im_b2 (sh_LT_isAliasPart F v28 x1 w29) fun v34 w32 => (if v34 = 0 then sh_LT_alias_69 F w32 else (if (lg_cmp v14 v28) = 0 then sh_LT_alias_69 F w32 else (im_is w32 8 x0).bind fun u35 => im_b2 (sh_LT_formsAreFixed F x0 w32) fun v41 w39 => (if v41 = 0 then (im_gR w39 8 x0 3).bind fun f42 => (im_is w39 0 f42).bind fun u44 => im_b2 (sh_Aliases_isFull F f42 w39) fun v50 w48 => (if v50 = 0 then (im_gR w48 8 x0 3).bind fun f51 => (im_is w48 0 f51).bind fun u53 => im_b2 (sh_Aliases_indexOf F f51 v14 x1 w48) fun v59 w57 => (if 0 ≤ v59 then sh_LT_alias_118 F w57 else (im_gR w57 8 x0 3).bind fun f60 => (im_is w57 0 f60).bind fun u62 => im_b2 (sh_Aliases_replaced F f60 v28 x1 w57) fun v68 w66 => (if (lg_cmp v68 v14) = 0 then sh_LT_alias_118 F w66 else (im_gR w66 8 x0 3).bind fun f69 => (im_is w66 0 f69).bind fun u71 => (sh_Aliases_append F f69 v14 v28 x1 w66).bind fun w75 => (im_gR w75 8 x0 0).bind fun f77 => (im_is w75 7 f77).bind fun u79 => (sh_Text_clear F f77 w75).bind fun w83 => (im_gR w83 8 x0 3).bind fun f85 => (im_is w83 0 f85).bind fun u87 => im_b2 (sh_Aliases_count F f85 w83) fun v93 w91 => some (v93, w91))) else sh_LT_alias_88 F w48) else sh_LT_alias_88 F w39)))) else some ((-1 : Int32), w7))
set_option maxHeartbeats 4000000 in
set_option maxRecDepth 100000 in
theorem met_LT_alias {F : Nat} {x0 : Nat} {x1 : Int32} {w : im_W} {r : Int32 × im_W} (hsh : sh_LT_alias F x0 x1 w = some r) : Met l y_LT_alias (Cond.code y_LT_alias c_LT_alias 7 (some .int) :: im_T) (im_rm 4 89) (im_Pre D vwCl tA lo im_NW [.ref (lo + x0), .int x1] w) (im_Post D vwCl tA lo (some (.int r.1)) r.2) 0 0 (fun q => lo ≤ q) := by
  refine im_ofW (cc := c_LT_alias) (nL := 7) (ret := (some .int)) (by decide) (Nat.le_of_ble_eq_true rfl) ?_
  intro p e s m args below meth c X H locs ls hH hl
  obtain ⟨hx, hb, hr, hts, hown, hlk, hml, hK, hN⟩ := id X
  have hl : lv_has ls 7 [(0, .ref (lo + x0)), (1, .int x1)] := hl
  unfold sh_LT_alias at hsh
  refine lv_aload_n hx hb d_LT_alias_0 rfl (lv_at hl 0 rfl) ?_
  obtain ⟨f1, h2, hsh⟩ := im_bd hsh
  refine im_getR hx hb hts inC_LT hown hK hH (ci := 8) rfl 0 (by decide) (hts _ wd_175) rfl h2 d_LT_alias_1 ?_
  refine lv_bipush (v := 61) hx hb d_LT_alias_4 (by decide) ?_
  obtain ⟨u3, h4, hsh⟩ := im_bd hsh
  obtain ⟨g5, h6⟩ := im_is_s h4
  obtain ⟨v9, w7, h8, hsh⟩ := im_bd2 hsh
  refine im_afterI (va_runV (As := [.int (61 : Int32)]) (rest := []) (C := RC_Text) ⟨hx, hb, hml, hown, hts⟩ (met_Text_placeOf h8) ⟨(callB_of 1 hts (im_good wd_261) rfl rfl rfl (hts _ wd_2) (hts _ wd_258) (by decide +kernel) ⟨Nat.le_of_ble_eq_true rfl, Nat.le_of_ble_eq_true rfl⟩), hts _ wd_259, hts _ wd_260⟩ (im_preV im_NW_ok hK hN hH (ci := 7) rfl rfl h6 _) rfl rfl hl.1 rfl (lv_room (Nat.le_of_ble_eq_true rfl)) d_LT_alias_6 ⟨Nat.le_of_ble_eq_true rfl, Nat.le_of_ble_eq_true rfl⟩) hH (fun H locs hH => ?_)
  refine lv_istore_n (lv' := [(2, .int v9), (0, .ref (lo + x0)), (1, .int x1)]) hx hb d_LT_alias_9 rfl hl (by decide) rfl (fun ls hl => ?_)
  refine lv_iload_n hx hb d_LT_alias_10 rfl (lv_at hl 0 rfl) ?_
  refine lv_if_ge (tgt := 16) hx hb d_LT_alias_11 (by decide) (fun cc => ?_) (fun cc => ?_)
  · have hsh := im_it hsh cc
    refine lv_aload_n hx hb d_LT_alias_16 rfl (lv_at hl 1 rfl) ?_
    obtain ⟨f10, h11, hsh⟩ := im_bd hsh
    refine im_getR hx hb hts inC_LT hown hK hH (ci := 8) rfl 0 (by decide) (hts _ wd_175) rfl h11 d_LT_alias_17 ?_
    refine lv_iconst (v := 0) hx hb d_LT_alias_20 (by decide) ?_
    refine lv_iload_n hx hb d_LT_alias_21 rfl (lv_at hl 0 rfl) ?_
    obtain ⟨v14, w12, h13, hsh⟩ := im_bd2 hsh
    refine im_afterL (va_runS (As := [.ref (lo + f10), .int (0 : Int32), .int v9]) (rest := []) ⟨hx, hb, hml, hown, hts⟩ (met_Subtag_cutOut h13) ⟨(callB_of 3 hts (im_good wd_264) rfl rfl rfl (hts _ wd_11) (hts _ wd_262) (by decide +kernel) ⟨Nat.le_of_ble_eq_true rfl, Nat.le_of_ble_eq_true rfl⟩), hts _ wd_263⟩ (im_pre im_NW_ok hK hN hH _) rfl rfl hl.1 rfl (lv_room (Nat.le_of_ble_eq_true rfl)) d_LT_alias_22 ⟨Nat.le_of_ble_eq_true rfl, Nat.le_of_ble_eq_true rfl⟩) hH (fun H locs hH => ?_)
    refine lv_lstore_n (lv' := [(3, .long v14), (2, .int v9), (0, .ref (lo + x0)), (1, .int x1)]) hx hb d_LT_alias_25 rfl hl (by decide) rfl (fun ls hl => ?_)
    refine lv_aload_n hx hb d_LT_alias_26 rfl (lv_at hl 2 rfl) ?_
    obtain ⟨f15, h16, hsh⟩ := im_bd hsh
    refine im_getR hx hb hts inC_LT hown hK hH (ci := 8) rfl 0 (by decide) (hts _ wd_175) rfl h16 d_LT_alias_27 ?_
    refine lv_iload_n hx hb d_LT_alias_30 rfl (lv_at hl 1 rfl) ?_
    refine lv_iconst (v := 1) hx hb d_LT_alias_31 (by decide) ?_
    refine lv_iadd hx hb d_LT_alias_32 ?_
    refine lv_aload_n hx hb d_LT_alias_33 rfl (lv_at hl 2 rfl) ?_
    obtain ⟨f17, h18, hsh⟩ := im_bd hsh
    refine im_getR hx hb hts inC_LT hown hK hH (ci := 8) rfl 0 (by decide) (hts _ wd_175) rfl h18 d_LT_alias_34 ?_
    obtain ⟨u19, h20, hsh⟩ := im_bd hsh
    obtain ⟨g21, h22⟩ := im_is_s h20
    obtain ⟨v25, w23, h24, hsh⟩ := im_bd2 hsh
    refine im_afterI (va_runV (As := []) (rest := [.int (v9 + (1 : Int32)), .ref (lo + f15)]) (C := RC_Text) ⟨hx, hb, hml, hown, hts⟩ (met_Text_length h24) ⟨(callB_of 0 hts (im_good wd_274) rfl rfl rfl (hts _ wd_2) (hts _ wd_271) (by decide +kernel) ⟨Nat.le_of_ble_eq_true rfl, Nat.le_of_ble_eq_true rfl⟩), hts _ wd_272, hts _ wd_273⟩ (im_preV im_NW_ok hK hN hH (ci := 7) rfl rfl h22 _) rfl rfl hl.1 rfl (lv_room (Nat.le_of_ble_eq_true rfl)) d_LT_alias_37 ⟨Nat.le_of_ble_eq_true rfl, Nat.le_of_ble_eq_true rfl⟩) hH (fun H locs hH => ?_)
    obtain ⟨v28, w26, h27, hsh⟩ := im_bd2 hsh
    refine im_afterL (va_runS (As := [.ref (lo + f15), .int (v9 + (1 : Int32)), .int v25]) (rest := []) ⟨hx, hb, hml, hown, hts⟩ (met_Subtag_cutOut h27) ⟨(callB_of 3 hts (im_good wd_264) rfl rfl rfl (hts _ wd_11) (hts _ wd_262) (by decide +kernel) ⟨Nat.le_of_ble_eq_true rfl, Nat.le_of_ble_eq_true rfl⟩), hts _ wd_263⟩ (im_pre im_NW_ok hK hN hH _) rfl rfl hl.1 rfl (lv_room (Nat.le_of_ble_eq_true rfl)) d_LT_alias_40 ⟨Nat.le_of_ble_eq_true rfl, Nat.le_of_ble_eq_true rfl⟩) hH (fun H locs hH => ?_)
    refine lv_lstore (lv' := [(5, .long v28), (3, .long v14), (2, .int v9), (0, .ref (lo + x0)), (1, .int x1)]) hx hb d_LT_alias_43 hl (by decide) rfl (fun ls hl => ?_)
    refine lv_lload_n hx hb d_LT_alias_45 rfl (lv_at hl 1 rfl) ?_
    refine lv_iload_n hx hb d_LT_alias_46 rfl (lv_at hl 4 rfl) ?_
    obtain ⟨v31, w29, h30, hsh⟩ := im_bd2 hsh
    refine im_afterI (va_runS (As := [.long v14, .int x1]) (rest := []) ⟨hx, hb, hml, hown, hts⟩ (met_LT_isAliasPart h30) ⟨(callB_of 2 hts (im_good wd_277) rfl rfl rfl (hts _ wd_1) (hts _ wd_275) (by decide +kernel) ⟨Nat.le_of_ble_eq_true rfl, Nat.le_of_ble_eq_true rfl⟩), hts _ wd_276⟩ (im_pre im_NW_ok hK hN hH _) rfl rfl hl.1 rfl (lv_room (Nat.le_of_ble_eq_true rfl)) d_LT_alias_47 ⟨Nat.le_of_ble_eq_true rfl, Nat.le_of_ble_eq_true rfl⟩) hH (fun H locs hH => ?_)
    refine lv_if_eq (tgt := 69) hx hb d_LT_alias_50 (by decide) (fun cc => ?_) (fun cc => ?_)
    · have hsh := im_it hsh cc
      exact bk_LT_alias_69 X w29 hsh H locs ls hH (lv_sub hl [] rfl)
    · have hsh := im_if hsh cc
      refine lv_lload hx hb d_LT_alias_53 (lv_at hl 0 rfl) ?_
      refine lv_iload_n hx hb d_LT_alias_55 rfl (lv_at hl 4 rfl) ?_
      obtain ⟨v34, w32, h33, hsh⟩ := im_bd2 hsh
      refine im_afterI (va_runS (As := [.long v28, .int x1]) (rest := []) ⟨hx, hb, hml, hown, hts⟩ (met_LT_isAliasPart h33) ⟨(callB_of 2 hts (im_good wd_277) rfl rfl rfl (hts _ wd_1) (hts _ wd_275) (by decide +kernel) ⟨Nat.le_of_ble_eq_true rfl, Nat.le_of_ble_eq_true rfl⟩), hts _ wd_276⟩ (im_pre im_NW_ok hK hN hH _) rfl rfl hl.1 rfl (lv_room (Nat.le_of_ble_eq_true rfl)) d_LT_alias_56 ⟨Nat.le_of_ble_eq_true rfl, Nat.le_of_ble_eq_true rfl⟩) hH (fun H locs hH => ?_)
      refine lv_if_eq (tgt := 69) hx hb d_LT_alias_59 (by decide) (fun cc => ?_) (fun cc => ?_)
      · have hsh := im_it hsh cc
        exact bk_LT_alias_69 X w32 hsh H locs ls hH (lv_sub hl [] rfl)
      · have hsh := im_if hsh cc
        refine lv_lload_n hx hb d_LT_alias_62 rfl (lv_at hl 1 rfl) ?_
        refine lv_lload hx hb d_LT_alias_63 (lv_at hl 0 rfl) ?_
        refine W.lcmp hx hb d_LT_alias_65 ?_
        refine lv_if_ne (tgt := 71) hx hb d_LT_alias_66 (by decide) (fun cc => ?_) (fun cc => ?_)
        · have hsh := im_if hsh cc
          refine lv_aload_n hx hb d_LT_alias_71 rfl (lv_at hl 3 rfl) ?_
          obtain ⟨u35, h36, hsh⟩ := im_bd hsh
          obtain ⟨g37, h38⟩ := im_is_s h36
          obtain ⟨v41, w39, h40, hsh⟩ := im_bd2 hsh
          refine im_afterI (va_runV (As := []) (rest := []) (C := RC_LT) ⟨hx, hb, hml, hown, hts⟩ (met_LT_formsAreFixed h40) ⟨(callB_of 0 hts (im_good wd_297) rfl rfl rfl (hts _ wd_1) (hts _ wd_294) (by decide +kernel) ⟨Nat.le_of_ble_eq_true rfl, Nat.le_of_ble_eq_true rfl⟩), hts _ wd_296, hts _ sl_LT_formsAreFixed⟩ (im_preV im_NW_ok hK hN hH (ci := 8) rfl rfl h38 _) rfl rfl hl.1 rfl (lv_room (Nat.le_of_ble_eq_true rfl)) d_LT_alias_72 ⟨Nat.le_of_ble_eq_true rfl, Nat.le_of_ble_eq_true rfl⟩) hH (fun H locs hH => ?_)
          refine lv_if_ne (tgt := 88) hx hb d_LT_alias_75 (by decide) (fun cc => ?_) (fun cc => ?_)
          · have hsh := im_if hsh cc
            exact bk_LT_alias_88 X w39 hsh H locs ls hH (lv_sub hl [] rfl)
          · have hsh := im_it hsh cc
            refine lv_aload_n hx hb d_LT_alias_78 rfl (lv_at hl 3 rfl) ?_
            obtain ⟨f42, h43, hsh⟩ := im_bd hsh
            refine im_getR hx hb hts inC_LT hown hK hH (ci := 8) rfl 3 (by decide) (hts _ wd_178) rfl h43 d_LT_alias_79 ?_
            obtain ⟨u44, h45, hsh⟩ := im_bd hsh
            obtain ⟨g46, h47⟩ := im_is_s h45
            obtain ⟨v50, w48, h49, hsh⟩ := im_bd2 hsh
            refine im_afterI (va_runV (As := []) (rest := []) (C := RC_Aliases) ⟨hx, hb, hml, hown, hts⟩ (met_Aliases_isFull h49) ⟨(callB_of 0 hts (im_good wd_305) rfl rfl rfl (hts _ wd_4) (hts _ wd_302) (by decide +kernel) ⟨Nat.le_of_ble_eq_true rfl, Nat.le_of_ble_eq_true rfl⟩), hts _ wd_303, hts _ wd_304⟩ (im_preV im_NW_ok hK hN hH (ci := 0) rfl rfl h47 _) rfl rfl hl.1 rfl (lv_room (Nat.le_of_ble_eq_true rfl)) d_LT_alias_82 ⟨Nat.le_of_ble_eq_true rfl, Nat.le_of_ble_eq_true rfl⟩) hH (fun H locs hH => ?_)
            refine lv_if_eq (tgt := 91) hx hb d_LT_alias_85 (by decide) (fun cc => ?_) (fun cc => ?_)
            · have hsh := im_it hsh cc
              refine lv_aload_n hx hb d_LT_alias_91 rfl (lv_at hl 3 rfl) ?_
              obtain ⟨f51, h52, hsh⟩ := im_bd hsh
              refine im_getR hx hb hts inC_LT hown hK hH (ci := 8) rfl 3 (by decide) (hts _ wd_178) rfl h52 d_LT_alias_92 ?_
              refine lv_lload_n hx hb d_LT_alias_95 rfl (lv_at hl 1 rfl) ?_
              refine lv_iload_n hx hb d_LT_alias_96 rfl (lv_at hl 4 rfl) ?_
              obtain ⟨u53, h54, hsh⟩ := im_bd hsh
              obtain ⟨g55, h56⟩ := im_is_s h54
              obtain ⟨v59, w57, h58, hsh⟩ := im_bd2 hsh
              refine im_afterI (va_runV (As := [.long v14, .int x1]) (rest := []) (C := RC_Aliases) ⟨hx, hb, hml, hown, hts⟩ (met_Aliases_indexOf h58) ⟨(callB_of 2 hts (im_good wd_309) rfl rfl rfl (hts _ wd_4) (hts _ wd_306) (by decide +kernel) ⟨Nat.le_of_ble_eq_true rfl, Nat.le_of_ble_eq_true rfl⟩), hts _ wd_307, hts _ wd_308⟩ (im_preV im_NW_ok hK hN hH (ci := 0) rfl rfl h56 _) rfl rfl hl.1 rfl (lv_room (Nat.le_of_ble_eq_true rfl)) d_LT_alias_97 ⟨Nat.le_of_ble_eq_true rfl, Nat.le_of_ble_eq_true rfl⟩) hH (fun H locs hH => ?_)
              refine lv_if_ge (tgt := 118) hx hb d_LT_alias_100 (by decide) (fun cc => ?_) (fun cc => ?_)
              · have hsh := im_it hsh cc
                exact bk_LT_alias_118 X w57 hsh H locs ls hH (lv_sub hl [] rfl)
              · have hsh := im_if hsh cc
                refine lv_aload_n hx hb d_LT_alias_103 rfl (lv_at hl 3 rfl) ?_
                obtain ⟨f60, h61, hsh⟩ := im_bd hsh
                refine im_getR hx hb hts inC_LT hown hK hH (ci := 8) rfl 3 (by decide) (hts _ wd_178) rfl h61 d_LT_alias_104 ?_
                refine lv_lload hx hb d_LT_alias_107 (lv_at hl 0 rfl) ?_
                refine lv_iload_n hx hb d_LT_alias_109 rfl (lv_at hl 4 rfl) ?_
                obtain ⟨u62, h63, hsh⟩ := im_bd hsh
                obtain ⟨g64, h65⟩ := im_is_s h63
                obtain ⟨v68, w66, h67, hsh⟩ := im_bd2 hsh
                refine im_afterL (va_runV (As := [.long v28, .int x1]) (rest := []) (C := RC_Aliases) ⟨hx, hb, hml, hown, hts⟩ (met_Aliases_replaced h67) ⟨(callB_of 2 hts (im_good wd_313) rfl rfl rfl (hts _ wd_4) (hts _ wd_310) (by decide +kernel) ⟨Nat.le_of_ble_eq_true rfl, Nat.le_of_ble_eq_true rfl⟩), hts _ wd_311, hts _ wd_312⟩ (im_preV im_NW_ok hK hN hH (ci := 0) rfl rfl h65 _) rfl rfl hl.1 rfl (lv_room (Nat.le_of_ble_eq_true rfl)) d_LT_alias_110 ⟨Nat.le_of_ble_eq_true rfl, Nat.le_of_ble_eq_true rfl⟩) hH (fun H locs hH => ?_)
                refine lv_lload_n hx hb d_LT_alias_113 rfl (lv_at hl 1 rfl) ?_
                refine W.lcmp hx hb d_LT_alias_114 ?_
                refine lv_if_ne (tgt := 121) hx hb d_LT_alias_115 (by decide) (fun cc => ?_) (fun cc => ?_)
                · have hsh := im_if hsh cc
                  refine lv_aload_n hx hb d_LT_alias_121 rfl (lv_at hl 3 rfl) ?_
                  obtain ⟨f69, h70, hsh⟩ := im_bd hsh
                  refine im_getR hx hb hts inC_LT hown hK hH (ci := 8) rfl 3 (by decide) (hts _ wd_178) rfl h70 d_LT_alias_122 ?_
                  refine lv_lload_n hx hb d_LT_alias_125 rfl (lv_at hl 1 rfl) ?_
                  refine lv_lload hx hb d_LT_alias_126 (lv_at hl 0 rfl) ?_
                  refine lv_iload_n hx hb d_LT_alias_128 rfl (lv_at hl 4 rfl) ?_
                  obtain ⟨u71, h72, hsh⟩ := im_bd hsh
                  obtain ⟨g73, h74⟩ := im_is_s h72
                  obtain ⟨w75, h76, hsh⟩ := im_bd hsh
                  refine im_afterV (va_runV (As := [.long v14, .long v28, .int x1]) (rest := []) (C := RC_Aliases) ⟨hx, hb, hml, hown, hts⟩ (met_Aliases_append h76) ⟨(callB_of 3 hts (im_good wd_318) rfl rfl rfl (hts _ wd_4) (hts _ wd_315) (by decide +kernel) ⟨Nat.le_of_ble_eq_true rfl, Nat.le_of_ble_eq_true rfl⟩), hts _ wd_316, hts _ wd_317⟩ (im_preV im_NW_ok hK hN hH (ci := 0) rfl rfl h74 _) rfl rfl hl.1 rfl (lv_room (Nat.le_of_ble_eq_true rfl)) d_LT_alias_129 ⟨Nat.le_of_ble_eq_true rfl, Nat.le_of_ble_eq_true rfl⟩) hH (fun H locs hH => ?_)
                  refine lv_aload_n hx hb d_LT_alias_132 rfl (lv_at hl 3 rfl) ?_
                  obtain ⟨f77, h78, hsh⟩ := im_bd hsh
                  refine im_getR hx hb hts inC_LT hown hK hH (ci := 8) rfl 0 (by decide) (hts _ wd_175) rfl h78 d_LT_alias_133 ?_
                  obtain ⟨u79, h80, hsh⟩ := im_bd hsh
                  obtain ⟨g81, h82⟩ := im_is_s h80
                  obtain ⟨w83, h84, hsh⟩ := im_bd hsh
                  refine im_afterV (va_runV (As := []) (rest := []) (C := RC_Text) ⟨hx, hb, hml, hown, hts⟩ (met_Text_clear h84) ⟨(callB_of 0 hts (im_good wd_253) rfl rfl rfl (hts _ wd_2) (hts _ wd_250) (by decide +kernel) ⟨Nat.le_of_ble_eq_true rfl, Nat.le_of_ble_eq_true rfl⟩), hts _ wd_251, hts _ wd_252⟩ (im_preV im_NW_ok hK hN hH (ci := 7) rfl rfl h82 _) rfl rfl hl.1 rfl (lv_room (Nat.le_of_ble_eq_true rfl)) d_LT_alias_136 ⟨Nat.le_of_ble_eq_true rfl, Nat.le_of_ble_eq_true rfl⟩) hH (fun H locs hH => ?_)
                  refine lv_aload_n hx hb d_LT_alias_139 rfl (lv_at hl 3 rfl) ?_
                  obtain ⟨f85, h86, hsh⟩ := im_bd hsh
                  refine im_getR hx hb hts inC_LT hown hK hH (ci := 8) rfl 3 (by decide) (hts _ wd_178) rfl h86 d_LT_alias_140 ?_
                  obtain ⟨u87, h88, hsh⟩ := im_bd hsh
                  obtain ⟨g89, h90⟩ := im_is_s h88
                  obtain ⟨v93, w91, h92, hsh⟩ := im_bd2 hsh
                  refine im_afterI (va_runV (As := []) (rest := []) (C := RC_Aliases) ⟨hx, hb, hml, hown, hts⟩ (met_Aliases_count h92) ⟨(callB_of 0 hts (im_good wd_323) rfl rfl rfl (hts _ wd_4) (hts _ wd_320) (by decide +kernel) ⟨Nat.le_of_ble_eq_true rfl, Nat.le_of_ble_eq_true rfl⟩), hts _ wd_321, hts _ wd_322⟩ (im_preV im_NW_ok hK hN hH (ci := 0) rfl rfl h90 _) rfl rfl hl.1 rfl (lv_room (Nat.le_of_ble_eq_true rfl)) d_LT_alias_143 ⟨Nat.le_of_ble_eq_true rfl, Nat.le_of_ble_eq_true rfl⟩) hH (fun H locs hH => ?_)
                  obtain rfl := Option.some.inj hsh
                  exact im_iret hx hb hr hlk hH d_LT_alias_146
                · have hsh := im_it hsh cc
                  exact bk_LT_alias_118 X w66 hsh H locs ls hH (lv_sub hl [] rfl)
            · have hsh := im_if hsh cc
              exact bk_LT_alias_88 X w48 hsh H locs ls hH (lv_sub hl [] rfl)
        · have hsh := im_it hsh cc
          exact bk_LT_alias_69 X w32 hsh H locs ls hH (lv_sub hl [] rfl)
  · have hsh := im_if hsh cc
    refine lv_iconst (v := -1) hx hb d_LT_alias_14 (by decide) ?_
    obtain rfl := Option.some.inj hsh
    exact im_iret hx hb hr hlk hH d_LT_alias_15
theorem wd_182 : (Jvm.Cond.fieldLink "LanguageTags" (56 : Nat) "LanguageTags" "known" "[LLanguageTags$Tag;") ∈ im_T := im_memT (i := 182) (by decide +kernel) (by decide +kernel)
theorem wd_430 : (Jvm.Cond.methodLink "LanguageTags" (176 : Nat) ({ cls := "LanguageTags$Form", name := "isStartOf", desc := "(LLanguageTags$Form;I)Z" } : Jvm.MethodName)) ∈ im_T := im_memT (i := 430) (by decide +kernel) (by decide +kernel)
theorem d_LT_tagWithForm_0 : decode c_LT_tagWithForm 0 = .ok (.iconst 0, 1) := by decide +kernel
theorem d_LT_tagWithForm_1 : decode c_LT_tagWithForm 1 = .ok (.istore_n 3, 1) := by decide +kernel
theorem d_LT_tagWithForm_2 : decode c_LT_tagWithForm 2 = .ok (.iload_n 3, 1) := by decide +kernel
theorem d_LT_tagWithForm_3 : decode c_LT_tagWithForm 3 = .ok (.aload_n 0, 1) := by decide +kernel
theorem d_LT_tagWithForm_4 : decode c_LT_tagWithForm 4 = .ok (.getfield 85, 3) := by decide +kernel
theorem d_LT_tagWithForm_7 : decode c_LT_tagWithForm 7 = .ok (.if_icmp .ge (28), 3) := by decide +kernel
theorem d_LT_tagWithForm_10 : decode c_LT_tagWithForm 10 = .ok (.aload_n 0, 1) := by decide +kernel
theorem d_LT_tagWithForm_11 : decode c_LT_tagWithForm 11 = .ok (.getfield 56, 3) := by decide +kernel
theorem d_LT_tagWithForm_14 : decode c_LT_tagWithForm 14 = .ok (.iload_n 3, 1) := by decide +kernel
theorem d_LT_tagWithForm_15 : decode c_LT_tagWithForm 15 = .ok (.aaload, 1) := by decide +kernel
theorem d_LT_tagWithForm_16 : decode c_LT_tagWithForm 16 = .ok (.getfield 165, 3) := by decide +kernel
theorem d_LT_tagWithForm_19 : decode c_LT_tagWithForm 19 = .ok (.aload_n 1, 1) := by decide +kernel
theorem d_LT_tagWithForm_20 : decode c_LT_tagWithForm 20 = .ok (.iload_n 2, 1) := by decide +kernel
theorem d_LT_tagWithForm_21 : decode c_LT_tagWithForm 21 = .ok (.invokevirtual 176, 3) := by decide +kernel
theorem d_LT_tagWithForm_24 : decode c_LT_tagWithForm 24 = .ok (.ifCond .eq (5), 3) := by decide +kernel
theorem d_LT_tagWithForm_27 : decode c_LT_tagWithForm 27 = .ok (.iload_n 3, 1) := by decide +kernel
theorem d_LT_tagWithForm_28 : decode c_LT_tagWithForm 28 = .ok (.ireturn, 1) := by decide +kernel
theorem d_LT_tagWithForm_29 : decode c_LT_tagWithForm 29 = .ok (.iinc 3 (1), 3) := by decide +kernel
theorem d_LT_tagWithForm_32 : decode c_LT_tagWithForm 32 = .ok (.goto (-30), 3) := by decide +kernel
theorem d_LT_tagWithForm_35 : decode c_LT_tagWithForm 35 = .ok (.iconst (-1), 1) := by decide +kernel
theorem d_LT_tagWithForm_36 : decode c_LT_tagWithForm 36 = .ok (.ireturn, 1) := by decide +kernel
def sh_LT_tagWithForm_2 (F : Nat) : Nat → Nat → Nat → Int32 → Int32 → im_W → Option (Int32 × im_W)
  | 0, _, _, _, _, _ => none
  | f + 1, x0, x1, x2, x3, w => (im_gI w 8 x0 13).bind fun f1 => (if f1 ≤ x3 then some ((-1 : Int32), w) else (im_gR w 8 x0 7).bind fun f3 => (im_lR w 4 f3 x3).bind fun e5 => (im_gR w 6 e5 0).bind fun f7 => (im_is w 2 f7).bind fun u9 => im_b2 (sh_Form_isStartOf F f7 x1 x2 w) fun v15 w13 => (if v15 = 0 then (sh_LT_tagWithForm_2 F f) x0 x1 x2 (x3 + (1 : Int32)) w13 else some (x3, w13)))
set_option maxHeartbeats 4000000 in
set_option maxRecDepth 100000 in
theorem bk_LT_tagWithForm_2 {F : Nat} {r : Int32 × im_W} (X : im_X D vwCl tA lo im_NW c_LT_tagWithForm 4 (some .int) RC_LT im_T p s m args meth c) : ∀ (f : Nat) (x0 : Nat) (x1 : Nat) (x2 : Int32) (x3 : Int32) (w : im_W), sh_LT_tagWithForm_2 F f x0 x1 x2 x3 w = some r → im_WW D vwCl tA lo 4 p l e (im_rm 2 44) s m args below meth c 0 0 (MQ below (im_Post D vwCl tA lo (some (.int r.1)) r.2) args s 0 0 (fun q => lo ≤ q)) 2 [(0, .ref (lo + x0)), (1, .ref (lo + x1)), (2, .int x2), (3, .int x3)] [] w := by
  obtain ⟨hx, hb, hr, hts, hown, hlk, hml, hK, hN⟩ := id X
  intro f
  induction f with
  | zero =>
    intro x0 x1 x2 x3 w hsh
    cases hsh
  | succ f ih =>
    intro x0 x1 x2 x3 w hsh H locs ls hH hl
    unfold sh_LT_tagWithForm_2 at hsh
    refine lv_iload_n hx hb d_LT_tagWithForm_2 rfl (lv_at hl 3 rfl) ?_
    refine lv_aload_n hx hb d_LT_tagWithForm_3 rfl (lv_at hl 0 rfl) ?_
    obtain ⟨f1, h2, hsh⟩ := im_bd hsh
    refine im_getI hx hb hts inC_LT hown hK hH (ci := 8) rfl 13 (by decide) (hts _ wd_188) rfl h2 d_LT_tagWithForm_4 ?_
    refine lv_icmp_ge (tgt := 35) hx hb d_LT_tagWithForm_7 (by decide) (fun cc => ?_) (fun cc => ?_)
    · have hsh := im_it hsh cc
      refine lv_iconst (v := -1) hx hb d_LT_tagWithForm_35 (by decide) ?_
      obtain rfl := Option.some.inj hsh
      exact im_iret hx hb hr hlk hH d_LT_tagWithForm_36
    · have hsh := im_if hsh cc
      refine lv_aload_n hx hb d_LT_tagWithForm_10 rfl (lv_at hl 0 rfl) ?_
      obtain ⟨f3, h4, hsh⟩ := im_bd hsh
      refine im_getR hx hb hts inC_LT hown hK hH (ci := 8) rfl 7 (by decide) (hts _ wd_182) rfl h4 d_LT_tagWithForm_11 ?_
      refine lv_iload_n hx hb d_LT_tagWithForm_14 rfl (lv_at hl 3 rfl) ?_
      obtain ⟨e5, h6, hsh⟩ := im_bd hsh
      refine im_aald4 hx hb hK hH h6 d_LT_tagWithForm_15 ?_
      obtain ⟨f7, h8, hsh⟩ := im_bd hsh
      refine im_getNR hx hb hts inC_Tag hown hK hH (ci := 6) rfl 0 (by decide) (hN _ nw_157) rfl h8 d_LT_tagWithForm_16 ?_
      refine lv_aload_n hx hb d_LT_tagWithForm_19 rfl (lv_at hl 1 rfl) ?_
      refine lv_iload_n hx hb d_LT_tagWithForm_20 rfl (lv_at hl 2 rfl) ?_
      obtain ⟨u9, h10, hsh⟩ := im_bd hsh
      obtain ⟨g11, h12⟩ := im_is_s h10
      obtain ⟨v15, w13, h14, hsh⟩ := im_bd2 hsh
      refine im_afterI (va_runV (As := [.ref (lo + x1), .int x2]) (rest := []) (C := RC_Form) ⟨hx, hb, hml, hown, hts⟩ (met_Form_isStartOf h14) ⟨(callB_of 2 hts (im_good wd_433) rfl rfl rfl (hts _ wd_6) (hts _ wd_430) (by decide +kernel) ⟨Nat.le_of_ble_eq_true rfl, Nat.le_of_ble_eq_true rfl⟩), hts _ wd_431, hts _ wd_432⟩ (im_preV im_NW_ok hK hN hH (ci := 2) rfl rfl h12 _) rfl rfl hl.1 rfl (lv_room (Nat.le_of_ble_eq_true rfl)) d_LT_tagWithForm_21 ⟨Nat.le_of_ble_eq_true rfl, Nat.le_of_ble_eq_true rfl⟩) hH (fun H locs hH => ?_)
      refine lv_if_eq (tgt := 29) hx hb d_LT_tagWithForm_24 (by decide) (fun cc => ?_) (fun cc => ?_)
      · have hsh := im_it hsh cc
        refine lv_iinc (v := (x3 + (1 : Int32))) (lv' := [(3, .int (x3 + (1 : Int32))), (0, .ref (lo + x0)), (1, .ref (lo + x1)), (2, .int x2)]) hx hb d_LT_tagWithForm_29 hl (k := 3) rfl rfl (by decide) rfl (fun ls hl => ?_)
        refine lv_goto (tgt := 2) hx hb d_LT_tagWithForm_32 (by decide) ?_
        exact ih x0 x1 x2 (x3 + (1 : Int32)) w13 hsh H locs ls hH (lv_sub hl [1, 2, 3, 0] rfl)
      · have hsh := im_if hsh cc
        refine lv_iload_n hx hb d_LT_tagWithForm_27 rfl (lv_at hl 3 rfl) ?_
        obtain rfl := Option.some.inj hsh
        exact im_iret hx hb hr hlk hH d_LT_tagWithForm_28
def sh_LT_tagWithForm (F : Nat) (x0 : Nat) (x1 : Nat) (x2 : Int32) (w : im_W) : Option (Int32 × im_W) :=
  sh_LT_tagWithForm_2 F F x0 x1 x2 (0 : Int32) w
set_option maxHeartbeats 4000000 in
set_option maxRecDepth 100000 in
theorem met_LT_tagWithForm {F : Nat} {x0 : Nat} {x1 : Nat} {x2 : Int32} {w : im_W} {r : Int32 × im_W} (hsh : sh_LT_tagWithForm F x0 x1 x2 w = some r) : Met l y_LT_tagWithForm (Cond.code y_LT_tagWithForm c_LT_tagWithForm 4 (some .int) :: im_T) (im_rm 2 44) (im_Pre D vwCl tA lo im_NW [.ref (lo + x0), .ref (lo + x1), .int x2] w) (im_Post D vwCl tA lo (some (.int r.1)) r.2) 0 0 (fun q => lo ≤ q) := by
  refine im_ofW (cc := c_LT_tagWithForm) (nL := 4) (ret := (some .int)) (by decide) (Nat.le_of_ble_eq_true rfl) ?_
  intro p e s m args below meth c X H locs ls hH hl
  obtain ⟨hx, hb, hr, hts, hown, hlk, hml, hK, hN⟩ := id X
  have hl : lv_has ls 4 [(0, .ref (lo + x0)), (1, .ref (lo + x1)), (2, .int x2)] := hl
  unfold sh_LT_tagWithForm at hsh
  refine lv_iconst (v := 0) hx hb d_LT_tagWithForm_0 (by decide) ?_
  refine lv_istore_n (lv' := [(3, .int (0 : Int32)), (0, .ref (lo + x0)), (1, .ref (lo + x1)), (2, .int x2)]) hx hb d_LT_tagWithForm_1 rfl hl (by decide) rfl (fun ls hl => ?_)
  exact bk_LT_tagWithForm_2 X F x0 x1 x2 (0 : Int32) w hsh H locs ls hH (lv_sub hl [1, 2, 3, 0] rfl)
theorem wd_177 : (Jvm.Cond.fieldLink "LanguageTags" (24 : Nat) "LanguageTags" "reader" "LLanguageTags$Reader;") ∈ im_T := im_memT (i := 177) (by decide +kernel) (by decide +kernel)
theorem wd_184 : (Jvm.Cond.fieldLink "LanguageTags" (68 : Nat) "LanguageTags" "firstForm" "LLanguageTags$Form;") ∈ im_T := im_memT (i := 184) (by decide +kernel) (by decide +kernel)
theorem wd_328 : (Jvm.Cond.methodLink "LanguageTags" (152 : Nat) ({ cls := "LanguageTags$Reader", name := "cutTag", desc := "(LLanguageTags$Text;II)I" } : Jvm.MethodName)) ∈ im_T := im_memT (i := 328) (by decide +kernel) (by decide +kernel)
theorem wd_329 : (Jvm.Cond.instanceMethod ({ cls := "LanguageTags$Reader", name := "cutTag", desc := "(LLanguageTags$Text;II)I" } : Jvm.MethodName)) ∈ im_T := im_memT (i := 329) (by decide +kernel) (by decide +kernel)
theorem wd_330 : (Jvm.Cond.selects "LanguageTags$Reader" ({ cls := "LanguageTags$Reader", name := "cutTag", desc := "(LLanguageTags$Text;II)I" } : Jvm.MethodName) ({ cls := "LanguageTags$Reader", name := "cutTag", desc := "(LLanguageTags$Text;II)I" } : Jvm.MethodName)) ∈ im_T := im_memT (i := 330) (by decide +kernel) (by decide +kernel)
theorem wd_331 : (Jvm.Cond.code ({ cls := "LanguageTags$Reader", name := "cutTag", desc := "(LLanguageTags$Text;II)I" } : Jvm.MethodName) prog_7_method_2_code (9 : Nat) (Option.some Jvm.ClassFile.FieldType.int)) ∈ im_T := im_memT (i := 331) (by decide +kernel) (by decide +kernel)
theorem wd_367 : (Jvm.Cond.methodLink "LanguageTags" (156 : Nat) ({ cls := "LanguageTags$Reader", name := "fillForm", desc := "(LLanguageTags$Form;LLanguageTags$Aliases;)V" } : Jvm.MethodName)) ∈ im_T := im_memT (i := 367) (by decide +kernel) (by decide +kernel)
theorem wd_368 : (Jvm.Cond.instanceMethod ({ cls := "LanguageTags$Reader", name := "fillForm", desc := "(LLanguageTags$Form;LLanguageTags$Aliases;)V" } : Jvm.MethodName)) ∈ im_T := im_memT (i := 368) (by decide +kernel) (by decide +kernel)
theorem wd_369 : (Jvm.Cond.selects "LanguageTags$Reader" ({ cls := "LanguageTags$Reader", name := "fillForm", desc := "(LLanguageTags$Form;LLanguageTags$Aliases;)V" } : Jvm.MethodName) ({ cls := "LanguageTags$Reader", name := "fillForm", desc := "(LLanguageTags$Form;LLanguageTags$Aliases;)V" } : Jvm.MethodName)) ∈ im_T := im_memT (i := 369) (by decide +kernel) (by decide +kernel)
theorem wd_370 : (Jvm.Cond.code ({ cls := "LanguageTags$Reader", name := "fillForm", desc := "(LLanguageTags$Form;LLanguageTags$Aliases;)V" } : Jvm.MethodName) prog_7_method_3_code (9 : Nat) (Option.none : Option Jvm.ClassFile.FieldType)) ∈ im_T := im_memT (i := 370) (by decide +kernel) (by decide +kernel)
theorem wd_422 : (Jvm.Cond.methodLink "LanguageTags" (160 : Nat) ({ cls := "LanguageTags$Form", name := "count", desc := "()I" } : Jvm.MethodName)) ∈ im_T := im_memT (i := 422) (by decide +kernel) (by decide +kernel)
theorem wd_423 : (Jvm.Cond.instanceMethod ({ cls := "LanguageTags$Form", name := "count", desc := "()I" } : Jvm.MethodName)) ∈ im_T := im_memT (i := 423) (by decide +kernel) (by decide +kernel)
theorem wd_424 : (Jvm.Cond.selects "LanguageTags$Form" ({ cls := "LanguageTags$Form", name := "count", desc := "()I" } : Jvm.MethodName) ({ cls := "LanguageTags$Form", name := "count", desc := "()I" } : Jvm.MethodName)) ∈ im_T := im_memT (i := 424) (by decide +kernel) (by decide +kernel)
theorem wd_425 : (Jvm.Cond.code ({ cls := "LanguageTags$Form", name := "count", desc := "()I" } : Jvm.MethodName) prog_4_method_2_code (1 : Nat) (Option.some Jvm.ClassFile.FieldType.int)) ∈ im_T := im_memT (i := 425) (by decide +kernel) (by decide +kernel)
theorem wd_426 : (Jvm.Cond.methodLink "LanguageTags" (161 : Nat) ({ cls := "LanguageTags", name := "tagWithForm", desc := "(LLanguageTags$Form;I)I" } : Jvm.MethodName)) ∈ im_T := im_memT (i := 426) (by decide +kernel) (by decide +kernel)
theorem wd_428 : (Jvm.Cond.instanceMethod ({ cls := "LanguageTags", name := "tagWithForm", desc := "(LLanguageTags$Form;I)I" } : Jvm.MethodName)) ∈ im_T := im_memT (i := 428) (by decide +kernel) (by decide +kernel)
theorem wd_429 : (Jvm.Cond.code ({ cls := "LanguageTags", name := "tagWithForm", desc := "(LLanguageTags$Form;I)I" } : Jvm.MethodName) prog_1_method_23_code (4 : Nat) (Option.some Jvm.ClassFile.FieldType.int)) ∈ im_T := im_memT (i := 429) (by decide +kernel) (by decide +kernel)
theorem wd_438 : (Jvm.Cond.methodLink "LanguageTags" (168 : Nat) ({ cls := "LanguageTags$Form", name := "copyFrom", desc := "(LLanguageTags$Form;)V" } : Jvm.MethodName)) ∈ im_T := im_memT (i := 438) (by decide +kernel) (by decide +kernel)
theorem d_LT_read_0 : decode c_LT_read 0 = .ok (.aload_n 0, 1) := by decide +kernel
theorem d_LT_read_1 : decode c_LT_read 1 = .ok (.getfield 24, 3) := by decide +kernel
theorem d_LT_read_4 : decode c_LT_read 4 = .ok (.aload_n 0, 1) := by decide +kernel
theorem d_LT_read_5 : decode c_LT_read 5 = .ok (.getfield 14, 3) := by decide +kernel
theorem d_LT_read_8 : decode c_LT_read 8 = .ok (.iconst 0, 1) := by decide +kernel
theorem d_LT_read_9 : decode c_LT_read 9 = .ok (.aload_n 0, 1) := by decide +kernel
theorem d_LT_read_10 : decode c_LT_read 10 = .ok (.getfield 14, 3) := by decide +kernel
theorem d_LT_read_13 : decode c_LT_read 13 = .ok (.invokevirtual 126, 3) := by decide +kernel
theorem d_LT_read_16 : decode c_LT_read 16 = .ok (.invokevirtual 152, 3) := by decide +kernel
theorem d_LT_read_19 : decode c_LT_read 19 = .ok (.istore_n 1, 1) := by decide +kernel
theorem d_LT_read_20 : decode c_LT_read 20 = .ok (.iload_n 1, 1) := by decide +kernel
theorem d_LT_read_21 : decode c_LT_read 21 = .ok (.ifCond .lt (9), 3) := by decide +kernel
theorem d_LT_read_24 : decode c_LT_read 24 = .ok (.sipush (-1000), 3) := by decide +kernel
theorem d_LT_read_27 : decode c_LT_read 27 = .ok (.iload_n 1, 1) := by decide +kernel
theorem d_LT_read_28 : decode c_LT_read 28 = .ok (.isub, 1) := by decide +kernel
theorem d_LT_read_29 : decode c_LT_read 29 = .ok (.ireturn, 1) := by decide +kernel
theorem d_LT_read_30 : decode c_LT_read 30 = .ok (.aload_n 0, 1) := by decide +kernel
theorem d_LT_read_31 : decode c_LT_read 31 = .ok (.getfield 24, 3) := by decide +kernel
theorem d_LT_read_34 : decode c_LT_read 34 = .ok (.aload_n 0, 1) := by decide +kernel
theorem d_LT_read_35 : decode c_LT_read 35 = .ok (.getfield 68, 3) := by decide +kernel
theorem d_LT_read_38 : decode c_LT_read 38 = .ok (.aload_n 0, 1) := by decide +kernel
theorem d_LT_read_39 : decode c_LT_read 39 = .ok (.getfield 31, 3) := by decide +kernel
theorem d_LT_read_42 : decode c_LT_read 42 = .ok (.invokevirtual 156, 3) := by decide +kernel
theorem d_LT_read_45 : decode c_LT_read 45 = .ok (.aload_n 0, 1) := by decide +kernel
theorem d_LT_read_46 : decode c_LT_read 46 = .ok (.aload_n 0, 1) := by decide +kernel
theorem d_LT_read_47 : decode c_LT_read 47 = .ok (.getfield 68, 3) := by decide +kernel
theorem d_LT_read_50 : decode c_LT_read 50 = .ok (.aload_n 0, 1) := by decide +kernel
theorem d_LT_read_51 : decode c_LT_read 51 = .ok (.getfield 68, 3) := by decide +kernel
theorem d_LT_read_54 : decode c_LT_read 54 = .ok (.invokevirtual 160, 3) := by decide +kernel
theorem d_LT_read_57 : decode c_LT_read 57 = .ok (.invokevirtual 161, 3) := by decide +kernel
theorem d_LT_read_60 : decode c_LT_read 60 = .ok (.istore_n 2, 1) := by decide +kernel
theorem d_LT_read_61 : decode c_LT_read 61 = .ok (.iload_n 2, 1) := by decide +kernel
theorem d_LT_read_62 : decode c_LT_read 62 = .ok (.ifCond .ge (45), 3) := by decide +kernel
theorem d_LT_read_65 : decode c_LT_read 65 = .ok (.aload_n 0, 1) := by decide +kernel
theorem d_LT_read_66 : decode c_LT_read 66 = .ok (.getfield 85, 3) := by decide +kernel
theorem d_LT_read_69 : decode c_LT_read 69 = .ok (.bipush (16), 2) := by decide +kernel
theorem d_LT_read_71 : decode c_LT_read 71 = .ok (.if_icmp .lt (5), 3) := by decide +kernel
theorem d_LT_read_74 : decode c_LT_read 74 = .ok (.iconst (-1), 1) := by decide +kernel
theorem d_LT_read_75 : decode c_LT_read 75 = .ok (.ireturn, 1) := by decide +kernel
theorem d_LT_read_76 : decode c_LT_read 76 = .ok (.aload_n 0, 1) := by decide +kernel
theorem d_LT_read_77 : decode c_LT_read 77 = .ok (.getfield 85, 3) := by decide +kernel
theorem d_LT_read_80 : decode c_LT_read 80 = .ok (.istore_n 2, 1) := by decide +kernel
theorem d_LT_read_81 : decode c_LT_read 81 = .ok (.aload_n 0, 1) := by decide +kernel
theorem d_LT_read_82 : decode c_LT_read 82 = .ok (.getfield 56, 3) := by decide +kernel
theorem d_LT_read_85 : decode c_LT_read 85 = .ok (.iload_n 2, 1) := by decide +kernel
theorem d_LT_read_86 : decode c_LT_read 86 = .ok (.aaload, 1) := by decide +kernel
theorem d_LT_read_87 : decode c_LT_read 87 = .ok (.getfield 165, 3) := by decide +kernel
theorem d_LT_read_90 : decode c_LT_read 90 = .ok (.aload_n 0, 1) := by decide +kernel
theorem d_LT_read_91 : decode c_LT_read 91 = .ok (.getfield 68, 3) := by decide +kernel
theorem d_LT_read_94 : decode c_LT_read 94 = .ok (.invokevirtual 168, 3) := by decide +kernel
theorem d_LT_read_97 : decode c_LT_read 97 = .ok (.aload_n 0, 1) := by decide +kernel
theorem d_LT_read_98 : decode c_LT_read 98 = .ok (.dup, 1) := by decide +kernel
theorem d_LT_read_99 : decode c_LT_read 99 = .ok (.getfield 85, 3) := by decide +kernel
theorem d_LT_read_102 : decode c_LT_read 102 = .ok (.iconst 1, 1) := by decide +kernel
theorem d_LT_read_103 : decode c_LT_read 103 = .ok (.iadd, 1) := by decide +kernel
theorem d_LT_read_104 : decode c_LT_read 104 = .ok (.putfield 85, 3) := by decide +kernel
theorem d_LT_read_107 : decode c_LT_read 107 = .ok (.aload_n 0, 1) := by decide +kernel
theorem d_LT_read_108 : decode c_LT_read 108 = .ok (.getfield 14, 3) := by decide +kernel
theorem d_LT_read_111 : decode c_LT_read 111 = .ok (.invokevirtual 115, 3) := by decide +kernel
theorem d_LT_read_114 : decode c_LT_read 114 = .ok (.iload_n 2, 1) := by decide +kernel
theorem d_LT_read_115 : decode c_LT_read 115 = .ok (.ireturn, 1) := by decide +kernel
def sh_LT_read_107 (F : Nat) (x0 : Nat) (x2 : Int32) (w : im_W) : Option (Int32 × im_W) :=
  (im_gR w 8 x0 0).bind fun f1 => (im_is w 7 f1).bind fun u3 => (sh_Text_clear F f1 w).bind fun w7 => some (x2, w7)
set_option maxHeartbeats 4000000 in
set_option maxRecDepth 100000 in
theorem bk_LT_read_107 {F : Nat} {r : Int32 × im_W} (X : im_X D vwCl tA lo im_NW c_LT_read 3 (some .int) RC_LT im_T p s m args meth c) (x0 : Nat) (x2 : Int32) (w : im_W) (hsh : sh_LT_read_107 F x0 x2 w = some r) : im_WW D vwCl tA lo 3 p l e (im_rm 6 141) s m args below meth c 0 0 (MQ below (im_Post D vwCl tA lo (some (.int r.1)) r.2) args s 0 0 (fun q => lo ≤ q)) 107 [(0, .ref (lo + x0)), (2, .int x2)] [] w := by
  obtain ⟨hx, hb, hr, hts, hown, hlk, hml, hK, hN⟩ := id X
  intro H locs ls hH hl
  unfold sh_LT_read_107 at hsh
  refine lv_aload_n hx hb d_LT_read_107 rfl (lv_at hl 0 rfl) ?_
  obtain ⟨f1, h2, hsh⟩ := im_bd hsh
  refine im_getR hx hb hts inC_LT hown hK hH (ci := 8) rfl 0 (by decide) (hts _ wd_175) rfl h2 d_LT_read_108 ?_
  obtain ⟨u3, h4, hsh⟩ := im_bd hsh
  obtain ⟨g5, h6⟩ := im_is_s h4
  obtain ⟨w7, h8, hsh⟩ := im_bd hsh
  refine im_afterV (va_runV (As := []) (rest := []) (C := RC_Text) ⟨hx, hb, hml, hown, hts⟩ (met_Text_clear h8) ⟨(callB_of 0 hts (im_good wd_253) rfl rfl rfl (hts _ wd_2) (hts _ wd_250) (by decide +kernel) ⟨Nat.le_of_ble_eq_true rfl, Nat.le_of_ble_eq_true rfl⟩), hts _ wd_251, hts _ wd_252⟩ (im_preV im_NW_ok hK hN hH (ci := 7) rfl rfl h6 _) rfl rfl hl.1 rfl (lv_room (Nat.le_of_ble_eq_true rfl)) d_LT_read_111 ⟨Nat.le_of_ble_eq_true rfl, Nat.le_of_ble_eq_true rfl⟩) hH (fun H locs hH => ?_)
  refine lv_iload_n hx hb d_LT_read_114 rfl (lv_at hl 1 rfl) ?_
  obtain rfl := Option.some.inj hsh
  exact im_iret hx hb hr hlk hH d_LT_read_115
def sh_LT_read (F : Nat) (x0 : Nat) (w : im_W) : Option (Int32 × im_W) :=
  (im_gR w 8 x0 2).bind fun f1 => (im_gR w 8 x0 0).bind fun f3 => (im_gR w 8 x0 0).bind fun f5 => (im_is w 7 f5).bind fun u7 => im_b2 (sh_Text_length F f5 w) fun v13 w11 => (im_is w11 5 f1).bind fun u14 => im_b2 (sh_Reader_cutTag F f1 f3 (0 : Int32) v13 w11) fun v20 w18 => (if v20 < 0 then (im_gR w18 8 x0 2).bind fun f21 => (im_gR w18 8 x0 9).bind fun f23 => (im_gR w18 8 x0 3).bind fun f25 => (im_is w18 5 f21).bind fun u27 => (sh_Reader_fillForm F f21 f23 f25 w18).bind fun w31 => (im_gR w31 8 x0 9).bind fun f33 => (im_gR w31 8 x0 9).bind fun f35 => (im_is w31 2 f35).bind fun u37 => im_b2 (sh_Form_count F f35 w31) fun v43 w41 => (im_is w41 8 x0).bind fun u44 => im_b2 (sh_LT_tagWithForm F x0 f33 v43 w41) fun v50 w48 => (if 0 ≤ v50 then sh_LT_read_107 F x0 v50 w48 else (im_gI w48 8 x0 13).bind fun f51 => (if f51 < (16 : Int32) then (im_gI w48 8 x0 13).bind fun f53 => (im_gR w48 8 x0 7).bind fun f55 => (im_lR w48 4 f55 f53).bind fun e57 => (im_gR w48 6 e57 0).bind fun f59 => (im_gR w48 8 x0 9).bind fun f61 => (im_is w48 2 f59).bind fun u63 => (sh_Form_copyFrom F f59 f61 w48).bind fun w67 => (im_gI w67 8 x0 13).bind fun f69 => (im_pV w67 8 x0 13 (.int (f69 + (1 : Int32)))).bind fun w71 => sh_LT_read_107 F x0 f53 w71 else some ((-1 : Int32), w48))) else some (((-1000 : Int32) - v20), w18))
set_option maxHeartbeats 4000000 in
set_option maxRecDepth 100000 in
theorem met_LT_read {F : Nat} {x0 : Nat} {w : im_W} {r : Int32 × im_W} (hsh : sh_LT_read F x0 w = some r) : Met l y_LT_read (Cond.code y_LT_read c_LT_read 3 (some .int) :: im_T) (im_rm 6 141) (im_Pre D vwCl tA lo im_NW [.ref (lo + x0)] w) (im_Post D vwCl tA lo (some (.int r.1)) r.2) 0 0 (fun q => lo ≤ q) := by
  refine im_ofW (cc := c_LT_read) (nL := 3) (ret := (some .int)) (by decide) (Nat.le_of_ble_eq_true rfl) ?_
  intro p e s m args below meth c X H locs ls hH hl
  obtain ⟨hx, hb, hr, hts, hown, hlk, hml, hK, hN⟩ := id X
  have hl : lv_has ls 3 [(0, .ref (lo + x0))] := hl
  unfold sh_LT_read at hsh
  refine lv_aload_n hx hb d_LT_read_0 rfl (lv_at hl 0 rfl) ?_
  obtain ⟨f1, h2, hsh⟩ := im_bd hsh
  refine im_getR hx hb hts inC_LT hown hK hH (ci := 8) rfl 2 (by decide) (hts _ wd_177) rfl h2 d_LT_read_1 ?_
  refine lv_aload_n hx hb d_LT_read_4 rfl (lv_at hl 0 rfl) ?_
  obtain ⟨f3, h4, hsh⟩ := im_bd hsh
  refine im_getR hx hb hts inC_LT hown hK hH (ci := 8) rfl 0 (by decide) (hts _ wd_175) rfl h4 d_LT_read_5 ?_
  refine lv_iconst (v := 0) hx hb d_LT_read_8 (by decide) ?_
  refine lv_aload_n hx hb d_LT_read_9 rfl (lv_at hl 0 rfl) ?_
  obtain ⟨f5, h6, hsh⟩ := im_bd hsh
  refine im_getR hx hb hts inC_LT hown hK hH (ci := 8) rfl 0 (by decide) (hts _ wd_175) rfl h6 d_LT_read_10 ?_
  obtain ⟨u7, h8, hsh⟩ := im_bd hsh
  obtain ⟨g9, h10⟩ := im_is_s h8
  obtain ⟨v13, w11, h12, hsh⟩ := im_bd2 hsh
  refine im_afterI (va_runV (As := []) (rest := [.int (0 : Int32), .ref (lo + f3), .ref (lo + f1)]) (C := RC_Text) ⟨hx, hb, hml, hown, hts⟩ (met_Text_length h12) ⟨(callB_of 0 hts (im_good wd_274) rfl rfl rfl (hts _ wd_2) (hts _ wd_271) (by decide +kernel) ⟨Nat.le_of_ble_eq_true rfl, Nat.le_of_ble_eq_true rfl⟩), hts _ wd_272, hts _ wd_273⟩ (im_preV im_NW_ok hK hN hH (ci := 7) rfl rfl h10 _) rfl rfl hl.1 rfl (lv_room (Nat.le_of_ble_eq_true rfl)) d_LT_read_13 ⟨Nat.le_of_ble_eq_true rfl, Nat.le_of_ble_eq_true rfl⟩) hH (fun H locs hH => ?_)
  obtain ⟨u14, h15, hsh⟩ := im_bd hsh
  obtain ⟨g16, h17⟩ := im_is_s h15
  obtain ⟨v20, w18, h19, hsh⟩ := im_bd2 hsh
  refine im_afterI (va_runV (As := [.ref (lo + f3), .int (0 : Int32), .int v13]) (rest := []) (C := RC_Reader) ⟨hx, hb, hml, hown, hts⟩ (met_Reader_cutTag h19) ⟨(callB_of 3 hts (im_good wd_331) rfl rfl rfl (hts _ wd_3) (hts _ wd_328) (by decide +kernel) ⟨Nat.le_of_ble_eq_true rfl, Nat.le_of_ble_eq_true rfl⟩), hts _ wd_329, hts _ wd_330⟩ (im_preV im_NW_ok hK hN hH (ci := 5) rfl rfl h17 _) rfl rfl hl.1 rfl (lv_room (Nat.le_of_ble_eq_true rfl)) d_LT_read_16 ⟨Nat.le_of_ble_eq_true rfl, Nat.le_of_ble_eq_true rfl⟩) hH (fun H locs hH => ?_)
  refine lv_istore_n (lv' := [(1, .int v20), (0, .ref (lo + x0))]) hx hb d_LT_read_19 rfl hl (by decide) rfl (fun ls hl => ?_)
  refine lv_iload_n hx hb d_LT_read_20 rfl (lv_at hl 0 rfl) ?_
  refine lv_if_lt (tgt := 30) hx hb d_LT_read_21 (by decide) (fun cc => ?_) (fun cc => ?_)
  · have hsh := im_it hsh cc
    refine lv_aload_n hx hb d_LT_read_30 rfl (lv_at hl 1 rfl) ?_
    obtain ⟨f21, h22, hsh⟩ := im_bd hsh
    refine im_getR hx hb hts inC_LT hown hK hH (ci := 8) rfl 2 (by decide) (hts _ wd_177) rfl h22 d_LT_read_31 ?_
    refine lv_aload_n hx hb d_LT_read_34 rfl (lv_at hl 1 rfl) ?_
    obtain ⟨f23, h24, hsh⟩ := im_bd hsh
    refine im_getR hx hb hts inC_LT hown hK hH (ci := 8) rfl 9 (by decide) (hts _ wd_184) rfl h24 d_LT_read_35 ?_
    refine lv_aload_n hx hb d_LT_read_38 rfl (lv_at hl 1 rfl) ?_
    obtain ⟨f25, h26, hsh⟩ := im_bd hsh
    refine im_getR hx hb hts inC_LT hown hK hH (ci := 8) rfl 3 (by decide) (hts _ wd_178) rfl h26 d_LT_read_39 ?_
    obtain ⟨u27, h28, hsh⟩ := im_bd hsh
    obtain ⟨g29, h30⟩ := im_is_s h28
    obtain ⟨w31, h32, hsh⟩ := im_bd hsh
    refine im_afterV (va_runV (As := [.ref (lo + f23), .ref (lo + f25)]) (rest := []) (C := RC_Reader) ⟨hx, hb, hml, hown, hts⟩ (met_Reader_fillForm h32) ⟨(callB_of 2 hts (im_good wd_370) rfl rfl rfl (hts _ wd_3) (hts _ wd_367) (by decide +kernel) ⟨Nat.le_of_ble_eq_true rfl, Nat.le_of_ble_eq_true rfl⟩), hts _ wd_368, hts _ wd_369⟩ (im_preV im_NW_ok hK hN hH (ci := 5) rfl rfl h30 _) rfl rfl hl.1 rfl (lv_room (Nat.le_of_ble_eq_true rfl)) d_LT_read_42 ⟨Nat.le_of_ble_eq_true rfl, Nat.le_of_ble_eq_true rfl⟩) hH (fun H locs hH => ?_)
    refine lv_aload_n hx hb d_LT_read_45 rfl (lv_at hl 1 rfl) ?_
    refine lv_aload_n hx hb d_LT_read_46 rfl (lv_at hl 1 rfl) ?_
    obtain ⟨f33, h34, hsh⟩ := im_bd hsh
    refine im_getR hx hb hts inC_LT hown hK hH (ci := 8) rfl 9 (by decide) (hts _ wd_184) rfl h34 d_LT_read_47 ?_
    refine lv_aload_n hx hb d_LT_read_50 rfl (lv_at hl 1 rfl) ?_
    obtain ⟨f35, h36, hsh⟩ := im_bd hsh
    refine im_getR hx hb hts inC_LT hown hK hH (ci := 8) rfl 9 (by decide) (hts _ wd_184) rfl h36 d_LT_read_51 ?_
    obtain ⟨u37, h38, hsh⟩ := im_bd hsh
    obtain ⟨g39, h40⟩ := im_is_s h38
    obtain ⟨v43, w41, h42, hsh⟩ := im_bd2 hsh
    refine im_afterI (va_runV (As := []) (rest := [.ref (lo + f33), .ref (lo + x0)]) (C := RC_Form) ⟨hx, hb, hml, hown, hts⟩ (met_Form_count h42) ⟨(callB_of 0 hts (im_good wd_425) rfl rfl rfl (hts _ wd_6) (hts _ wd_422) (by decide +kernel) ⟨Nat.le_of_ble_eq_true rfl, Nat.le_of_ble_eq_true rfl⟩), hts _ wd_423, hts _ wd_424⟩ (im_preV im_NW_ok hK hN hH (ci := 2) rfl rfl h40 _) rfl rfl hl.1 rfl (lv_room (Nat.le_of_ble_eq_true rfl)) d_LT_read_54 ⟨Nat.le_of_ble_eq_true rfl, Nat.le_of_ble_eq_true rfl⟩) hH (fun H locs hH => ?_)
    obtain ⟨u44, h45, hsh⟩ := im_bd hsh
    obtain ⟨g46, h47⟩ := im_is_s h45
    obtain ⟨v50, w48, h49, hsh⟩ := im_bd2 hsh
    refine im_afterI (va_runV (As := [.ref (lo + f33), .int v43]) (rest := []) (C := RC_LT) ⟨hx, hb, hml, hown, hts⟩ (met_LT_tagWithForm h49) ⟨(callB_of 2 hts (im_good wd_429) rfl rfl rfl (hts _ wd_1) (hts _ wd_426) (by decide +kernel) ⟨Nat.le_of_ble_eq_true rfl, Nat.le_of_ble_eq_true rfl⟩), hts _ wd_428, hts _ sl_LT_tagWithForm⟩ (im_preV im_NW_ok hK hN hH (ci := 8) rfl rfl h47 _) rfl rfl hl.1 rfl (lv_room (Nat.le_of_ble_eq_true rfl)) d_LT_read_57 ⟨Nat.le_of_ble_eq_true rfl, Nat.le_of_ble_eq_true rfl⟩) hH (fun H locs hH => ?_)
    refine lv_istore_n (lv' := [(2, .int v50), (1, .int v20), (0, .ref (lo + x0))]) hx hb d_LT_read_60 rfl hl (by decide) rfl (fun ls hl => ?_)
    refine lv_iload_n hx hb d_LT_read_61 rfl (lv_at hl 0 rfl) ?_
    refine lv_if_ge (tgt := 107) hx hb d_LT_read_62 (by decide) (fun cc => ?_) (fun cc => ?_)
    · have hsh := im_it hsh cc
      exact bk_LT_read_107 X x0 v50 w48 hsh H locs ls hH (lv_sub hl [2, 0] rfl)
    · have hsh := im_if hsh cc
      refine lv_aload_n hx hb d_LT_read_65 rfl (lv_at hl 2 rfl) ?_
      obtain ⟨f51, h52, hsh⟩ := im_bd hsh
      refine im_getI hx hb hts inC_LT hown hK hH (ci := 8) rfl 13 (by decide) (hts _ wd_188) rfl h52 d_LT_read_66 ?_
      refine lv_bipush (v := 16) hx hb d_LT_read_69 (by decide) ?_
      refine lv_icmp_lt (tgt := 76) hx hb d_LT_read_71 (by decide) (fun cc => ?_) (fun cc => ?_)
      · have hsh := im_it hsh cc
        refine lv_aload_n hx hb d_LT_read_76 rfl (lv_at hl 2 rfl) ?_
        obtain ⟨f53, h54, hsh⟩ := im_bd hsh
        refine im_getI hx hb hts inC_LT hown hK hH (ci := 8) rfl 13 (by decide) (hts _ wd_188) rfl h54 d_LT_read_77 ?_
        refine lv_istore_n (lv' := [(2, .int f53), (1, .int v20), (0, .ref (lo + x0))]) hx hb d_LT_read_80 rfl hl (by decide) rfl (fun ls hl => ?_)
        refine lv_aload_n hx hb d_LT_read_81 rfl (lv_at hl 2 rfl) ?_
        obtain ⟨f55, h56, hsh⟩ := im_bd hsh
        refine im_getR hx hb hts inC_LT hown hK hH (ci := 8) rfl 7 (by decide) (hts _ wd_182) rfl h56 d_LT_read_82 ?_
        refine lv_iload_n hx hb d_LT_read_85 rfl (lv_at hl 0 rfl) ?_
        obtain ⟨e57, h58, hsh⟩ := im_bd hsh
        refine im_aald4 hx hb hK hH h58 d_LT_read_86 ?_
        obtain ⟨f59, h60, hsh⟩ := im_bd hsh
        refine im_getNR hx hb hts inC_Tag hown hK hH (ci := 6) rfl 0 (by decide) (hN _ nw_157) rfl h60 d_LT_read_87 ?_
        refine lv_aload_n hx hb d_LT_read_90 rfl (lv_at hl 2 rfl) ?_
        obtain ⟨f61, h62, hsh⟩ := im_bd hsh
        refine im_getR hx hb hts inC_LT hown hK hH (ci := 8) rfl 9 (by decide) (hts _ wd_184) rfl h62 d_LT_read_91 ?_
        obtain ⟨u63, h64, hsh⟩ := im_bd hsh
        obtain ⟨g65, h66⟩ := im_is_s h64
        obtain ⟨w67, h68, hsh⟩ := im_bd hsh
        refine im_afterV (va_runV (As := [.ref (lo + f61)]) (rest := []) (C := RC_Form) ⟨hx, hb, hml, hown, hts⟩ (met_Form_copyFrom h68) ⟨(callB_of 1 hts (im_good wd_441) rfl rfl rfl (hts _ wd_6) (hts _ wd_438) (by decide +kernel) ⟨Nat.le_of_ble_eq_true rfl, Nat.le_of_ble_eq_true rfl⟩), hts _ wd_439, hts _ wd_440⟩ (im_preV im_NW_ok hK hN hH (ci := 2) rfl rfl h66 _) rfl rfl hl.1 rfl (lv_room (Nat.le_of_ble_eq_true rfl)) d_LT_read_94 ⟨Nat.le_of_ble_eq_true rfl, Nat.le_of_ble_eq_true rfl⟩) hH (fun H locs hH => ?_)
        refine lv_aload_n hx hb d_LT_read_97 rfl (lv_at hl 2 rfl) ?_
        refine lv_dup hx hb d_LT_read_98 rfl ?_
        obtain ⟨f69, h70, hsh⟩ := im_bd hsh
        refine im_getI hx hb hts inC_LT hown hK hH (ci := 8) rfl 13 (by decide) (hts _ wd_188) rfl h70 d_LT_read_99 ?_
        refine lv_iconst (v := 1) hx hb d_LT_read_102 (by decide) ?_
        refine lv_iadd hx hb d_LT_read_103 ?_
        obtain ⟨w71, h72, hsh⟩ := im_bd hsh
        refine im_put (v := .int (f69 + (1 : Int32))) hx hb hts inC_LT tyC_LT tyC_LT_ok nmC_LT hown hK hH (ci := 8) rfl 13 (by decide) (hts _ wd_188) rfl rfl rfl rfl h72 d_LT_read_104 (fun H locs hH => ?_)
        exact bk_LT_read_107 X x0 f53 w71 hsh H locs ls hH (lv_sub hl [2, 0] rfl)
      · have hsh := im_if hsh cc
        refine lv_iconst (v := -1) hx hb d_LT_read_74 (by decide) ?_
        obtain rfl := Option.some.inj hsh
        exact im_iret hx hb hr hlk hH d_LT_read_75
  · have hsh := im_if hsh cc
    refine lv_sipush (v := -1000) hx hb d_LT_read_24 (by decide) ?_
    refine lv_iload_n hx hb d_LT_read_27 rfl (lv_at hl 0 rfl) ?_
    refine lv_isub hx hb d_LT_read_28 ?_
    obtain rfl := Option.some.inj hsh
    exact im_iret hx hb hr hlk hH d_LT_read_29
theorem wd_455 : (Jvm.Cond.methodLink "LanguageTags" (253 : Nat) ({ cls := "LanguageTags$Form", name := "isPlain", desc := "()Z" } : Jvm.MethodName)) ∈ im_T := im_memT (i := 455) (by decide +kernel) (by decide +kernel)
theorem wd_456 : (Jvm.Cond.instanceMethod ({ cls := "LanguageTags$Form", name := "isPlain", desc := "()Z" } : Jvm.MethodName)) ∈ im_T := im_memT (i := 456) (by decide +kernel) (by decide +kernel)
theorem wd_457 : (Jvm.Cond.selects "LanguageTags$Form" ({ cls := "LanguageTags$Form", name := "isPlain", desc := "()Z" } : Jvm.MethodName) ({ cls := "LanguageTags$Form", name := "isPlain", desc := "()Z" } : Jvm.MethodName)) ∈ im_T := im_memT (i := 457) (by decide +kernel) (by decide +kernel)
theorem wd_458 : (Jvm.Cond.code ({ cls := "LanguageTags$Form", name := "isPlain", desc := "()Z" } : Jvm.MethodName) prog_4_method_4_code (1 : Nat) (Option.some Jvm.ClassFile.FieldType.boolean)) ∈ im_T := im_memT (i := 458) (by decide +kernel) (by decide +kernel)
theorem d_LT_readPlain_0 : decode c_LT_readPlain 0 = .ok (.aload_n 0, 1) := by decide +kernel
theorem d_LT_readPlain_1 : decode c_LT_readPlain 1 = .ok (.getfield 24, 3) := by decide +kernel
theorem d_LT_readPlain_4 : decode c_LT_readPlain 4 = .ok (.aload_n 0, 1) := by decide +kernel
theorem d_LT_readPlain_5 : decode c_LT_readPlain 5 = .ok (.getfield 14, 3) := by decide +kernel
theorem d_LT_readPlain_8 : decode c_LT_readPlain 8 = .ok (.iload_n 2, 1) := by decide +kernel
theorem d_LT_readPlain_9 : decode c_LT_readPlain 9 = .ok (.iload_n 3, 1) := by decide +kernel
theorem d_LT_readPlain_10 : decode c_LT_readPlain 10 = .ok (.invokevirtual 152, 3) := by decide +kernel
theorem d_LT_readPlain_13 : decode c_LT_readPlain 13 = .ok (.ifCond .lt (5), 3) := by decide +kernel
theorem d_LT_readPlain_16 : decode c_LT_readPlain 16 = .ok (.iconst 0, 1) := by decide +kernel
theorem d_LT_readPlain_17 : decode c_LT_readPlain 17 = .ok (.ireturn, 1) := by decide +kernel
theorem d_LT_readPlain_18 : decode c_LT_readPlain 18 = .ok (.aload_n 0, 1) := by decide +kernel
theorem d_LT_readPlain_19 : decode c_LT_readPlain 19 = .ok (.getfield 24, 3) := by decide +kernel
theorem d_LT_readPlain_22 : decode c_LT_readPlain 22 = .ok (.aload_n 1, 1) := by decide +kernel
theorem d_LT_readPlain_23 : decode c_LT_readPlain 23 = .ok (.aload_n 0, 1) := by decide +kernel
theorem d_LT_readPlain_24 : decode c_LT_readPlain 24 = .ok (.getfield 31, 3) := by decide +kernel
theorem d_LT_readPlain_27 : decode c_LT_readPlain 27 = .ok (.invokevirtual 156, 3) := by decide +kernel
theorem d_LT_readPlain_30 : decode c_LT_readPlain 30 = .ok (.aload_n 1, 1) := by decide +kernel
theorem d_LT_readPlain_31 : decode c_LT_readPlain 31 = .ok (.invokevirtual 253, 3) := by decide +kernel
theorem d_LT_readPlain_34 : decode c_LT_readPlain 34 = .ok (.ireturn, 1) := by decide +kernel
def sh_LT_readPlain (F : Nat) (x0 : Nat) (x1 : Nat) (x2 : Int32) (x3 : Int32) (w : im_W) : Option (Int32 × im_W) :=
  (im_gR w 8 x0 2).bind fun f1 => (im_gR w 8 x0 0).bind fun f3 => (im_is w 5 f1).bind fun u5 => im_b2 (sh_Reader_cutTag F f1 f3 x2 x3 w) fun v11 w9 => (if v11 < 0 then (im_gR w9 8 x0 2).bind fun f12 => (im_gR w9 8 x0 3).bind fun f14 => (im_is w9 5 f12).bind fun u16 => (sh_Reader_fillForm F f12 x1 f14 w9).bind fun w20 => (im_is w20 2 x1).bind fun u22 => im_b2 (sh_Form_isPlain F x1 w20) fun v28 w26 => im_rz v28 w26 else im_rz (0 : Int32) w9)
set_option maxHeartbeats 4000000 in
set_option maxRecDepth 100000 in
theorem met_LT_readPlain {F : Nat} {x0 : Nat} {x1 : Nat} {x2 : Int32} {x3 : Int32} {w : im_W} {r : Int32 × im_W} (hsh : sh_LT_readPlain F x0 x1 x2 x3 w = some r) : Met l y_LT_readPlain (Cond.code y_LT_readPlain c_LT_readPlain 4 (some .boolean) :: im_T) (im_rm 6 141) (im_Pre D vwCl tA lo im_NW [.ref (lo + x0), .ref (lo + x1), .int x2, .int x3] w) (im_Post D vwCl tA lo (some (.int r.1)) r.2) 0 0 (fun q => lo ≤ q) := by
  refine im_ofW (cc := c_LT_readPlain) (nL := 4) (ret := (some .boolean)) (by decide) (Nat.le_of_ble_eq_true rfl) ?_
  intro p e s m args below meth c X H locs ls hH hl
  obtain ⟨hx, hb, hr, hts, hown, hlk, hml, hK, hN⟩ := id X
  have hl : lv_has ls 4 [(0, .ref (lo + x0)), (1, .ref (lo + x1)), (2, .int x2), (3, .int x3)] := hl
  unfold sh_LT_readPlain at hsh
  refine lv_aload_n hx hb d_LT_readPlain_0 rfl (lv_at hl 0 rfl) ?_
  obtain ⟨f1, h2, hsh⟩ := im_bd hsh
  refine im_getR hx hb hts inC_LT hown hK hH (ci := 8) rfl 2 (by decide) (hts _ wd_177) rfl h2 d_LT_readPlain_1 ?_
  refine lv_aload_n hx hb d_LT_readPlain_4 rfl (lv_at hl 0 rfl) ?_
  obtain ⟨f3, h4, hsh⟩ := im_bd hsh
  refine im_getR hx hb hts inC_LT hown hK hH (ci := 8) rfl 0 (by decide) (hts _ wd_175) rfl h4 d_LT_readPlain_5 ?_
  refine lv_iload_n hx hb d_LT_readPlain_8 rfl (lv_at hl 2 rfl) ?_
  refine lv_iload_n hx hb d_LT_readPlain_9 rfl (lv_at hl 3 rfl) ?_
  obtain ⟨u5, h6, hsh⟩ := im_bd hsh
  obtain ⟨g7, h8⟩ := im_is_s h6
  obtain ⟨v11, w9, h10, hsh⟩ := im_bd2 hsh
  refine im_afterI (va_runV (As := [.ref (lo + f3), .int x2, .int x3]) (rest := []) (C := RC_Reader) ⟨hx, hb, hml, hown, hts⟩ (met_Reader_cutTag h10) ⟨(callB_of 3 hts (im_good wd_331) rfl rfl rfl (hts _ wd_3) (hts _ wd_328) (by decide +kernel) ⟨Nat.le_of_ble_eq_true rfl, Nat.le_of_ble_eq_true rfl⟩), hts _ wd_329, hts _ wd_330⟩ (im_preV im_NW_ok hK hN hH (ci := 5) rfl rfl h8 _) rfl rfl hl.1 rfl (lv_room (Nat.le_of_ble_eq_true rfl)) d_LT_readPlain_10 ⟨Nat.le_of_ble_eq_true rfl, Nat.le_of_ble_eq_true rfl⟩) hH (fun H locs hH => ?_)
  refine lv_if_lt (tgt := 18) hx hb d_LT_readPlain_13 (by decide) (fun cc => ?_) (fun cc => ?_)
  · have hsh := im_it hsh cc
    refine lv_aload_n hx hb d_LT_readPlain_18 rfl (lv_at hl 0 rfl) ?_
    obtain ⟨f12, h13, hsh⟩ := im_bd hsh
    refine im_getR hx hb hts inC_LT hown hK hH (ci := 8) rfl 2 (by decide) (hts _ wd_177) rfl h13 d_LT_readPlain_19 ?_
    refine lv_aload_n hx hb d_LT_readPlain_22 rfl (lv_at hl 1 rfl) ?_
    refine lv_aload_n hx hb d_LT_readPlain_23 rfl (lv_at hl 0 rfl) ?_
    obtain ⟨f14, h15, hsh⟩ := im_bd hsh
    refine im_getR hx hb hts inC_LT hown hK hH (ci := 8) rfl 3 (by decide) (hts _ wd_178) rfl h15 d_LT_readPlain_24 ?_
    obtain ⟨u16, h17, hsh⟩ := im_bd hsh
    obtain ⟨g18, h19⟩ := im_is_s h17
    obtain ⟨w20, h21, hsh⟩ := im_bd hsh
    refine im_afterV (va_runV (As := [.ref (lo + x1), .ref (lo + f14)]) (rest := []) (C := RC_Reader) ⟨hx, hb, hml, hown, hts⟩ (met_Reader_fillForm h21) ⟨(callB_of 2 hts (im_good wd_370) rfl rfl rfl (hts _ wd_3) (hts _ wd_367) (by decide +kernel) ⟨Nat.le_of_ble_eq_true rfl, Nat.le_of_ble_eq_true rfl⟩), hts _ wd_368, hts _ wd_369⟩ (im_preV im_NW_ok hK hN hH (ci := 5) rfl rfl h19 _) rfl rfl hl.1 rfl (lv_room (Nat.le_of_ble_eq_true rfl)) d_LT_readPlain_27 ⟨Nat.le_of_ble_eq_true rfl, Nat.le_of_ble_eq_true rfl⟩) hH (fun H locs hH => ?_)
    refine lv_aload_n hx hb d_LT_readPlain_30 rfl (lv_at hl 1 rfl) ?_
    obtain ⟨u22, h23, hsh⟩ := im_bd hsh
    obtain ⟨g24, h25⟩ := im_is_s h23
    obtain ⟨v28, w26, h27, hsh⟩ := im_bd2 hsh
    refine im_afterI (va_runV (As := []) (rest := []) (C := RC_Form) ⟨hx, hb, hml, hown, hts⟩ (met_Form_isPlain h27) ⟨(callB_of 0 hts (im_good wd_458) rfl rfl rfl (hts _ wd_6) (hts _ wd_455) (by decide +kernel) ⟨Nat.le_of_ble_eq_true rfl, Nat.le_of_ble_eq_true rfl⟩), hts _ wd_456, hts _ wd_457⟩ (im_preV im_NW_ok hK hN hH (ci := 2) rfl rfl h25 _) rfl rfl hl.1 rfl (lv_room (Nat.le_of_ble_eq_true rfl)) d_LT_readPlain_31 ⟨Nat.le_of_ble_eq_true rfl, Nat.le_of_ble_eq_true rfl⟩) hH (fun H locs hH => ?_)
    obtain ⟨rfl, hn⟩ := im_rz_s hsh
    exact im_zret hx hb hr hlk hn hH d_LT_readPlain_34
  · have hsh := im_if hsh cc
    refine lv_iconst (v := 0) hx hb d_LT_readPlain_16 (by decide) ?_
    obtain ⟨rfl, hn⟩ := im_rz_s hsh
    exact im_zret hx hb hr hlk hn hH d_LT_readPlain_17
theorem wd_185 : (Jvm.Cond.fieldLink "LanguageTags" (72 : Nat) "LanguageTags" "secondForm" "LLanguageTags$Form;") ∈ im_T := im_memT (i := 185) (by decide +kernel) (by decide +kernel)
theorem wd_451 : (Jvm.Cond.methodLink "LanguageTags" (172 : Nat) ({ cls := "LanguageTags", name := "readPlain", desc := "(LLanguageTags$Form;II)Z" } : Jvm.MethodName)) ∈ im_T := im_memT (i := 451) (by decide +kernel) (by decide +kernel)
theorem wd_453 : (Jvm.Cond.instanceMethod ({ cls := "LanguageTags", name := "readPlain", desc := "(LLanguageTags$Form;II)Z" } : Jvm.MethodName)) ∈ im_T := im_memT (i := 453) (by decide +kernel) (by decide +kernel)
theorem wd_454 : (Jvm.Cond.code ({ cls := "LanguageTags", name := "readPlain", desc := "(LLanguageTags$Form;II)Z" } : Jvm.MethodName) prog_1_method_22_code (4 : Nat) (Option.some Jvm.ClassFile.FieldType.boolean)) ∈ im_T := im_memT (i := 454) (by decide +kernel) (by decide +kernel)
theorem wd_465 : (Jvm.Cond.methodLink "LanguageTags" (183 : Nat) ({ cls := "LanguageTags$Core", name := "hasScript", desc := "()Z" } : Jvm.MethodName)) ∈ im_T := im_memT (i := 465) (by decide +kernel) (by decide +kernel)
theorem wd_466 : (Jvm.Cond.methodLink "LanguageTags" (186 : Nat) ({ cls := "LanguageTags$Core", name := "hasRegion", desc := "()Z" } : Jvm.MethodName)) ∈ im_T := im_memT (i := 466) (by decide +kernel) (by decide +kernel)
theorem wd_467 : (Jvm.Cond.methodLink "LanguageTags" (189 : Nat) ({ cls := "LanguageTags$Pairs", name := "isFull", desc := "()Z" } : Jvm.MethodName)) ∈ im_T := im_memT (i := 467) (by decide +kernel) (by decide +kernel)
theorem wd_471 : (Jvm.Cond.methodLink "LanguageTags" (190 : Nat) ({ cls := "LanguageTags$Pairs", name := "formBehind", desc := "(LLanguageTags$Form;I)LLanguageTags$Form;" } : Jvm.MethodName)) ∈ im_T := im_memT (i := 471) (by decide +kernel) (by decide +kernel)
theorem wd_472 : (Jvm.Cond.instanceMethod ({ cls := "LanguageTags$Pairs", name := "formBehind", desc := "(LLanguageTags$Form;I)LLanguageTags$Form;" } : Jvm.MethodName)) ∈ im_T := im_memT (i := 472) (by decide +kernel) (by decide +kernel)
theorem wd_473 : (Jvm.Cond.selects "LanguageTags$Pairs" ({ cls := "LanguageTags$Pairs", name := "formBehind", desc := "(LLanguageTags$Form;I)LLanguageTags$Form;" } : Jvm.MethodName) ({ cls := "LanguageTags$Pairs", name := "formBehind", desc := "(LLanguageTags$Form;I)LLanguageTags$Form;" } : Jvm.MethodName)) ∈ im_T := im_memT (i := 473) (by decide +kernel) (by decide +kernel)
theorem wd_474 : (Jvm.Cond.code ({ cls := "LanguageTags$Pairs", name := "formBehind", desc := "(LLanguageTags$Form;I)LLanguageTags$Form;" } : Jvm.MethodName) prog_6_method_5_code (4 : Nat) (Option.some (Jvm.ClassFile.FieldType.object "LanguageTags$Form"))) ∈ im_T := im_memT (i := 474) (by decide +kernel) (by decide +kernel)
theorem wd_476 : (Jvm.Cond.methodLink "LanguageTags" (194 : Nat) ({ cls := "LanguageTags$Pairs", name := "append", desc := "(LLanguageTags$Form;LLanguageTags$Form;)V" } : Jvm.MethodName)) ∈ im_T := im_memT (i := 476) (by decide +kernel) (by decide +kernel)
theorem wd_477 : (Jvm.Cond.instanceMethod ({ cls := "LanguageTags$Pairs", name := "append", desc := "(LLanguageTags$Form;LLanguageTags$Form;)V" } : Jvm.MethodName)) ∈ im_T := im_memT (i := 477) (by decide +kernel) (by decide +kernel)
theorem wd_478 : (Jvm.Cond.selects "LanguageTags$Pairs" ({ cls := "LanguageTags$Pairs", name := "append", desc := "(LLanguageTags$Form;LLanguageTags$Form;)V" } : Jvm.MethodName) ({ cls := "LanguageTags$Pairs", name := "append", desc := "(LLanguageTags$Form;LLanguageTags$Form;)V" } : Jvm.MethodName)) ∈ im_T := im_memT (i := 478) (by decide +kernel) (by decide +kernel)
theorem wd_479 : (Jvm.Cond.code ({ cls := "LanguageTags$Pairs", name := "append", desc := "(LLanguageTags$Form;LLanguageTags$Form;)V" } : Jvm.MethodName) prog_6_method_4_code (3 : Nat) (Option.none : Option Jvm.ClassFile.FieldType)) ∈ im_T := im_memT (i := 479) (by decide +kernel) (by decide +kernel)
theorem d_LT_pair_0 : decode c_LT_pair 0 = .ok (.aload_n 0, 1) := by decide +kernel
theorem d_LT_pair_1 : decode c_LT_pair 1 = .ok (.getfield 14, 3) := by decide +kernel
theorem d_LT_pair_4 : decode c_LT_pair 4 = .ok (.bipush (61), 2) := by decide +kernel
theorem d_LT_pair_6 : decode c_LT_pair 6 = .ok (.invokevirtual 118, 3) := by decide +kernel
theorem d_LT_pair_9 : decode c_LT_pair 9 = .ok (.istore_n 2, 1) := by decide +kernel
theorem d_LT_pair_10 : decode c_LT_pair 10 = .ok (.iload_n 2, 1) := by decide +kernel
theorem d_LT_pair_11 : decode c_LT_pair 11 = .ok (.ifCond .lt (37), 3) := by decide +kernel
theorem d_LT_pair_14 : decode c_LT_pair 14 = .ok (.aload_n 0, 1) := by decide +kernel
theorem d_LT_pair_15 : decode c_LT_pair 15 = .ok (.aload_n 0, 1) := by decide +kernel
theorem d_LT_pair_16 : decode c_LT_pair 16 = .ok (.getfield 68, 3) := by decide +kernel
theorem d_LT_pair_19 : decode c_LT_pair 19 = .ok (.iconst 0, 1) := by decide +kernel
theorem d_LT_pair_20 : decode c_LT_pair 20 = .ok (.iload_n 2, 1) := by decide +kernel
theorem d_LT_pair_21 : decode c_LT_pair 21 = .ok (.invokevirtual 172, 3) := by decide +kernel
theorem d_LT_pair_24 : decode c_LT_pair 24 = .ok (.ifCond .eq (24), 3) := by decide +kernel
theorem d_LT_pair_27 : decode c_LT_pair 27 = .ok (.aload_n 0, 1) := by decide +kernel
theorem d_LT_pair_28 : decode c_LT_pair 28 = .ok (.aload_n 0, 1) := by decide +kernel
theorem d_LT_pair_29 : decode c_LT_pair 29 = .ok (.getfield 72, 3) := by decide +kernel
theorem d_LT_pair_32 : decode c_LT_pair 32 = .ok (.iload_n 2, 1) := by decide +kernel
theorem d_LT_pair_33 : decode c_LT_pair 33 = .ok (.iconst 1, 1) := by decide +kernel
theorem d_LT_pair_34 : decode c_LT_pair 34 = .ok (.iadd, 1) := by decide +kernel
theorem d_LT_pair_35 : decode c_LT_pair 35 = .ok (.aload_n 0, 1) := by decide +kernel
theorem d_LT_pair_36 : decode c_LT_pair 36 = .ok (.getfield 14, 3) := by decide +kernel
theorem d_LT_pair_39 : decode c_LT_pair 39 = .ok (.invokevirtual 126, 3) := by decide +kernel
theorem d_LT_pair_42 : decode c_LT_pair 42 = .ok (.invokevirtual 172, 3) := by decide +kernel
theorem d_LT_pair_45 : decode c_LT_pair 45 = .ok (.ifCond .ne (5), 3) := by decide +kernel
theorem d_LT_pair_48 : decode c_LT_pair 48 = .ok (.iconst (-1), 1) := by decide +kernel
theorem d_LT_pair_49 : decode c_LT_pair 49 = .ok (.ireturn, 1) := by decide +kernel
theorem d_LT_pair_50 : decode c_LT_pair 50 = .ok (.iload_n 1, 1) := by decide +kernel
theorem d_LT_pair_51 : decode c_LT_pair 51 = .ok (.ifCond .eq (32), 3) := by decide +kernel
theorem d_LT_pair_54 : decode c_LT_pair 54 = .ok (.aload_n 0, 1) := by decide +kernel
theorem d_LT_pair_55 : decode c_LT_pair 55 = .ok (.getfield 68, 3) := by decide +kernel
theorem d_LT_pair_58 : decode c_LT_pair 58 = .ok (.aload_n 0, 1) := by decide +kernel
theorem d_LT_pair_59 : decode c_LT_pair 59 = .ok (.getfield 72, 3) := by decide +kernel
theorem d_LT_pair_62 : decode c_LT_pair 62 = .ok (.aload_n 0, 1) := by decide +kernel
theorem d_LT_pair_63 : decode c_LT_pair 63 = .ok (.getfield 72, 3) := by decide +kernel
theorem d_LT_pair_66 : decode c_LT_pair 66 = .ok (.invokevirtual 160, 3) := by decide +kernel
theorem d_LT_pair_69 : decode c_LT_pair 69 = .ok (.invokevirtual 176, 3) := by decide +kernel
theorem d_LT_pair_72 : decode c_LT_pair 72 = .ok (.ifCond .ne (7), 3) := by decide +kernel
theorem d_LT_pair_75 : decode c_LT_pair 75 = .ok (.iconst 1, 1) := by decide +kernel
theorem d_LT_pair_76 : decode c_LT_pair 76 = .ok (.goto (38), 3) := by decide +kernel
theorem d_LT_pair_79 : decode c_LT_pair 79 = .ok (.iconst 0, 1) := by decide +kernel
theorem d_LT_pair_80 : decode c_LT_pair 80 = .ok (.goto (34), 3) := by decide +kernel
theorem d_LT_pair_83 : decode c_LT_pair 83 = .ok (.aload_n 0, 1) := by decide +kernel
theorem d_LT_pair_84 : decode c_LT_pair 84 = .ok (.getfield 72, 3) := by decide +kernel
theorem d_LT_pair_87 : decode c_LT_pair 87 = .ok (.getfield 180, 3) := by decide +kernel
theorem d_LT_pair_90 : decode c_LT_pair 90 = .ok (.invokevirtual 183, 3) := by decide +kernel
theorem d_LT_pair_93 : decode c_LT_pair 93 = .ok (.ifCond .eq (20), 3) := by decide +kernel
theorem d_LT_pair_96 : decode c_LT_pair 96 = .ok (.aload_n 0, 1) := by decide +kernel
theorem d_LT_pair_97 : decode c_LT_pair 97 = .ok (.getfield 72, 3) := by decide +kernel
theorem d_LT_pair_100 : decode c_LT_pair 100 = .ok (.getfield 180, 3) := by decide +kernel
theorem d_LT_pair_103 : decode c_LT_pair 103 = .ok (.invokevirtual 186, 3) := by decide +kernel
theorem d_LT_pair_106 : decode c_LT_pair 106 = .ok (.ifCond .eq (7), 3) := by decide +kernel
theorem d_LT_pair_109 : decode c_LT_pair 109 = .ok (.iconst 1, 1) := by decide +kernel
theorem d_LT_pair_110 : decode c_LT_pair 110 = .ok (.goto (4), 3) := by decide +kernel
theorem d_LT_pair_113 : decode c_LT_pair 113 = .ok (.iconst 0, 1) := by decide +kernel
theorem d_LT_pair_114 : decode c_LT_pair 114 = .ok (.istore_n 3, 1) := by decide +kernel
theorem d_LT_pair_115 : decode c_LT_pair 115 = .ok (.iload_n 3, 1) := by decide +kernel
theorem d_LT_pair_116 : decode c_LT_pair 116 = .ok (.ifCond .ne (5), 3) := by decide +kernel
theorem d_LT_pair_119 : decode c_LT_pair 119 = .ok (.iconst (-1), 1) := by decide +kernel
theorem d_LT_pair_120 : decode c_LT_pair 120 = .ok (.ireturn, 1) := by decide +kernel
theorem d_LT_pair_121 : decode c_LT_pair 121 = .ok (.iload_n 1, 1) := by decide +kernel
theorem d_LT_pair_122 : decode c_LT_pair 122 = .ok (.ifCond .eq (10), 3) := by decide +kernel
theorem d_LT_pair_125 : decode c_LT_pair 125 = .ok (.aload_n 0, 1) := by decide +kernel
theorem d_LT_pair_126 : decode c_LT_pair 126 = .ok (.getfield 42, 3) := by decide +kernel
theorem d_LT_pair_129 : decode c_LT_pair 129 = .ok (.goto (7), 3) := by decide +kernel
theorem d_LT_pair_132 : decode c_LT_pair 132 = .ok (.aload_n 0, 1) := by decide +kernel
theorem d_LT_pair_133 : decode c_LT_pair 133 = .ok (.getfield 38, 3) := by decide +kernel
theorem d_LT_pair_136 : decode c_LT_pair 136 = .ok (.astore 4, 2) := by decide +kernel
theorem d_LT_pair_138 : decode c_LT_pair 138 = .ok (.aload 4, 2) := by decide +kernel
theorem d_LT_pair_140 : decode c_LT_pair 140 = .ok (.invokevirtual 189, 3) := by decide +kernel
theorem d_LT_pair_143 : decode c_LT_pair 143 = .ok (.ifCond .ne (22), 3) := by decide +kernel
theorem d_LT_pair_146 : decode c_LT_pair 146 = .ok (.aload 4, 2) := by decide +kernel
theorem d_LT_pair_148 : decode c_LT_pair 148 = .ok (.aload_n 0, 1) := by decide +kernel
theorem d_LT_pair_149 : decode c_LT_pair 149 = .ok (.getfield 68, 3) := by decide +kernel
theorem d_LT_pair_152 : decode c_LT_pair 152 = .ok (.aload_n 0, 1) := by decide +kernel
theorem d_LT_pair_153 : decode c_LT_pair 153 = .ok (.getfield 68, 3) := by decide +kernel
theorem d_LT_pair_156 : decode c_LT_pair 156 = .ok (.invokevirtual 160, 3) := by decide +kernel
theorem d_LT_pair_159 : decode c_LT_pair 159 = .ok (.invokevirtual 190, 3) := by decide +kernel
theorem d_LT_pair_162 : decode c_LT_pair 162 = .ok (.ifnull (6), 3) := by decide +kernel
theorem d_LT_pair_165 : decode c_LT_pair 165 = .ok (.bipush (-2), 2) := by decide +kernel
theorem d_LT_pair_167 : decode c_LT_pair 167 = .ok (.ireturn, 1) := by decide +kernel
theorem d_LT_pair_168 : decode c_LT_pair 168 = .ok (.aload 4, 2) := by decide +kernel
theorem d_LT_pair_170 : decode c_LT_pair 170 = .ok (.aload_n 0, 1) := by decide +kernel
theorem d_LT_pair_171 : decode c_LT_pair 171 = .ok (.getfield 68, 3) := by decide +kernel
theorem d_LT_pair_174 : decode c_LT_pair 174 = .ok (.aload_n 0, 1) := by decide +kernel
theorem d_LT_pair_175 : decode c_LT_pair 175 = .ok (.getfield 72, 3) := by decide +kernel
theorem d_LT_pair_178 : decode c_LT_pair 178 = .ok (.invokevirtual 194, 3) := by decide +kernel
theorem d_LT_pair_181 : decode c_LT_pair 181 = .ok (.aload_n 0, 1) := by decide +kernel
theorem d_LT_pair_182 : decode c_LT_pair 182 = .ok (.getfield 14, 3) := by decide +kernel
theorem d_LT_pair_185 : decode c_LT_pair 185 = .ok (.invokevirtual 115, 3) := by decide +kernel
theorem d_LT_pair_188 : decode c_LT_pair 188 = .ok (.aload 4, 2) := by decide +kernel
theorem d_LT_pair_190 : decode c_LT_pair 190 = .ok (.invokevirtual 197, 3) := by decide +kernel
theorem d_LT_pair_193 : decode c_LT_pair 193 = .ok (.ireturn, 1) := by decide +kernel
def sh_LT_pair_48 (F : Nat)  (w : im_W) : Option (Int32 × im_W) :=
  some ((-1 : Int32), w)
set_option maxHeartbeats 4000000 in
set_option maxRecDepth 100000 in
theorem bk_LT_pair_48 {F : Nat} {r : Int32 × im_W} (X : im_X D vwCl tA lo im_NW c_LT_pair 5 (some .int) RC_LT im_T p s m args meth c)  (w : im_W) (hsh : sh_LT_pair_48 F w = some r) : im_WW D vwCl tA lo 5 p l e (im_rm 7 164) s m args below meth c 0 0 (MQ below (im_Post D vwCl tA lo (some (.int r.1)) r.2) args s 0 0 (fun q => lo ≤ q)) 48 [] [] w := by
  obtain ⟨hx, hb, hr, hts, hown, hlk, hml, hK, hN⟩ := id X
  intro H locs ls hH hl
  unfold sh_LT_pair_48 at hsh
  refine lv_iconst (v := -1) hx hb d_LT_pair_48 (by decide) ?_
  obtain rfl := Option.some.inj hsh
  exact im_iret hx hb hr hlk hH d_LT_pair_49
def sh_LT_pair_165 (F : Nat)  (w : im_W) : Option (Int32 × im_W) :=
  some ((-2 : Int32), w)
set_option maxHeartbeats 4000000 in
set_option maxRecDepth 100000 in
theorem bk_LT_pair_165 {F : Nat} {r : Int32 × im_W} (X : im_X D vwCl tA lo im_NW c_LT_pair 5 (some .int) RC_LT im_T p s m args meth c)  (w : im_W) (hsh : sh_LT_pair_165 F w = some r) : im_WW D vwCl tA lo 5 p l e (im_rm 7 164) s m args below meth c 0 0 (MQ below (im_Post D vwCl tA lo (some (.int r.1)) r.2) args s 0 0 (fun q => lo ≤ q)) 165 [] [] w := by
  obtain ⟨hx, hb, hr, hts, hown, hlk, hml, hK, hN⟩ := id X
  intro H locs ls hH hl
  unfold sh_LT_pair_165 at hsh
  refine lv_bipush (v := -2) hx hb d_LT_pair_165 (by decide) ?_
  obtain rfl := Option.some.inj hsh
  exact im_iret hx hb hr hlk hH d_LT_pair_167
def sh_LT_pair_136 (F : Nat) (x0 : Nat) (y0 : Nat) (w : im_W) : Option (Int32 × im_W) :=
  (im_is w 4 y0).bind fun u1 => im_b2 (sh_Pairs_isFull F y0 w) fun v7 w5 => (if v7 = 0 then (im_gR w5 8 x0 9).bind fun f8 => (im_gR w5 8 x0 9).bind fun f10 => (im_is w5 2 f10).bind fun u12 => im_b2 (sh_Form_count F f10 w5) fun v18 w16 => (im_is w16 4 y0).bind fun u19 => im_b2 (sh_Pairs_formBehind F y0 f8 v18 w16) fun v25 w23 => (im_nul v25 ((im_gR w23 8 x0 9).bind fun f27 => (im_gR w23 8 x0 10).bind fun f29 => (im_is w23 4 y0).bind fun u31 => (sh_Pairs_append F y0 f27 f29 w23).bind fun w35 => (im_gR w35 8 x0 0).bind fun f37 => (im_is w35 7 f37).bind fun u39 => (sh_Text_clear F f37 w35).bind fun w43 => (im_is w43 4 y0).bind fun u45 => im_b2 (sh_Pairs_count F y0 w43) fun v51 w49 => some (v51, w49)) fun a26 => sh_LT_pair_165 F w23) else sh_LT_pair_165 F w5)
set_option maxHeartbeats 4000000 in
set_option maxRecDepth 100000 in
theorem bk_LT_pair_136 {F : Nat} {r : Int32 × im_W} (X : im_X D vwCl tA lo im_NW c_LT_pair 5 (some .int) RC_LT im_T p s m args meth c) (x0 : Nat) (y0 : Nat) (w : im_W) (hsh : sh_LT_pair_136 F x0 y0 w = some r) : im_WW D vwCl tA lo 5 p l e (im_rm 7 164) s m args below meth c 0 0 (MQ below (im_Post D vwCl tA lo (some (.int r.1)) r.2) args s 0 0 (fun q => lo ≤ q)) 136 [(0, .ref (lo + x0))] [.ref (lo + y0)] w := by
  obtain ⟨hx, hb, hr, hts, hown, hlk, hml, hK, hN⟩ := id X
  intro H locs ls hH hl
  unfold sh_LT_pair_136 at hsh
  refine lv_astore (lv' := [(4, .ref (lo + y0)), (0, .ref (lo + x0))]) hx hb d_LT_pair_136 hl (by decide) rfl (fun ls hl => ?_)
  refine lv_aload hx hb d_LT_pair_138 (lv_at hl 0 rfl) ?_
  obtain ⟨u1, h2, hsh⟩ := im_bd hsh
  obtain ⟨g3, h4⟩ := im_is_s h2
  obtain ⟨v7, w5, h6, hsh⟩ := im_bd2 hsh
  refine im_afterI (va_runV (As := []) (rest := []) (C := RC_Pairs) ⟨hx, hb, hml, hown, hts⟩ (met_Pairs_isFull h6) ⟨(callB_of 0 hts (im_good wd_470) rfl rfl rfl (hts _ wd_5) (hts _ wd_467) (by decide +kernel) ⟨Nat.le_of_ble_eq_true rfl, Nat.le_of_ble_eq_true rfl⟩), hts _ wd_468, hts _ wd_469⟩ (im_preV im_NW_ok hK hN hH (ci := 4) rfl rfl h4 _) rfl rfl hl.1 rfl (lv_room (Nat.le_of_ble_eq_true rfl)) d_LT_pair_140 ⟨Nat.le_of_ble_eq_true rfl, Nat.le_of_ble_eq_true rfl⟩) hH (fun H locs hH => ?_)
  refine lv_if_ne (tgt := 165) hx hb d_LT_pair_143 (by decide) (fun cc => ?_) (fun cc => ?_)
  · have hsh := im_if hsh cc
    exact bk_LT_pair_165 X w5 hsh H locs ls hH (lv_sub hl [] rfl)
  · have hsh := im_it hsh cc
    refine lv_aload hx hb d_LT_pair_146 (lv_at hl 0 rfl) ?_
    refine lv_aload_n hx hb d_LT_pair_148 rfl (lv_at hl 1 rfl) ?_
    obtain ⟨f8, h9, hsh⟩ := im_bd hsh
    refine im_getR hx hb hts inC_LT hown hK hH (ci := 8) rfl 9 (by decide) (hts _ wd_184) rfl h9 d_LT_pair_149 ?_
    refine lv_aload_n hx hb d_LT_pair_152 rfl (lv_at hl 1 rfl) ?_
    obtain ⟨f10, h11, hsh⟩ := im_bd hsh
    refine im_getR hx hb hts inC_LT hown hK hH (ci := 8) rfl 9 (by decide) (hts _ wd_184) rfl h11 d_LT_pair_153 ?_
    obtain ⟨u12, h13, hsh⟩ := im_bd hsh
    obtain ⟨g14, h15⟩ := im_is_s h13
    obtain ⟨v18, w16, h17, hsh⟩ := im_bd2 hsh
    refine im_afterI (va_runV (As := []) (rest := [.ref (lo + f8), .ref (lo + y0)]) (C := RC_Form) ⟨hx, hb, hml, hown, hts⟩ (met_Form_count h17) ⟨(callB_of 0 hts (im_good wd_425) rfl rfl rfl (hts _ wd_6) (hts _ wd_422) (by decide +kernel) ⟨Nat.le_of_ble_eq_true rfl, Nat.le_of_ble_eq_true rfl⟩), hts _ wd_423, hts _ wd_424⟩ (im_preV im_NW_ok hK hN hH (ci := 2) rfl rfl h15 _) rfl rfl hl.1 rfl (lv_room (Nat.le_of_ble_eq_true rfl)) d_LT_pair_156 ⟨Nat.le_of_ble_eq_true rfl, Nat.le_of_ble_eq_true rfl⟩) hH (fun H locs hH => ?_)
    obtain ⟨u19, h20, hsh⟩ := im_bd hsh
    obtain ⟨g21, h22⟩ := im_is_s h20
    obtain ⟨v25, w23, h24, hsh⟩ := im_bd2 hsh
    refine im_afterQ (va_runV (As := [.ref (lo + f8), .int v18]) (rest := []) (C := RC_Pairs) ⟨hx, hb, hml, hown, hts⟩ (met_Pairs_formBehind h24) ⟨(callB_of 2 hts (im_good wd_474) rfl rfl rfl (hts _ wd_5) (hts _ wd_471) (by decide +kernel) ⟨Nat.le_of_ble_eq_true rfl, Nat.le_of_ble_eq_true rfl⟩), hts _ wd_472, hts _ wd_473⟩ (im_preV im_NW_ok hK hN hH (ci := 4) rfl rfl h22 _) rfl rfl hl.1 rfl (lv_room (Nat.le_of_ble_eq_true rfl)) d_LT_pair_159 ⟨Nat.le_of_ble_eq_true rfl, Nat.le_of_ble_eq_true rfl⟩) hH (fun H locs hH => ?_)
    cases v25 with
    | none =>
      have hsh := im_nul_n hsh
      refine lv_ifnullN hx hb d_LT_pair_162 (tgt := 168) (by decide) ?_
      refine lv_aload hx hb d_LT_pair_168 (lv_at hl 0 rfl) ?_
      refine lv_aload_n hx hb d_LT_pair_170 rfl (lv_at hl 1 rfl) ?_
      obtain ⟨f27, h28, hsh⟩ := im_bd hsh
      refine im_getR hx hb hts inC_LT hown hK hH (ci := 8) rfl 9 (by decide) (hts _ wd_184) rfl h28 d_LT_pair_171 ?_
      refine lv_aload_n hx hb d_LT_pair_174 rfl (lv_at hl 1 rfl) ?_
      obtain ⟨f29, h30, hsh⟩ := im_bd hsh
      refine im_getR hx hb hts inC_LT hown hK hH (ci := 8) rfl 10 (by decide) (hts _ wd_185) rfl h30 d_LT_pair_175 ?_
      obtain ⟨u31, h32, hsh⟩ := im_bd hsh
      obtain ⟨g33, h34⟩ := im_is_s h32
      obtain ⟨w35, h36, hsh⟩ := im_bd hsh
      refine im_afterV (va_runV (As := [.ref (lo + f27), .ref (lo + f29)]) (rest := []) (C := RC_Pairs) ⟨hx, hb, hml, hown, hts⟩ (met_Pairs_append h36) ⟨(callB_of 2 hts (im_good wd_479) rfl rfl rfl (hts _ wd_5) (hts _ wd_476) (by decide +kernel) ⟨Nat.le_of_ble_eq_true rfl, Nat.le_of_ble_eq_true rfl⟩), hts _ wd_477, hts _ wd_478⟩ (im_preV im_NW_ok hK hN hH (ci := 4) rfl rfl h34 _) rfl rfl hl.1 rfl (lv_room (Nat.le_of_ble_eq_true rfl)) d_LT_pair_178 ⟨Nat.le_of_ble_eq_true rfl, Nat.le_of_ble_eq_true rfl⟩) hH (fun H locs hH => ?_)
      refine lv_aload_n hx hb d_LT_pair_181 rfl (lv_at hl 1 rfl) ?_
      obtain ⟨f37, h38, hsh⟩ := im_bd hsh
      refine im_getR hx hb hts inC_LT hown hK hH (ci := 8) rfl 0 (by decide) (hts _ wd_175) rfl h38 d_LT_pair_182 ?_
      obtain ⟨u39, h40, hsh⟩ := im_bd hsh
      obtain ⟨g41, h42⟩ := im_is_s h40
      obtain ⟨w43, h44, hsh⟩ := im_bd hsh
      refine im_afterV (va_runV (As := []) (rest := []) (C := RC_Text) ⟨hx, hb, hml, hown, hts⟩ (met_Text_clear h44) ⟨(callB_of 0 hts (im_good wd_253) rfl rfl rfl (hts _ wd_2) (hts _ wd_250) (by decide +kernel) ⟨Nat.le_of_ble_eq_true rfl, Nat.le_of_ble_eq_true rfl⟩), hts _ wd_251, hts _ wd_252⟩ (im_preV im_NW_ok hK hN hH (ci := 7) rfl rfl h42 _) rfl rfl hl.1 rfl (lv_room (Nat.le_of_ble_eq_true rfl)) d_LT_pair_185 ⟨Nat.le_of_ble_eq_true rfl, Nat.le_of_ble_eq_true rfl⟩) hH (fun H locs hH => ?_)
      refine lv_aload hx hb d_LT_pair_188 (lv_at hl 0 rfl) ?_
      obtain ⟨u45, h46, hsh⟩ := im_bd hsh
      obtain ⟨g47, h48⟩ := im_is_s h46
      obtain ⟨v51, w49, h50, hsh⟩ := im_bd2 hsh
      refine im_afterI (va_runV (As := []) (rest := []) (C := RC_Pairs) ⟨hx, hb, hml, hown, hts⟩ (met_Pairs_count h50) ⟨(callB_of 0 hts (im_good wd_301) rfl rfl rfl (hts _ wd_5) (hts _ wd_298) (by decide +kernel) ⟨Nat.le_of_ble_eq_true rfl, Nat.le_of_ble_eq_true rfl⟩), hts _ wd_299, hts _ wd_300⟩ (im_preV im_NW_ok hK hN hH (ci := 4) rfl rfl h48 _) rfl rfl hl.1 rfl (lv_room (Nat.le_of_ble_eq_true rfl)) d_LT_pair_190 ⟨Nat.le_of_ble_eq_true rfl, Nat.le_of_ble_eq_true rfl⟩) hH (fun H locs hH => ?_)
      obtain rfl := Option.some.inj hsh
      exact im_iret hx hb hr hlk hH d_LT_pair_193
    | some a26 =>
      have hsh := im_nul_s hsh
      refine lv_ifnull hx hb d_LT_pair_162 ?_
      exact bk_LT_pair_165 X w23 hsh H locs ls hH (lv_sub hl [] rfl)
def sh_LT_pair_114 (F : Nat) (x0 : Nat) (x1 : Int32) (y0 : Int32) (w : im_W) : Option (Int32 × im_W) :=
  (if y0 = 0 then some ((-1 : Int32), w) else (if x1 = 0 then (im_gR w 8 x0 4).bind fun f1 => sh_LT_pair_136 F x0 f1 w else (im_gR w 8 x0 5).bind fun f3 => sh_LT_pair_136 F x0 f3 w))
set_option maxHeartbeats 4000000 in
set_option maxRecDepth 100000 in
theorem bk_LT_pair_114 {F : Nat} {r : Int32 × im_W} (X : im_X D vwCl tA lo im_NW c_LT_pair 5 (some .int) RC_LT im_T p s m args meth c) (x0 : Nat) (x1 : Int32) (y0 : Int32) (w : im_W) (hsh : sh_LT_pair_114 F x0 x1 y0 w = some r) : im_WW D vwCl tA lo 5 p l e (im_rm 7 164) s m args below meth c 0 0 (MQ below (im_Post D vwCl tA lo (some (.int r.1)) r.2) args s 0 0 (fun q => lo ≤ q)) 114 [(0, .ref (lo + x0)), (1, .int x1)] [.int y0] w := by
  obtain ⟨hx, hb, hr, hts, hown, hlk, hml, hK, hN⟩ := id X
  intro H locs ls hH hl
  unfold sh_LT_pair_114 at hsh
  refine lv_istore_n (lv' := [(3, .int y0), (0, .ref (lo + x0)), (1, .int x1)]) hx hb d_LT_pair_114 rfl hl (by decide) rfl (fun ls hl => ?_)
  refine lv_iload_n hx hb d_LT_pair_115 rfl (lv_at hl 0 rfl) ?_
  refine lv_if_ne (tgt := 121) hx hb d_LT_pair_116 (by decide) (fun cc => ?_) (fun cc => ?_)
  · have hsh := im_if hsh cc
    refine lv_iload_n hx hb d_LT_pair_121 rfl (lv_at hl 2 rfl) ?_
    refine lv_if_eq (tgt := 132) hx hb d_LT_pair_122 (by decide) (fun cc => ?_) (fun cc => ?_)
    · have hsh := im_it hsh cc
      refine lv_aload_n hx hb d_LT_pair_132 rfl (lv_at hl 1 rfl) ?_
      obtain ⟨f1, h2, hsh⟩ := im_bd hsh
      refine im_getR hx hb hts inC_LT hown hK hH (ci := 8) rfl 4 (by decide) (hts _ wd_179) rfl h2 d_LT_pair_133 ?_
      exact bk_LT_pair_136 X x0 f1 w hsh H locs ls hH (lv_sub hl [1] rfl)
    · have hsh := im_if hsh cc
      refine lv_aload_n hx hb d_LT_pair_125 rfl (lv_at hl 1 rfl) ?_
      obtain ⟨f3, h4, hsh⟩ := im_bd hsh
      refine im_getR hx hb hts inC_LT hown hK hH (ci := 8) rfl 5 (by decide) (hts _ wd_180) rfl h4 d_LT_pair_126 ?_
      refine lv_goto (tgt := 136) hx hb d_LT_pair_129 (by decide) ?_
      exact bk_LT_pair_136 X x0 f3 w hsh H locs ls hH (lv_sub hl [1] rfl)
  · have hsh := im_it hsh cc
    refine lv_iconst (v := -1) hx hb d_LT_pair_119 (by decide) ?_
    obtain rfl := Option.some.inj hsh
    exact im_iret hx hb hr hlk hH d_LT_pair_120
def sh_LT_pair_113 (F : Nat) (x0 : Nat) (x1 : Int32) (w : im_W) : Option (Int32 × im_W) :=
  sh_LT_pair_114 F x0 x1 (0 : Int32) w
set_option maxHeartbeats 4000000 in
set_option maxRecDepth 100000 in
theorem bk_LT_pair_113 {F : Nat} {r : Int32 × im_W} (X : im_X D vwCl tA lo im_NW c_LT_pair 5 (some .int) RC_LT im_T p s m args meth c) (x0 : Nat) (x1 : Int32) (w : im_W) (hsh : sh_LT_pair_113 F x0 x1 w = some r) : im_WW D vwCl tA lo 5 p l e (im_rm 7 164) s m args below meth c 0 0 (MQ below (im_Post D vwCl tA lo (some (.int r.1)) r.2) args s 0 0 (fun q => lo ≤ q)) 113 [(0, .ref (lo + x0)), (1, .int x1)] [] w := by
  obtain ⟨hx, hb, hr, hts, hown, hlk, hml, hK, hN⟩ := id X
  intro H locs ls hH hl
  unfold sh_LT_pair_113 at hsh
  refine lv_iconst (v := 0) hx hb d_LT_pair_113 (by decide) ?_
  exact bk_LT_pair_114 X x0 x1 (0 : Int32) w hsh H locs ls hH (lv_sub hl [0, 1] rfl)
def sh_LT_pair (F : Nat) (x0 : Nat) (x1 : Int32) (w : im_W) : Option (Int32 × im_W) :=
  (im_gR w 8 x0 0).bind fun f1 => (im_is w 7 f1).bind fun u3 => im_b2 (sh_Text_placeOf F f1 (61 : Int32) w) fun v9 w7 => (if v9 < 0 then sh_LT_pair_48 F w7 else (im_gR w7 8 x0 9).bind fun f10 => (im_is w7 8 x0).bind fun u12 => im_b2 (sh_LT_readPlain F x0 f10 (0 : Int32) v9 w7) fun v18 w16 => (if v18 = 0 then sh_LT_pair_48 F w16 else (im_gR w16 8 x0 10).bind fun f19 => (im_gR w16 8 x0 0).bind fun f21 => (im_is w16 7 f21).bind fun u23 => im_b2 (sh_Text_length F f21 w16) fun v29 w27 => (im_is w27 8 x0).bind fun u30 => im_b2 (sh_LT_readPlain F x0 f19 (v9 + (1 : Int32)) v29 w27) fun v36 w34 => (if v36 = 0 then sh_LT_pair_48 F w34 else (if x1 = 0 then (im_gR w34 8 x0 10).bind fun f37 => (im_gR w34 2 f37 0).bind fun f39 => (im_is w34 1 f39).bind fun u41 => im_b2 (sh_Core_hasScript F f39 w34) fun v47 w45 => (if v47 = 0 then sh_LT_pair_113 F x0 x1 w45 else (im_gR w45 8 x0 10).bind fun f48 => (im_gR w45 2 f48 0).bind fun f50 => (im_is w45 1 f50).bind fun u52 => im_b2 (sh_Core_hasRegion F f50 w45) fun v58 w56 => (if v58 = 0 then sh_LT_pair_113 F x0 x1 w56 else sh_LT_pair_114 F x0 x1 (1 : Int32) w56)) else (im_gR w34 8 x0 9).bind fun f59 => (im_gR w34 8 x0 10).bind fun f61 => (im_gR w34 8 x0 10).bind fun f63 => (im_is w34 2 f63).bind fun u65 => im_b2 (sh_Form_count F f63 w34) fun v71 w69 => (im_is w69 2 f59).bind fun u72 => im_b2 (sh_Form_isStartOf F f59 f61 v71 w69) fun v78 w76 => (if v78 = 0 then sh_LT_pair_114 F x0 x1 (1 : Int32) w76 else sh_LT_pair_114 F x0 x1 (0 : Int32) w76)))))
set_option maxHeartbeats 4000000 in
set_option maxRecDepth 100000 in
theorem met_LT_pair {F : Nat} {x0 : Nat} {x1 : Int32} {w : im_W} {r : Int32 × im_W} (hsh : sh_LT_pair F x0 x1 w = some r) : Met l y_LT_pair (Cond.code y_LT_pair c_LT_pair 5 (some .int) :: im_T) (im_rm 7 164) (im_Pre D vwCl tA lo im_NW [.ref (lo + x0), .int x1] w) (im_Post D vwCl tA lo (some (.int r.1)) r.2) 0 0 (fun q => lo ≤ q) := by
  refine im_ofW (cc := c_LT_pair) (nL := 5) (ret := (some .int)) (by decide) (Nat.le_of_ble_eq_true rfl) ?_
  intro p e s m args below meth c X H locs ls hH hl
  obtain ⟨hx, hb, hr, hts, hown, hlk, hml, hK, hN⟩ := id X
  have hl : lv_has ls 5 [(0, .ref (lo + x0)), (1, .int x1)] := hl
  unfold sh_LT_pair at hsh
  refine lv_aload_n hx hb d_LT_pair_0 rfl (lv_at hl 0 rfl) ?_
  obtain ⟨f1, h2, hsh⟩ := im_bd hsh
  refine im_getR hx hb hts inC_LT hown hK hH (ci := 8) rfl 0 (by decide) (hts _ wd_175) rfl h2 d_LT_pair_1 ?_
  refine lv_bipush (v := 61) hx hb d_LT_pair_4 (by decide) ?_
  obtain ⟨u3, h4, hsh⟩ := im_bd hsh
  obtain ⟨g5, h6⟩ := im_is_s h4
  obtain ⟨v9, w7, h8, hsh⟩ := im_bd2 hsh
  refine im_afterI (va_runV (As := [.int (61 : Int32)]) (rest := []) (C := RC_Text) ⟨hx, hb, hml, hown, hts⟩ (met_Text_placeOf h8) ⟨(callB_of 1 hts (im_good wd_261) rfl rfl rfl (hts _ wd_2) (hts _ wd_258) (by decide +kernel) ⟨Nat.le_of_ble_eq_true rfl, Nat.le_of_ble_eq_true rfl⟩), hts _ wd_259, hts _ wd_260⟩ (im_preV im_NW_ok hK hN hH (ci := 7) rfl rfl h6 _) rfl rfl hl.1 rfl (lv_room (Nat.le_of_ble_eq_true rfl)) d_LT_pair_6 ⟨Nat.le_of_ble_eq_true rfl, Nat.le_of_ble_eq_true rfl⟩) hH (fun H locs hH => ?_)
  refine lv_istore_n (lv' := [(2, .int v9), (0, .ref (lo + x0)), (1, .int x1)]) hx hb d_LT_pair_9 rfl hl (by decide) rfl (fun ls hl => ?_)
  refine lv_iload_n hx hb d_LT_pair_10 rfl (lv_at hl 0 rfl) ?_
  refine lv_if_lt (tgt := 48) hx hb d_LT_pair_11 (by decide) (fun cc => ?_) (fun cc => ?_)
  · have hsh := im_it hsh cc
    exact bk_LT_pair_48 X w7 hsh H locs ls hH (lv_sub hl [] rfl)
  · have hsh := im_if hsh cc
    refine lv_aload_n hx hb d_LT_pair_14 rfl (lv_at hl 1 rfl) ?_
    refine lv_aload_n hx hb d_LT_pair_15 rfl (lv_at hl 1 rfl) ?_
    obtain ⟨f10, h11, hsh⟩ := im_bd hsh
    refine im_getR hx hb hts inC_LT hown hK hH (ci := 8) rfl 9 (by decide) (hts _ wd_184) rfl h11 d_LT_pair_16 ?_
    refine lv_iconst (v := 0) hx hb d_LT_pair_19 (by decide) ?_
    refine lv_iload_n hx hb d_LT_pair_20 rfl (lv_at hl 0 rfl) ?_
    obtain ⟨u12, h13, hsh⟩ := im_bd hsh
    obtain ⟨g14, h15⟩ := im_is_s h13
    obtain ⟨v18, w16, h17, hsh⟩ := im_bd2 hsh
    refine im_afterI (va_runV (As := [.ref (lo + f10), .int (0 : Int32), .int v9]) (rest := []) (C := RC_LT) ⟨hx, hb, hml, hown, hts⟩ (met_LT_readPlain h17) ⟨(callB_of 3 hts (im_good wd_454) rfl rfl rfl (hts _ wd_1) (hts _ wd_451) (by decide +kernel) ⟨Nat.le_of_ble_eq_true rfl, Nat.le_of_ble_eq_true rfl⟩), hts _ wd_453, hts _ sl_LT_readPlain⟩ (im_preV im_NW_ok hK hN hH (ci := 8) rfl rfl h15 _) rfl rfl hl.1 rfl (lv_room (Nat.le_of_ble_eq_true rfl)) d_LT_pair_21 ⟨Nat.le_of_ble_eq_true rfl, Nat.le_of_ble_eq_true rfl⟩) hH (fun H locs hH => ?_)
    refine lv_if_eq (tgt := 48) hx hb d_LT_pair_24 (by decide) (fun cc => ?_) (fun cc => ?_)
    · have hsh := im_it hsh cc
      exact bk_LT_pair_48 X w16 hsh H locs ls hH (lv_sub hl [] rfl)
    · have hsh := im_if hsh cc
      refine lv_aload_n hx hb d_LT_pair_27 rfl (lv_at hl 1 rfl) ?_
      refine lv_aload_n hx hb d_LT_pair_28 rfl (lv_at hl 1 rfl) ?_
      obtain ⟨f19, h20, hsh⟩ := im_bd hsh
      refine im_getR hx hb hts inC_LT hown hK hH (ci := 8) rfl 10 (by decide) (hts _ wd_185) rfl h20 d_LT_pair_29 ?_
      refine lv_iload_n hx hb d_LT_pair_32 rfl (lv_at hl 0 rfl) ?_
      refine lv_iconst (v := 1) hx hb d_LT_pair_33 (by decide) ?_
      refine lv_iadd hx hb d_LT_pair_34 ?_
      refine lv_aload_n hx hb d_LT_pair_35 rfl (lv_at hl 1 rfl) ?_
      obtain ⟨f21, h22, hsh⟩ := im_bd hsh
      refine im_getR hx hb hts inC_LT hown hK hH (ci := 8) rfl 0 (by decide) (hts _ wd_175) rfl h22 d_LT_pair_36 ?_
      obtain ⟨u23, h24, hsh⟩ := im_bd hsh
      obtain ⟨g25, h26⟩ := im_is_s h24
      obtain ⟨v29, w27, h28, hsh⟩ := im_bd2 hsh
      refine im_afterI (va_runV (As := []) (rest := [.int (v9 + (1 : Int32)), .ref (lo + f19), .ref (lo + x0)]) (C := RC_Text) ⟨hx, hb, hml, hown, hts⟩ (met_Text_length h28) ⟨(callB_of 0 hts (im_good wd_274) rfl rfl rfl (hts _ wd_2) (hts _ wd_271) (by decide +kernel) ⟨Nat.le_of_ble_eq_true rfl, Nat.le_of_ble_eq_true rfl⟩), hts _ wd_272, hts _ wd_273⟩ (im_preV im_NW_ok hK hN hH (ci := 7) rfl rfl h26 _) rfl rfl hl.1 rfl (lv_room (Nat.le_of_ble_eq_true rfl)) d_LT_pair_39 ⟨Nat.le_of_ble_eq_true rfl, Nat.le_of_ble_eq_true rfl⟩) hH (fun H locs hH => ?_)
      obtain ⟨u30, h31, hsh⟩ := im_bd hsh
      obtain ⟨g32, h33⟩ := im_is_s h31
      obtain ⟨v36, w34, h35, hsh⟩ := im_bd2 hsh
      refine im_afterI (va_runV (As := [.ref (lo + f19), .int (v9 + (1 : Int32)), .int v29]) (rest := []) (C := RC_LT) ⟨hx, hb, hml, hown, hts⟩ (met_LT_readPlain h35) ⟨(callB_of 3 hts (im_good wd_454) rfl rfl rfl (hts _ wd_1) (hts _ wd_451) (by decide +kernel) ⟨Nat.le_of_ble_eq_true rfl, Nat.le_of_ble_eq_true rfl⟩), hts _ wd_453, hts _ sl_LT_readPlain⟩ (im_preV im_NW_ok hK hN hH (ci := 8) rfl rfl h33 _) rfl rfl hl.1 rfl (lv_room (Nat.le_of_ble_eq_true rfl)) d_LT_pair_42 ⟨Nat.le_of_ble_eq_true rfl, Nat.le_of_ble_eq_true rfl⟩) hH (fun H locs hH => ?_)
      refine lv_if_ne (tgt := 50) hx hb d_LT_pair_45 (by decide) (fun cc => ?_) (fun cc => ?_)
      · have hsh := im_if hsh cc
        refine lv_iload_n hx hb d_LT_pair_50 rfl (lv_at hl 2 rfl) ?_
        refine lv_if_eq (tgt := 83) hx hb d_LT_pair_51 (by decide) (fun cc => ?_) (fun cc => ?_)
        · have hsh := im_it hsh cc
          refine lv_aload_n hx hb d_LT_pair_83 rfl (lv_at hl 1 rfl) ?_
          obtain ⟨f37, h38, hsh⟩ := im_bd hsh
          refine im_getR hx hb hts inC_LT hown hK hH (ci := 8) rfl 10 (by decide) (hts _ wd_185) rfl h38 d_LT_pair_84 ?_
          obtain ⟨f39, h40, hsh⟩ := im_bd hsh
          refine im_getNR hx hb hts inC_Form hown hK hH (ci := 2) rfl 0 (by decide) (hN _ nw_106) rfl h40 d_LT_pair_87 ?_
          obtain ⟨u41, h42, hsh⟩ := im_bd hsh
          obtain ⟨g43, h44⟩ := im_is_s h42
          obtain ⟨v47, w45, h46, hsh⟩ := im_bd2 hsh
          refine im_afterI (va_runV (As := []) (rest := []) (C := RC_Core) ⟨hx, hb, hml, hown, hts⟩ (met_Core_hasScript h46) ⟨(callB_of 0 hts (im_good wd_399) rfl rfl rfl (hts _ wd_7) (hts _ wd_465) (by decide +kernel) ⟨Nat.le_of_ble_eq_true rfl, Nat.le_of_ble_eq_true rfl⟩), hts _ wd_397, hts _ wd_398⟩ (im_preV im_NW_ok hK hN hH (ci := 1) rfl rfl h44 _) rfl rfl hl.1 rfl (lv_room (Nat.le_of_ble_eq_true rfl)) d_LT_pair_90 ⟨Nat.le_of_ble_eq_true rfl, Nat.le_of_ble_eq_true rfl⟩) hH (fun H locs hH => ?_)
          refine lv_if_eq (tgt := 113) hx hb d_LT_pair_93 (by decide) (fun cc => ?_) (fun cc => ?_)
          · have hsh := im_it hsh cc
            exact bk_LT_pair_113 X x0 x1 w45 hsh H locs ls hH (lv_sub hl [1, 2] rfl)
          · have hsh := im_if hsh cc
            refine lv_aload_n hx hb d_LT_pair_96 rfl (lv_at hl 1 rfl) ?_
            obtain ⟨f48, h49, hsh⟩ := im_bd hsh
            refine im_getR hx hb hts inC_LT hown hK hH (ci := 8) rfl 10 (by decide) (hts _ wd_185) rfl h49 d_LT_pair_97 ?_
            obtain ⟨f50, h51, hsh⟩ := im_bd hsh
            refine im_getNR hx hb hts inC_Form hown hK hH (ci := 2) rfl 0 (by decide) (hN _ nw_106) rfl h51 d_LT_pair_100 ?_
            obtain ⟨u52, h53, hsh⟩ := im_bd hsh
            obtain ⟨g54, h55⟩ := im_is_s h53
            obtain ⟨v58, w56, h57, hsh⟩ := im_bd2 hsh
            refine im_afterI (va_runV (As := []) (rest := []) (C := RC_Core) ⟨hx, hb, hml, hown, hts⟩ (met_Core_hasRegion h57) ⟨(callB_of 0 hts (im_good wd_403) rfl rfl rfl (hts _ wd_7) (hts _ wd_466) (by decide +kernel) ⟨Nat.le_of_ble_eq_true rfl, Nat.le_of_ble_eq_true rfl⟩), hts _ wd_401, hts _ wd_402⟩ (im_preV im_NW_ok hK hN hH (ci := 1) rfl rfl h55 _) rfl rfl hl.1 rfl (lv_room (Nat.le_of_ble_eq_true rfl)) d_LT_pair_103 ⟨Nat.le_of_ble_eq_true rfl, Nat.le_of_ble_eq_true rfl⟩) hH (fun H locs hH => ?_)
            refine lv_if_eq (tgt := 113) hx hb d_LT_pair_106 (by decide) (fun cc => ?_) (fun cc => ?_)
            · have hsh := im_it hsh cc
              exact bk_LT_pair_113 X x0 x1 w56 hsh H locs ls hH (lv_sub hl [1, 2] rfl)
            · have hsh := im_if hsh cc
              refine lv_iconst (v := 1) hx hb d_LT_pair_109 (by decide) ?_
              refine lv_goto (tgt := 114) hx hb d_LT_pair_110 (by decide) ?_
              exact bk_LT_pair_114 X x0 x1 (1 : Int32) w56 hsh H locs ls hH (lv_sub hl [1, 2] rfl)
        · have hsh := im_if hsh cc
          refine lv_aload_n hx hb d_LT_pair_54 rfl (lv_at hl 1 rfl) ?_
          obtain ⟨f59, h60, hsh⟩ := im_bd hsh
          refine im_getR hx hb hts inC_LT hown hK hH (ci := 8) rfl 9 (by decide) (hts _ wd_184) rfl h60 d_LT_pair_55 ?_
          refine lv_aload_n hx hb d_LT_pair_58 rfl (lv_at hl 1 rfl) ?_
          obtain ⟨f61, h62, hsh⟩ := im_bd hsh
          refine im_getR hx hb hts inC_LT hown hK hH (ci := 8) rfl 10 (by decide) (hts _ wd_185) rfl h62 d_LT_pair_59 ?_
          refine lv_aload_n hx hb d_LT_pair_62 rfl (lv_at hl 1 rfl) ?_
          obtain ⟨f63, h64, hsh⟩ := im_bd hsh
          refine im_getR hx hb hts inC_LT hown hK hH (ci := 8) rfl 10 (by decide) (hts _ wd_185) rfl h64 d_LT_pair_63 ?_
          obtain ⟨u65, h66, hsh⟩ := im_bd hsh
          obtain ⟨g67, h68⟩ := im_is_s h66
          obtain ⟨v71, w69, h70, hsh⟩ := im_bd2 hsh
          refine im_afterI (va_runV (As := []) (rest := [.ref (lo + f61), .ref (lo + f59)]) (C := RC_Form) ⟨hx, hb, hml, hown, hts⟩ (met_Form_count h70) ⟨(callB_of 0 hts (im_good wd_425) rfl rfl rfl (hts _ wd_6) (hts _ wd_422) (by decide +kernel) ⟨Nat.le_of_ble_eq_true rfl, Nat.le_of_ble_eq_true rfl⟩), hts _ wd_423, hts _ wd_424⟩ (im_preV im_NW_ok hK hN hH (ci := 2) rfl rfl h68 _) rfl rfl hl.1 rfl (lv_room (Nat.le_of_ble_eq_true rfl)) d_LT_pair_66 ⟨Nat.le_of_ble_eq_true rfl, Nat.le_of_ble_eq_true rfl⟩) hH (fun H locs hH => ?_)
          obtain ⟨u72, h73, hsh⟩ := im_bd hsh
          obtain ⟨g74, h75⟩ := im_is_s h73
          obtain ⟨v78, w76, h77, hsh⟩ := im_bd2 hsh
          refine im_afterI (va_runV (As := [.ref (lo + f61), .int v71]) (rest := []) (C := RC_Form) ⟨hx, hb, hml, hown, hts⟩ (met_Form_isStartOf h77) ⟨(callB_of 2 hts (im_good wd_433) rfl rfl rfl (hts _ wd_6) (hts _ wd_430) (by decide +kernel) ⟨Nat.le_of_ble_eq_true rfl, Nat.le_of_ble_eq_true rfl⟩), hts _ wd_431, hts _ wd_432⟩ (im_preV im_NW_ok hK hN hH (ci := 2) rfl rfl h75 _) rfl rfl hl.1 rfl (lv_room (Nat.le_of_ble_eq_true rfl)) d_LT_pair_69 ⟨Nat.le_of_ble_eq_true rfl, Nat.le_of_ble_eq_true rfl⟩) hH (fun H locs hH => ?_)
          refine lv_if_ne (tgt := 79) hx hb d_LT_pair_72 (by decide) (fun cc => ?_) (fun cc => ?_)
          · have hsh := im_if hsh cc
            refine lv_iconst (v := 0) hx hb d_LT_pair_79 (by decide) ?_
            refine lv_goto (tgt := 114) hx hb d_LT_pair_80 (by decide) ?_
            exact bk_LT_pair_114 X x0 x1 (0 : Int32) w76 hsh H locs ls hH (lv_sub hl [1, 2] rfl)
          · have hsh := im_it hsh cc
            refine lv_iconst (v := 1) hx hb d_LT_pair_75 (by decide) ?_
            refine lv_goto (tgt := 114) hx hb d_LT_pair_76 (by decide) ?_
            exact bk_LT_pair_114 X x0 x1 (1 : Int32) w76 hsh H locs ls hH (lv_sub hl [1, 2] rfl)
      · have hsh := im_it hsh cc
        exact bk_LT_pair_48 X w34 hsh H locs ls hH (lv_sub hl [] rfl)
theorem d_LT_isTag_0 : decode c_LT_isTag 0 = .ok (.iload_n 1, 1) := by decide +kernel
theorem d_LT_isTag_1 : decode c_LT_isTag 1 = .ok (.ifCond .lt (15), 3) := by decide +kernel
theorem d_LT_isTag_4 : decode c_LT_isTag 4 = .ok (.iload_n 1, 1) := by decide +kernel
theorem d_LT_isTag_5 : decode c_LT_isTag 5 = .ok (.aload_n 0, 1) := by decide +kernel
theorem d_LT_isTag_6 : decode c_LT_isTag 6 = .ok (.getfield 85, 3) := by decide +kernel
theorem d_LT_isTag_9 : decode c_LT_isTag 9 = .ok (.if_icmp .ge (7), 3) := by decide +kernel
theorem d_LT_isTag_12 : decode c_LT_isTag 12 = .ok (.iconst 1, 1) := by decide +kernel
theorem d_LT_isTag_13 : decode c_LT_isTag 13 = .ok (.goto (4), 3) := by decide +kernel
theorem d_LT_isTag_16 : decode c_LT_isTag 16 = .ok (.iconst 0, 1) := by decide +kernel
theorem d_LT_isTag_17 : decode c_LT_isTag 17 = .ok (.ireturn, 1) := by decide +kernel
def sh_LT_isTag_17 (F : Nat) (y0 : Int32) (w : im_W) : Option (Int32 × im_W) :=
  im_rz y0 w
set_option maxHeartbeats 4000000 in
set_option maxRecDepth 100000 in
theorem bk_LT_isTag_17 {F : Nat} {r : Int32 × im_W} (X : im_X D vwCl tA lo im_NW c_LT_isTag 2 (some .boolean) RC_LT im_T p s m args meth c) (y0 : Int32) (w : im_W) (hsh : sh_LT_isTag_17 F y0 w = some r) : im_WW D vwCl tA lo 2 p l e (im_rm 0 0) s m args below meth c 0 0 (MQ below (im_Post D vwCl tA lo (some (.int r.1)) r.2) args s 0 0 (fun q => lo ≤ q)) 17 [] [.int y0] w := by
  obtain ⟨hx, hb, hr, hts, hown, hlk, hml, hK, hN⟩ := id X
  intro H locs ls hH hl
  unfold sh_LT_isTag_17 at hsh
  obtain ⟨rfl, hn⟩ := im_rz_s hsh
  exact im_zret hx hb hr hlk hn hH d_LT_isTag_17
def sh_LT_isTag_16 (F : Nat)  (w : im_W) : Option (Int32 × im_W) :=
  sh_LT_isTag_17 F (0 : Int32) w
set_option maxHeartbeats 4000000 in
set_option maxRecDepth 100000 in
theorem bk_LT_isTag_16 {F : Nat} {r : Int32 × im_W} (X : im_X D vwCl tA lo im_NW c_LT_isTag 2 (some .boolean) RC_LT im_T p s m args meth c)  (w : im_W) (hsh : sh_LT_isTag_16 F w = some r) : im_WW D vwCl tA lo 2 p l e (im_rm 0 0) s m args below meth c 0 0 (MQ below (im_Post D vwCl tA lo (some (.int r.1)) r.2) args s 0 0 (fun q => lo ≤ q)) 16 [] [] w := by
  obtain ⟨hx, hb, hr, hts, hown, hlk, hml, hK, hN⟩ := id X
  intro H locs ls hH hl
  unfold sh_LT_isTag_16 at hsh
  refine lv_iconst (v := 0) hx hb d_LT_isTag_16 (by decide) ?_
  exact bk_LT_isTag_17 X (0 : Int32) w hsh H locs ls hH (lv_sub hl [] rfl)
def sh_LT_isTag (F : Nat) (x0 : Nat) (x1 : Int32) (w : im_W) : Option (Int32 × im_W) :=
  (if x1 < 0 then sh_LT_isTag_16 F w else (im_gI w 8 x0 13).bind fun f1 => (if f1 ≤ x1 then sh_LT_isTag_16 F w else sh_LT_isTag_17 F (1 : Int32) w))
set_option maxHeartbeats 4000000 in
set_option maxRecDepth 100000 in
theorem met_LT_isTag {F : Nat} {x0 : Nat} {x1 : Int32} {w : im_W} {r : Int32 × im_W} (hsh : sh_LT_isTag F x0 x1 w = some r) : Met l y_LT_isTag (Cond.code y_LT_isTag c_LT_isTag 2 (some .boolean) :: im_T) (im_rm 0 0) (im_Pre D vwCl tA lo im_NW [.ref (lo + x0), .int x1] w) (im_Post D vwCl tA lo (some (.int r.1)) r.2) 0 0 (fun q => lo ≤ q) := by
  refine im_ofW (cc := c_LT_isTag) (nL := 2) (ret := (some .boolean)) (by decide) (Nat.le_of_ble_eq_true rfl) ?_
  intro p e s m args below meth c X H locs ls hH hl
  obtain ⟨hx, hb, hr, hts, hown, hlk, hml, hK, hN⟩ := id X
  have hl : lv_has ls 2 [(0, .ref (lo + x0)), (1, .int x1)] := hl
  unfold sh_LT_isTag at hsh
  refine lv_iload_n hx hb d_LT_isTag_0 rfl (lv_at hl 1 rfl) ?_
  refine lv_if_lt (tgt := 16) hx hb d_LT_isTag_1 (by decide) (fun cc => ?_) (fun cc => ?_)
  · have hsh := im_it hsh cc
    exact bk_LT_isTag_16 X w hsh H locs ls hH (lv_sub hl [] rfl)
  · have hsh := im_if hsh cc
    refine lv_iload_n hx hb d_LT_isTag_4 rfl (lv_at hl 1 rfl) ?_
    refine lv_aload_n hx hb d_LT_isTag_5 rfl (lv_at hl 0 rfl) ?_
    obtain ⟨f1, h2, hsh⟩ := im_bd hsh
    refine im_getI hx hb hts inC_LT hown hK hH (ci := 8) rfl 13 (by decide) (hts _ wd_188) rfl h2 d_LT_isTag_6 ?_
    refine lv_icmp_ge (tgt := 16) hx hb d_LT_isTag_9 (by decide) (fun cc => ?_) (fun cc => ?_)
    · have hsh := im_it hsh cc
      exact bk_LT_isTag_16 X w hsh H locs ls hH (lv_sub hl [] rfl)
    · have hsh := im_if hsh cc
      refine lv_iconst (v := 1) hx hb d_LT_isTag_12 (by decide) ?_
      refine lv_goto (tgt := 17) hx hb d_LT_isTag_13 (by decide) ?_
      exact bk_LT_isTag_17 X (1 : Int32) w hsh H locs ls hH (lv_sub hl [] rfl)
theorem wd_176 : (Jvm.Cond.fieldLink "LanguageTags" (18 : Nat) "LanguageTags" "display" "LLanguageTags$Text;") ∈ im_T := im_memT (i := 176) (by decide +kernel) (by decide +kernel)
theorem wd_181 : (Jvm.Cond.fieldLink "LanguageTags" (50 : Nat) "LanguageTags" "likely" "LLanguageTags$Likely;") ∈ im_T := im_memT (i := 181) (by decide +kernel) (by decide +kernel)
theorem wd_186 : (Jvm.Cond.fieldLink "LanguageTags" (78 : Nat) "LanguageTags" "oneCore" "LLanguageTags$Core;") ∈ im_T := im_memT (i := 186) (by decide +kernel) (by decide +kernel)
theorem wd_486 : (Jvm.Cond.methodLink "LanguageTags" (198 : Nat) ({ cls := "LanguageTags", name := "isTag", desc := "(I)Z" } : Jvm.MethodName)) ∈ im_T := im_memT (i := 486) (by decide +kernel) (by decide +kernel)
theorem wd_488 : (Jvm.Cond.instanceMethod ({ cls := "LanguageTags", name := "isTag", desc := "(I)Z" } : Jvm.MethodName)) ∈ im_T := im_memT (i := 488) (by decide +kernel) (by decide +kernel)
theorem wd_489 : (Jvm.Cond.code ({ cls := "LanguageTags", name := "isTag", desc := "(I)Z" } : Jvm.MethodName) prog_1_method_18_code (2 : Nat) (Option.some Jvm.ClassFile.FieldType.boolean)) ∈ im_T := im_memT (i := 489) (by decide +kernel) (by decide +kernel)
theorem wd_490 : (Jvm.Cond.methodLink "LanguageTags" (202 : Nat) ({ cls := "LanguageTags$Form", name := "writeTo", desc := "(LLanguageTags$Text;)V" } : Jvm.MethodName)) ∈ im_T := im_memT (i := 490) (by decide +kernel) (by decide +kernel)
theorem wd_491 : (Jvm.Cond.instanceMethod ({ cls := "LanguageTags$Form", name := "writeTo", desc := "(LLanguageTags$Text;)V" } : Jvm.MethodName)) ∈ im_T := im_memT (i := 491) (by decide +kernel) (by decide +kernel)
theorem wd_492 : (Jvm.Cond.selects "LanguageTags$Form" ({ cls := "LanguageTags$Form", name := "writeTo", desc := "(LLanguageTags$Text;)V" } : Jvm.MethodName) ({ cls := "LanguageTags$Form", name := "writeTo", desc := "(LLanguageTags$Text;)V" } : Jvm.MethodName)) ∈ im_T := im_memT (i := 492) (by decide +kernel) (by decide +kernel)
theorem wd_493 : (Jvm.Cond.code ({ cls := "LanguageTags$Form", name := "writeTo", desc := "(LLanguageTags$Text;)V" } : Jvm.MethodName) prog_4_method_11_code (3 : Nat) (Option.none : Option Jvm.ClassFile.FieldType)) ∈ im_T := im_memT (i := 493) (by decide +kernel) (by decide +kernel)
theorem wd_501 : (Jvm.Cond.methodLink "LanguageTags" (206 : Nat) ({ cls := "LanguageTags$Core", name := "writeTo", desc := "(LLanguageTags$Text;)V" } : Jvm.MethodName)) ∈ im_T := im_memT (i := 501) (by decide +kernel) (by decide +kernel)
theorem wd_502 : (Jvm.Cond.instanceMethod ({ cls := "LanguageTags$Core", name := "writeTo", desc := "(LLanguageTags$Text;)V" } : Jvm.MethodName)) ∈ im_T := im_memT (i := 502) (by decide +kernel) (by decide +kernel)
theorem wd_503 : (Jvm.Cond.selects "LanguageTags$Core" ({ cls := "LanguageTags$Core", name := "writeTo", desc := "(LLanguageTags$Text;)V" } : Jvm.MethodName) ({ cls := "LanguageTags$Core", name := "writeTo", desc := "(LLanguageTags$Text;)V" } : Jvm.MethodName)) ∈ im_T := im_memT (i := 503) (by decide +kernel) (by decide +kernel)
theorem wd_504 : (Jvm.Cond.code ({ cls := "LanguageTags$Core", name := "writeTo", desc := "(LLanguageTags$Text;)V" } : Jvm.MethodName) prog_3_method_12_code (2 : Nat) (Option.none : Option Jvm.ClassFile.FieldType)) ∈ im_T := im_memT (i := 504) (by decide +kernel) (by decide +kernel)
theorem wd_506 : (Jvm.Cond.methodLink "LanguageTags" (207 : Nat) ({ cls := "LanguageTags$Likely", name := "maximise", desc := "(LLanguageTags$Core;LLanguageTags$Core;)V" } : Jvm.MethodName)) ∈ im_T := im_memT (i := 506) (by decide +kernel) (by decide +kernel)
theorem wd_536 : (Jvm.Cond.methodLink "LanguageTags" (211 : Nat) ({ cls := "LanguageTags$Likely", name := "minimise", desc := "(LLanguageTags$Core;LLanguageTags$Core;)V" } : Jvm.MethodName)) ∈ im_T := im_memT (i := 536) (by decide +kernel) (by decide +kernel)
theorem wd_537 : (Jvm.Cond.instanceMethod ({ cls := "LanguageTags$Likely", name := "minimise", desc := "(LLanguageTags$Core;LLanguageTags$Core;)V" } : Jvm.MethodName)) ∈ im_T := im_memT (i := 537) (by decide +kernel) (by decide +kernel)
theorem wd_538 : (Jvm.Cond.selects "LanguageTags$Likely" ({ cls := "LanguageTags$Likely", name := "minimise", desc := "(LLanguageTags$Core;LLanguageTags$Core;)V" } : Jvm.MethodName) ({ cls := "LanguageTags$Likely", name := "minimise", desc := "(LLanguageTags$Core;LLanguageTags$Core;)V" } : Jvm.MethodName)) ∈ im_T := im_memT (i := 538) (by decide +kernel) (by decide +kernel)
theorem wd_539 : (Jvm.Cond.code ({ cls := "LanguageTags$Likely", name := "minimise", desc := "(LLanguageTags$Core;LLanguageTags$Core;)V" } : Jvm.MethodName) prog_5_method_3_code (3 : Nat) (Option.none : Option Jvm.ClassFile.FieldType)) ∈ im_T := im_memT (i := 539) (by decide +kernel) (by decide +kernel)
theorem d_LT_show_0 : decode c_LT_show 0 = .ok (.aload_n 0, 1) := by decide +kernel
theorem d_LT_show_1 : decode c_LT_show 1 = .ok (.iload_n 1, 1) := by decide +kernel
theorem d_LT_show_2 : decode c_LT_show 2 = .ok (.invokevirtual 198, 3) := by decide +kernel
theorem d_LT_show_5 : decode c_LT_show 5 = .ok (.ifCond .eq (12), 3) := by decide +kernel
theorem d_LT_show_8 : decode c_LT_show 8 = .ok (.iload_n 2, 1) := by decide +kernel
theorem d_LT_show_9 : decode c_LT_show 9 = .ok (.ifCond .lt (8), 3) := by decide +kernel
theorem d_LT_show_12 : decode c_LT_show 12 = .ok (.iload_n 2, 1) := by decide +kernel
theorem d_LT_show_13 : decode c_LT_show 13 = .ok (.iconst 3, 1) := by decide +kernel
theorem d_LT_show_14 : decode c_LT_show 14 = .ok (.if_icmp .le (5), 3) := by decide +kernel
theorem d_LT_show_17 : decode c_LT_show 17 = .ok (.iconst (-1), 1) := by decide +kernel
theorem d_LT_show_18 : decode c_LT_show 18 = .ok (.ireturn, 1) := by decide +kernel
theorem d_LT_show_19 : decode c_LT_show 19 = .ok (.aload_n 0, 1) := by decide +kernel
theorem d_LT_show_20 : decode c_LT_show 20 = .ok (.getfield 56, 3) := by decide +kernel
theorem d_LT_show_23 : decode c_LT_show 23 = .ok (.iload_n 1, 1) := by decide +kernel
theorem d_LT_show_24 : decode c_LT_show 24 = .ok (.aaload, 1) := by decide +kernel
theorem d_LT_show_25 : decode c_LT_show 25 = .ok (.getfield 165, 3) := by decide +kernel
theorem d_LT_show_28 : decode c_LT_show 28 = .ok (.astore_n 3, 1) := by decide +kernel
theorem d_LT_show_29 : decode c_LT_show 29 = .ok (.aload_n 0, 1) := by decide +kernel
theorem d_LT_show_30 : decode c_LT_show 30 = .ok (.getfield 18, 3) := by decide +kernel
theorem d_LT_show_33 : decode c_LT_show 33 = .ok (.invokevirtual 115, 3) := by decide +kernel
theorem d_LT_show_36 : decode c_LT_show 36 = .ok (.iload_n 2, 1) := by decide +kernel
theorem d_LT_show_37 : decode c_LT_show 37 = .ok (.ifCond .ne (14), 3) := by decide +kernel
theorem d_LT_show_40 : decode c_LT_show 40 = .ok (.aload_n 3, 1) := by decide +kernel
theorem d_LT_show_41 : decode c_LT_show 41 = .ok (.aload_n 0, 1) := by decide +kernel
theorem d_LT_show_42 : decode c_LT_show 42 = .ok (.getfield 18, 3) := by decide +kernel
theorem d_LT_show_45 : decode c_LT_show 45 = .ok (.invokevirtual 202, 3) := by decide +kernel
theorem d_LT_show_48 : decode c_LT_show 48 = .ok (.goto (71), 3) := by decide +kernel
theorem d_LT_show_51 : decode c_LT_show 51 = .ok (.iload_n 2, 1) := by decide +kernel
theorem d_LT_show_52 : decode c_LT_show 52 = .ok (.iconst 1, 1) := by decide +kernel
theorem d_LT_show_53 : decode c_LT_show 53 = .ok (.if_icmp .ne (17), 3) := by decide +kernel
theorem d_LT_show_56 : decode c_LT_show 56 = .ok (.aload_n 3, 1) := by decide +kernel
theorem d_LT_show_57 : decode c_LT_show 57 = .ok (.getfield 180, 3) := by decide +kernel
theorem d_LT_show_60 : decode c_LT_show 60 = .ok (.aload_n 0, 1) := by decide +kernel
theorem d_LT_show_61 : decode c_LT_show 61 = .ok (.getfield 18, 3) := by decide +kernel
theorem d_LT_show_64 : decode c_LT_show 64 = .ok (.invokevirtual 206, 3) := by decide +kernel
theorem d_LT_show_67 : decode c_LT_show 67 = .ok (.goto (52), 3) := by decide +kernel
theorem d_LT_show_70 : decode c_LT_show 70 = .ok (.iload_n 2, 1) := by decide +kernel
theorem d_LT_show_71 : decode c_LT_show 71 = .ok (.iconst 2, 1) := by decide +kernel
theorem d_LT_show_72 : decode c_LT_show 72 = .ok (.if_icmp .ne (21), 3) := by decide +kernel
theorem d_LT_show_75 : decode c_LT_show 75 = .ok (.aload_n 0, 1) := by decide +kernel
theorem d_LT_show_76 : decode c_LT_show 76 = .ok (.getfield 50, 3) := by decide +kernel
theorem d_LT_show_79 : decode c_LT_show 79 = .ok (.aload_n 3, 1) := by decide +kernel
theorem d_LT_show_80 : decode c_LT_show 80 = .ok (.getfield 180, 3) := by decide +kernel
theorem d_LT_show_83 : decode c_LT_show 83 = .ok (.aload_n 0, 1) := by decide +kernel
theorem d_LT_show_84 : decode c_LT_show 84 = .ok (.getfield 78, 3) := by decide +kernel
theorem d_LT_show_87 : decode c_LT_show 87 = .ok (.invokevirtual 207, 3) := by decide +kernel
theorem d_LT_show_90 : decode c_LT_show 90 = .ok (.goto (18), 3) := by decide +kernel
theorem d_LT_show_93 : decode c_LT_show 93 = .ok (.aload_n 0, 1) := by decide +kernel
theorem d_LT_show_94 : decode c_LT_show 94 = .ok (.getfield 50, 3) := by decide +kernel
theorem d_LT_show_97 : decode c_LT_show 97 = .ok (.aload_n 3, 1) := by decide +kernel
theorem d_LT_show_98 : decode c_LT_show 98 = .ok (.getfield 180, 3) := by decide +kernel
theorem d_LT_show_101 : decode c_LT_show 101 = .ok (.aload_n 0, 1) := by decide +kernel
theorem d_LT_show_102 : decode c_LT_show 102 = .ok (.getfield 78, 3) := by decide +kernel
theorem d_LT_show_105 : decode c_LT_show 105 = .ok (.invokevirtual 211, 3) := by decide +kernel
theorem d_LT_show_108 : decode c_LT_show 108 = .ok (.aload_n 0, 1) := by decide +kernel
theorem d_LT_show_109 : decode c_LT_show 109 = .ok (.getfield 78, 3) := by decide +kernel
theorem d_LT_show_112 : decode c_LT_show 112 = .ok (.aload_n 0, 1) := by decide +kernel
theorem d_LT_show_113 : decode c_LT_show 113 = .ok (.getfield 18, 3) := by decide +kernel
theorem d_LT_show_116 : decode c_LT_show 116 = .ok (.invokevirtual 206, 3) := by decide +kernel
theorem d_LT_show_119 : decode c_LT_show 119 = .ok (.aload_n 0, 1) := by decide +kernel
theorem d_LT_show_120 : decode c_LT_show 120 = .ok (.getfield 18, 3) := by decide +kernel
theorem d_LT_show_123 : decode c_LT_show 123 = .ok (.invokevirtual 126, 3) := by decide +kernel
theorem d_LT_show_126 : decode c_LT_show 126 = .ok (.ireturn, 1) := by decide +kernel
def sh_LT_show_17 (F : Nat)  (w : im_W) : Option (Int32 × im_W) :=
  some ((-1 : Int32), w)
set_option maxHeartbeats 4000000 in
set_option maxRecDepth 100000 in
theorem bk_LT_show_17 {F : Nat} {r : Int32 × im_W} (X : im_X D vwCl tA lo im_NW c_LT_show 4 (some .int) RC_LT im_T p s m args meth c)  (w : im_W) (hsh : sh_LT_show_17 F w = some r) : im_WW D vwCl tA lo 4 p l e (im_rm 6 144) s m args below meth c 0 0 (MQ below (im_Post D vwCl tA lo (some (.int r.1)) r.2) args s 0 0 (fun q => lo ≤ q)) 17 [] [] w := by
  obtain ⟨hx, hb, hr, hts, hown, hlk, hml, hK, hN⟩ := id X
  intro H locs ls hH hl
  unfold sh_LT_show_17 at hsh
  refine lv_iconst (v := -1) hx hb d_LT_show_17 (by decide) ?_
  obtain rfl := Option.some.inj hsh
  exact im_iret hx hb hr hlk hH d_LT_show_18
def sh_LT_show_119 (F : Nat) (x0 : Nat) (w : im_W) : Option (Int32 × im_W) :=
  (im_gR w 8 x0 1).bind fun f1 => (im_is w 7 f1).bind fun u3 => im_b2 (sh_Text_length F f1 w) fun v9 w7 => some (v9, w7)
set_option maxHeartbeats 4000000 in
set_option maxRecDepth 100000 in
theorem bk_LT_show_119 {F : Nat} {r : Int32 × im_W} (X : im_X D vwCl tA lo im_NW c_LT_show 4 (some .int) RC_LT im_T p s m args meth c) (x0 : Nat) (w : im_W) (hsh : sh_LT_show_119 F x0 w = some r) : im_WW D vwCl tA lo 4 p l e (im_rm 6 144) s m args below meth c 0 0 (MQ below (im_Post D vwCl tA lo (some (.int r.1)) r.2) args s 0 0 (fun q => lo ≤ q)) 119 [(0, .ref (lo + x0))] [] w := by
  obtain ⟨hx, hb, hr, hts, hown, hlk, hml, hK, hN⟩ := id X
  intro H locs ls hH hl
  unfold sh_LT_show_119 at hsh
  refine lv_aload_n hx hb d_LT_show_119 rfl (lv_at hl 0 rfl) ?_
  obtain ⟨f1, h2, hsh⟩ := im_bd hsh
  refine im_getR hx hb hts inC_LT hown hK hH (ci := 8) rfl 1 (by decide) (hts _ wd_176) rfl h2 d_LT_show_120 ?_
  obtain ⟨u3, h4, hsh⟩ := im_bd hsh
  obtain ⟨g5, h6⟩ := im_is_s h4
  obtain ⟨v9, w7, h8, hsh⟩ := im_bd2 hsh
  refine im_afterI (va_runV (As := []) (rest := []) (C := RC_Text) ⟨hx, hb, hml, hown, hts⟩ (met_Text_length h8) ⟨(callB_of 0 hts (im_good wd_274) rfl rfl rfl (hts _ wd_2) (hts _ wd_271) (by decide +kernel) ⟨Nat.le_of_ble_eq_true rfl, Nat.le_of_ble_eq_true rfl⟩), hts _ wd_272, hts _ wd_273⟩ (im_preV im_NW_ok hK hN hH (ci := 7) rfl rfl h6 _) rfl rfl hl.1 rfl (lv_room (Nat.le_of_ble_eq_true rfl)) d_LT_show_123 ⟨Nat.le_of_ble_eq_true rfl, Nat.le_of_ble_eq_true rfl⟩) hH (fun H locs hH => ?_)
  obtain rfl := Option.some.inj hsh
  exact im_iret hx hb hr hlk hH d_LT_show_126
def sh_LT_show_108 (F : Nat) (x0 : Nat) (w : im_W) : Option (Int32 × im_W) :=
  (im_gR w 8 x0 11).bind fun f1 => (im_gR w 8 x0 1).bind fun f3 => (im_is w 1 f1).bind fun u5 => (sh_Core_writeTo F f1 f3 w).bind fun w9 => sh_LT_show_119 F x0 w9
set_option maxHeartbeats 4000000 in
set_option maxRecDepth 100000 in
theorem bk_LT_show_108 {F : Nat} {r : Int32 × im_W} (X : im_X D vwCl tA lo im_NW c_LT_show 4 (some .int) RC_LT im_T p s m args meth c) (x0 : Nat) (w : im_W) (hsh : sh_LT_show_108 F x0 w = some r) : im_WW D vwCl tA lo 4 p l e (im_rm 6 144) s m args below meth c 0 0 (MQ below (im_Post D vwCl tA lo (some (.int r.1)) r.2) args s 0 0 (fun q => lo ≤ q)) 108 [(0, .ref (lo + x0))] [] w := by
  obtain ⟨hx, hb, hr, hts, hown, hlk, hml, hK, hN⟩ := id X
  intro H locs ls hH hl
  unfold sh_LT_show_108 at hsh
  refine lv_aload_n hx hb d_LT_show_108 rfl (lv_at hl 0 rfl) ?_
  obtain ⟨f1, h2, hsh⟩ := im_bd hsh
  refine im_getR hx hb hts inC_LT hown hK hH (ci := 8) rfl 11 (by decide) (hts _ wd_186) rfl h2 d_LT_show_109 ?_
  refine lv_aload_n hx hb d_LT_show_112 rfl (lv_at hl 0 rfl) ?_
  obtain ⟨f3, h4, hsh⟩ := im_bd hsh
  refine im_getR hx hb hts inC_LT hown hK hH (ci := 8) rfl 1 (by decide) (hts _ wd_176) rfl h4 d_LT_show_113 ?_
  obtain ⟨u5, h6, hsh⟩ := im_bd hsh
  obtain ⟨g7, h8⟩ := im_is_s h6
  obtain ⟨w9, h10, hsh⟩ := im_bd hsh
  refine im_afterV (va_runV (As := [.ref (lo + f3)]) (rest := []) (C := RC_Core) ⟨hx, hb, hml, hown, hts⟩ (met_Core_writeTo h10) ⟨(callB_of 1 hts (im_good wd_504) rfl rfl rfl (hts _ wd_7) (hts _ wd_501) (by decide +kernel) ⟨Nat.le_of_ble_eq_true rfl, Nat.le_of_ble_eq_true rfl⟩), hts _ wd_502, hts _ wd_503⟩ (im_preV im_NW_ok hK hN hH (ci := 1) rfl rfl h8 _) rfl rfl hl.1 rfl (lv_room (Nat.le_of_ble_eq_true rfl)) d_LT_show_116 ⟨Nat.le_of_ble_eq_true rfl, Nat.le_of_ble_eq_true rfl⟩) hH (fun H locs hH => ?_)
  exact bk_LT_show_119 X x0 w9 hsh H locs ls hH (lv_sub hl [0] rfl)
def sh_LT_show (F : Nat) (x0 : Nat) (x1 : Int32) (x2 : Int32) (w : im_W) : Option (Int32 × im_W) :=
  (im_is w 8 x0).bind fun u1 => im_b2 (sh_LT_isTag F x0 x1 w) fun v7 w5 => (if v7 = 0 then sh_LT_show_17 F w5 else (if x2 < 0 then sh_LT_show_17 F w5 else (if x2 ≤ (3 : Int32) then (im_gR w5 8 x0 7).bind fun f8 => (im_lR w5 4 f8 x1).bind fun e10 => (im_gR w5 6 e10 0).bind fun f12 => (im_gR w5 8 x0 1).bind fun f14 => (im_is w5 7 f14).bind fun u16 => (sh_Text_clear F f14 w5).bind fun w20 => (if x2 = 0 then (im_gR w20 8 x0 1).bind fun f56 => (im_is w20 2 f12).bind fun u58 => (sh_Form_writeTo F f12 f56 w20).bind fun w62 => sh_LT_show_119 F x0 w62 else (if x2 = (1 : Int32) then (im_gR w20 2 f12 0).bind fun f46 => (im_gR w20 8 x0 1).bind fun f48 => (im_is w20 1 f46).bind fun u50 => (sh_Core_writeTo F f46 f48 w20).bind fun w54 => sh_LT_show_119 F x0 w54 else (if x2 = (2 : Int32) then (im_gR w20 8 x0 6).bind fun f34 => (im_gR w20 2 f12 0).bind fun f36 => (im_gR w20 8 x0 11).bind fun f38 => (im_is w20 3 f34).bind fun u40 => (sh_Likely_maximise F f34 f36 f38 w20).bind fun w44 => sh_LT_show_108 F x0 w44 else (im_gR w20 8 x0 6).bind fun f22 => (im_gR w20 2 f12 0).bind fun f24 => (im_gR w20 8 x0 11).bind fun f26 => (im_is w20 3 f22).bind fun u28 => (sh_Likely_minimise F f22 f24 f26 w20).bind fun w32 => sh_LT_show_108 F x0 w32))) else sh_LT_show_17 F w5)))
set_option maxHeartbeats 4000000 in
set_option maxRecDepth 100000 in
theorem met_LT_show {F : Nat} {x0 : Nat} {x1 : Int32} {x2 : Int32} {w : im_W} {r : Int32 × im_W} (hsh : sh_LT_show F x0 x1 x2 w = some r) : Met l y_LT_show (Cond.code y_LT_show c_LT_show 4 (some .int) :: im_T) (im_rm 6 144) (im_Pre D vwCl tA lo im_NW [.ref (lo + x0), .int x1, .int x2] w) (im_Post D vwCl tA lo (some (.int r.1)) r.2) 0 0 (fun q => lo ≤ q) := by
  refine im_ofW (cc := c_LT_show) (nL := 4) (ret := (some .int)) (by decide) (Nat.le_of_ble_eq_true rfl) ?_
  intro p e s m args below meth c X H locs ls hH hl
  obtain ⟨hx, hb, hr, hts, hown, hlk, hml, hK, hN⟩ := id X
  have hl : lv_has ls 4 [(0, .ref (lo + x0)), (1, .int x1), (2, .int x2)] := hl
  unfold sh_LT_show at hsh
  refine lv_aload_n hx hb d_LT_show_0 rfl (lv_at hl 0 rfl) ?_
  refine lv_iload_n hx hb d_LT_show_1 rfl (lv_at hl 1 rfl) ?_
  obtain ⟨u1, h2, hsh⟩ := im_bd hsh
  obtain ⟨g3, h4⟩ := im_is_s h2
  obtain ⟨v7, w5, h6, hsh⟩ := im_bd2 hsh
  refine im_afterI (va_runV (As := [.int x1]) (rest := []) (C := RC_LT) ⟨hx, hb, hml, hown, hts⟩ (met_LT_isTag h6) ⟨(callB_of 1 hts (im_good wd_489) rfl rfl rfl (hts _ wd_1) (hts _ wd_486) (by decide +kernel) ⟨Nat.le_of_ble_eq_true rfl, Nat.le_of_ble_eq_true rfl⟩), hts _ wd_488, hts _ sl_LT_isTag⟩ (im_preV im_NW_ok hK hN hH (ci := 8) rfl rfl h4 _) rfl rfl hl.1 rfl (lv_room (Nat.le_of_ble_eq_true rfl)) d_LT_show_2 ⟨Nat.le_of_ble_eq_true rfl, Nat.le_of_ble_eq_true rfl⟩) hH (fun H locs hH => ?_)
  refine lv_if_eq (tgt := 17) hx hb d_LT_show_5 (by decide) (fun cc => ?_) (fun cc => ?_)
  · have hsh := im_it hsh cc
    exact bk_LT_show_17 X w5 hsh H locs ls hH (lv_sub hl [] rfl)
  · have hsh := im_if hsh cc
    refine lv_iload_n hx hb d_LT_show_8 rfl (lv_at hl 2 rfl) ?_
    refine lv_if_lt (tgt := 17) hx hb d_LT_show_9 (by decide) (fun cc => ?_) (fun cc => ?_)
    · have hsh := im_it hsh cc
      exact bk_LT_show_17 X w5 hsh H locs ls hH (lv_sub hl [] rfl)
    · have hsh := im_if hsh cc
      refine lv_iload_n hx hb d_LT_show_12 rfl (lv_at hl 2 rfl) ?_
      refine lv_iconst (v := 3) hx hb d_LT_show_13 (by decide) ?_
      refine lv_icmp_le (tgt := 19) hx hb d_LT_show_14 (by decide) (fun cc => ?_) (fun cc => ?_)
      · have hsh := im_it hsh cc
        refine lv_aload_n hx hb d_LT_show_19 rfl (lv_at hl 0 rfl) ?_
        obtain ⟨f8, h9, hsh⟩ := im_bd hsh
        refine im_getR hx hb hts inC_LT hown hK hH (ci := 8) rfl 7 (by decide) (hts _ wd_182) rfl h9 d_LT_show_20 ?_
        refine lv_iload_n hx hb d_LT_show_23 rfl (lv_at hl 1 rfl) ?_
        obtain ⟨e10, h11, hsh⟩ := im_bd hsh
        refine im_aald4 hx hb hK hH h11 d_LT_show_24 ?_
        obtain ⟨f12, h13, hsh⟩ := im_bd hsh
        refine im_getNR hx hb hts inC_Tag hown hK hH (ci := 6) rfl 0 (by decide) (hN _ nw_157) rfl h13 d_LT_show_25 ?_
        refine lv_astore_n (lv' := [(3, .ref (lo + f12)), (0, .ref (lo + x0)), (1, .int x1), (2, .int x2)]) hx hb d_LT_show_28 rfl hl (by decide) rfl (fun ls hl => ?_)
        refine lv_aload_n hx hb d_LT_show_29 rfl (lv_at hl 1 rfl) ?_
        obtain ⟨f14, h15, hsh⟩ := im_bd hsh
        refine im_getR hx hb hts inC_LT hown hK hH (ci := 8) rfl 1 (by decide) (hts _ wd_176) rfl h15 d_LT_show_30 ?_
        obtain ⟨u16, h17, hsh⟩ := im_bd hsh
        obtain ⟨g18, h19⟩ := im_is_s h17
        obtain ⟨w20, h21, hsh⟩ := im_bd hsh
        refine im_afterV (va_runV (As := []) (rest := []) (C := RC_Text) ⟨hx, hb, hml, hown, hts⟩ (met_Text_clear h21) ⟨(callB_of 0 hts (im_good wd_253) rfl rfl rfl (hts _ wd_2) (hts _ wd_250) (by decide +kernel) ⟨Nat.le_of_ble_eq_true rfl, Nat.le_of_ble_eq_true rfl⟩), hts _ wd_251, hts _ wd_252⟩ (im_preV im_NW_ok hK hN hH (ci := 7) rfl rfl h19 _) rfl rfl hl.1 rfl (lv_room (Nat.le_of_ble_eq_true rfl)) d_LT_show_33 ⟨Nat.le_of_ble_eq_true rfl, Nat.le_of_ble_eq_true rfl⟩) hH (fun H locs hH => ?_)
        refine lv_iload_n hx hb d_LT_show_36 rfl (lv_at hl 3 rfl) ?_
        refine lv_if_ne (tgt := 51) hx hb d_LT_show_37 (by decide) (fun cc => ?_) (fun cc => ?_)
        · have hsh := im_if hsh cc
          refine lv_iload_n hx hb d_LT_show_51 rfl (lv_at hl 3 rfl) ?_
          refine lv_iconst (v := 1) hx hb d_LT_show_52 (by decide) ?_
          refine lv_icmp_ne (tgt := 70) hx hb d_LT_show_53 (by decide) (fun cc => ?_) (fun cc => ?_)
          · have hsh := im_if hsh cc
            refine lv_iload_n hx hb d_LT_show_70 rfl (lv_at hl 3 rfl) ?_
            refine lv_iconst (v := 2) hx hb d_LT_show_71 (by decide) ?_
            refine lv_icmp_ne (tgt := 93) hx hb d_LT_show_72 (by decide) (fun cc => ?_) (fun cc => ?_)
            · have hsh := im_if hsh cc
              refine lv_aload_n hx hb d_LT_show_93 rfl (lv_at hl 1 rfl) ?_
              obtain ⟨f22, h23, hsh⟩ := im_bd hsh
              refine im_getR hx hb hts inC_LT hown hK hH (ci := 8) rfl 6 (by decide) (hts _ wd_181) rfl h23 d_LT_show_94 ?_
              refine lv_aload_n hx hb d_LT_show_97 rfl (lv_at hl 0 rfl) ?_
              obtain ⟨f24, h25, hsh⟩ := im_bd hsh
              refine im_getNR hx hb hts inC_Form hown hK hH (ci := 2) rfl 0 (by decide) (hN _ nw_106) rfl h25 d_LT_show_98 ?_
              refine lv_aload_n hx hb d_LT_show_101 rfl (lv_at hl 1 rfl) ?_
              obtain ⟨f26, h27, hsh⟩ := im_bd hsh
              refine im_getR hx hb hts inC_LT hown hK hH (ci := 8) rfl 11 (by decide) (hts _ wd_186) rfl h27 d_LT_show_102 ?_
              obtain ⟨u28, h29, hsh⟩ := im_bd hsh
              obtain ⟨g30, h31⟩ := im_is_s h29
              obtain ⟨w32, h33, hsh⟩ := im_bd hsh
              refine im_afterV (va_runV (As := [.ref (lo + f24), .ref (lo + f26)]) (rest := []) (C := RC_Likely) ⟨hx, hb, hml, hown, hts⟩ (met_Likely_minimise h33) ⟨(callB_of 2 hts (im_good wd_539) rfl rfl rfl (hts _ wd_8) (hts _ wd_536) (by decide +kernel) ⟨Nat.le_of_ble_eq_true rfl, Nat.le_of_ble_eq_true rfl⟩), hts _ wd_537, hts _ wd_538⟩ (im_preV im_NW_ok hK hN hH (ci := 3) rfl rfl h31 _) rfl rfl hl.1 rfl (lv_room (Nat.le_of_ble_eq_true rfl)) d_LT_show_105 ⟨Nat.le_of_ble_eq_true rfl, Nat.le_of_ble_eq_true rfl⟩) hH (fun H locs hH => ?_)
              exact bk_LT_show_108 X x0 w32 hsh H locs ls hH (lv_sub hl [1] rfl)
            · have hsh := im_it hsh cc
              refine lv_aload_n hx hb d_LT_show_75 rfl (lv_at hl 1 rfl) ?_
              obtain ⟨f34, h35, hsh⟩ := im_bd hsh
              refine im_getR hx hb hts inC_LT hown hK hH (ci := 8) rfl 6 (by decide) (hts _ wd_181) rfl h35 d_LT_show_76 ?_
              refine lv_aload_n hx hb d_LT_show_79 rfl (lv_at hl 0 rfl) ?_
              obtain ⟨f36, h37, hsh⟩ := im_bd hsh
              refine im_getNR hx hb hts inC_Form hown hK hH (ci := 2) rfl 0 (by decide) (hN _ nw_106) rfl h37 d_LT_show_80 ?_
              refine lv_aload_n hx hb d_LT_show_83 rfl (lv_at hl 1 rfl) ?_
              obtain ⟨f38, h39, hsh⟩ := im_bd hsh
              refine im_getR hx hb hts inC_LT hown hK hH (ci := 8) rfl 11 (by decide) (hts _ wd_186) rfl h39 d_LT_show_84 ?_
              obtain ⟨u40, h41, hsh⟩ := im_bd hsh
              obtain ⟨g42, h43⟩ := im_is_s h41
              obtain ⟨w44, h45, hsh⟩ := im_bd hsh
              refine im_afterV (va_runV (As := [.ref (lo + f36), .ref (lo + f38)]) (rest := []) (C := RC_Likely) ⟨hx, hb, hml, hown, hts⟩ (met_Likely_maximise h45) ⟨(callB_of 2 hts (im_good wd_509) rfl rfl rfl (hts _ wd_8) (hts _ wd_506) (by decide +kernel) ⟨Nat.le_of_ble_eq_true rfl, Nat.le_of_ble_eq_true rfl⟩), hts _ wd_507, hts _ wd_508⟩ (im_preV im_NW_ok hK hN hH (ci := 3) rfl rfl h43 _) rfl rfl hl.1 rfl (lv_room (Nat.le_of_ble_eq_true rfl)) d_LT_show_87 ⟨Nat.le_of_ble_eq_true rfl, Nat.le_of_ble_eq_true rfl⟩) hH (fun H locs hH => ?_)
              refine lv_goto (tgt := 108) hx hb d_LT_show_90 (by decide) ?_
              exact bk_LT_show_108 X x0 w44 hsh H locs ls hH (lv_sub hl [1] rfl)
          · have hsh := im_it hsh cc
            refine lv_aload_n hx hb d_LT_show_56 rfl (lv_at hl 0 rfl) ?_
            obtain ⟨f46, h47, hsh⟩ := im_bd hsh
            refine im_getNR hx hb hts inC_Form hown hK hH (ci := 2) rfl 0 (by decide) (hN _ nw_106) rfl h47 d_LT_show_57 ?_
            refine lv_aload_n hx hb d_LT_show_60 rfl (lv_at hl 1 rfl) ?_
            obtain ⟨f48, h49, hsh⟩ := im_bd hsh
            refine im_getR hx hb hts inC_LT hown hK hH (ci := 8) rfl 1 (by decide) (hts _ wd_176) rfl h49 d_LT_show_61 ?_
            obtain ⟨u50, h51, hsh⟩ := im_bd hsh
            obtain ⟨g52, h53⟩ := im_is_s h51
            obtain ⟨w54, h55, hsh⟩ := im_bd hsh
            refine im_afterV (va_runV (As := [.ref (lo + f48)]) (rest := []) (C := RC_Core) ⟨hx, hb, hml, hown, hts⟩ (met_Core_writeTo h55) ⟨(callB_of 1 hts (im_good wd_504) rfl rfl rfl (hts _ wd_7) (hts _ wd_501) (by decide +kernel) ⟨Nat.le_of_ble_eq_true rfl, Nat.le_of_ble_eq_true rfl⟩), hts _ wd_502, hts _ wd_503⟩ (im_preV im_NW_ok hK hN hH (ci := 1) rfl rfl h53 _) rfl rfl hl.1 rfl (lv_room (Nat.le_of_ble_eq_true rfl)) d_LT_show_64 ⟨Nat.le_of_ble_eq_true rfl, Nat.le_of_ble_eq_true rfl⟩) hH (fun H locs hH => ?_)
            refine lv_goto (tgt := 119) hx hb d_LT_show_67 (by decide) ?_
            exact bk_LT_show_119 X x0 w54 hsh H locs ls hH (lv_sub hl [1] rfl)
        · have hsh := im_it hsh cc
          refine lv_aload_n hx hb d_LT_show_40 rfl (lv_at hl 0 rfl) ?_
          refine lv_aload_n hx hb d_LT_show_41 rfl (lv_at hl 1 rfl) ?_
          obtain ⟨f56, h57, hsh⟩ := im_bd hsh
          refine im_getR hx hb hts inC_LT hown hK hH (ci := 8) rfl 1 (by decide) (hts _ wd_176) rfl h57 d_LT_show_42 ?_
          obtain ⟨u58, h59, hsh⟩ := im_bd hsh
          obtain ⟨g60, h61⟩ := im_is_s h59
          obtain ⟨w62, h63, hsh⟩ := im_bd hsh
          refine im_afterV (va_runV (As := [.ref (lo + f56)]) (rest := []) (C := RC_Form) ⟨hx, hb, hml, hown, hts⟩ (met_Form_writeTo h63) ⟨(callB_of 1 hts (im_good wd_493) rfl rfl rfl (hts _ wd_6) (hts _ wd_490) (by decide +kernel) ⟨Nat.le_of_ble_eq_true rfl, Nat.le_of_ble_eq_true rfl⟩), hts _ wd_491, hts _ wd_492⟩ (im_preV im_NW_ok hK hN hH (ci := 2) rfl rfl h61 _) rfl rfl hl.1 rfl (lv_room (Nat.le_of_ble_eq_true rfl)) d_LT_show_45 ⟨Nat.le_of_ble_eq_true rfl, Nat.le_of_ble_eq_true rfl⟩) hH (fun H locs hH => ?_)
          refine lv_goto (tgt := 119) hx hb d_LT_show_48 (by decide) ?_
          exact bk_LT_show_119 X x0 w62 hsh H locs ls hH (lv_sub hl [1] rfl)
      · have hsh := im_if hsh cc
        exact bk_LT_show_17 X w5 hsh H locs ls hH (lv_sub hl [] rfl)
theorem wd_555 : (Jvm.Cond.methodLink "LanguageTags" (214 : Nat) ({ cls := "LanguageTags$Text", name := "at", desc := "(I)C" } : Jvm.MethodName)) ∈ im_T := im_memT (i := 555) (by decide +kernel) (by decide +kernel)
theorem d_LT_shown_0 : decode c_LT_shown 0 = .ok (.aload_n 0, 1) := by decide +kernel
theorem d_LT_shown_1 : decode c_LT_shown 1 = .ok (.getfield 18, 3) := by decide +kernel
theorem d_LT_shown_4 : decode c_LT_shown 4 = .ok (.iload_n 1, 1) := by decide +kernel
theorem d_LT_shown_5 : decode c_LT_shown 5 = .ok (.invokevirtual 214, 3) := by decide +kernel
theorem d_LT_shown_8 : decode c_LT_shown 8 = .ok (.ireturn, 1) := by decide +kernel
def sh_LT_shown (F : Nat) (x0 : Nat) (x1 : Int32) (w : im_W) : Option (Int32 × im_W) :=
  (im_gR w 8 x0 1).bind fun f1 => (im_is w 7 f1).bind fun u3 => im_b2 (sh_Text_at F f1 x1 w) fun v9 w7 => im_rc v9 w7
set_option maxHeartbeats 4000000 in
set_option maxRecDepth 100000 in
theorem met_LT_shown {F : Nat} {x0 : Nat} {x1 : Int32} {w : im_W} {r : Int32 × im_W} (hsh : sh_LT_shown F x0 x1 w = some r) : Met l y_LT_shown (Cond.code y_LT_shown c_LT_shown 2 (some .char) :: im_T) (im_rm 1 21) (im_Pre D vwCl tA lo im_NW [.ref (lo + x0), .int x1] w) (im_Post D vwCl tA lo (some (.int r.1)) r.2) 0 0 (fun q => lo ≤ q) := by
  refine im_ofW (cc := c_LT_shown) (nL := 2) (ret := (some .char)) (by decide) (Nat.le_of_ble_eq_true rfl) ?_
  intro p e s m args below meth c X H locs ls hH hl
  obtain ⟨hx, hb, hr, hts, hown, hlk, hml, hK, hN⟩ := id X
  have hl : lv_has ls 2 [(0, .ref (lo + x0)), (1, .int x1)] := hl
  unfold sh_LT_shown at hsh
  refine lv_aload_n hx hb d_LT_shown_0 rfl (lv_at hl 0 rfl) ?_
  obtain ⟨f1, h2, hsh⟩ := im_bd hsh
  refine im_getR hx hb hts inC_LT hown hK hH (ci := 8) rfl 1 (by decide) (hts _ wd_176) rfl h2 d_LT_shown_1 ?_
  refine lv_iload_n hx hb d_LT_shown_4 rfl (lv_at hl 1 rfl) ?_
  obtain ⟨u3, h4, hsh⟩ := im_bd hsh
  obtain ⟨g5, h6⟩ := im_is_s h4
  obtain ⟨v9, w7, h8, hsh⟩ := im_bd2 hsh
  refine im_afterI (va_runV (As := [.int x1]) (rest := []) (C := RC_Text) ⟨hx, hb, hml, hown, hts⟩ (met_Text_at h8) ⟨(callB_of 1 hts (im_good wd_268) rfl rfl rfl (hts _ wd_2) (hts _ wd_555) (by decide +kernel) ⟨Nat.le_of_ble_eq_true rfl, Nat.le_of_ble_eq_true rfl⟩), hts _ wd_266, hts _ wd_267⟩ (im_preV im_NW_ok hK hN hH (ci := 7) rfl rfl h6 _) rfl rfl hl.1 rfl (lv_room (Nat.le_of_ble_eq_true rfl)) d_LT_shown_5 ⟨Nat.le_of_ble_eq_true rfl, Nat.le_of_ble_eq_true rfl⟩) hH (fun H locs hH => ?_)
  obtain ⟨rfl, hn⟩ := im_rc_s hsh
  exact im_zret hx hb hr hlk hn hH d_LT_shown_8
theorem d_LT_tags_0 : decode c_LT_tags 0 = .ok (.aload_n 0, 1) := by decide +kernel
theorem d_LT_tags_1 : decode c_LT_tags 1 = .ok (.getfield 85, 3) := by decide +kernel
theorem d_LT_tags_4 : decode c_LT_tags 4 = .ok (.ireturn, 1) := by decide +kernel
def sh_LT_tags (F : Nat) (x0 : Nat) (w : im_W) : Option (Int32 × im_W) :=
  (im_gI w 8 x0 13).bind fun f1 => some (f1, w)
set_option maxHeartbeats 4000000 in
set_option maxRecDepth 100000 in
theorem met_LT_tags {F : Nat} {x0 : Nat} {w : im_W} {r : Int32 × im_W} (hsh : sh_LT_tags F x0 w = some r) : Met l y_LT_tags (Cond.code y_LT_tags c_LT_tags 1 (some .int) :: im_T) (im_rm 0 0) (im_Pre D vwCl tA lo im_NW [.ref (lo + x0)] w) (im_Post D vwCl tA lo (some (.int r.1)) r.2) 0 0 (fun q => lo ≤ q) := by
  refine im_ofW (cc := c_LT_tags) (nL := 1) (ret := (some .int)) (by decide) (Nat.le_of_ble_eq_true rfl) ?_
  intro p e s m args below meth c X H locs ls hH hl
  obtain ⟨hx, hb, hr, hts, hown, hlk, hml, hK, hN⟩ := id X
  have hl : lv_has ls 1 [(0, .ref (lo + x0))] := hl
  unfold sh_LT_tags at hsh
  refine lv_aload_n hx hb d_LT_tags_0 rfl (lv_at hl 0 rfl) ?_
  obtain ⟨f1, h2, hsh⟩ := im_bd hsh
  refine im_getI hx hb hts inC_LT hown hK hH (ci := 8) rfl 13 (by decide) (hts _ wd_188) rfl h2 d_LT_tags_1 ?_
  obtain rfl := Option.some.inj hsh
  exact im_iret hx hb hr hlk hH d_LT_tags_4
end GEN
