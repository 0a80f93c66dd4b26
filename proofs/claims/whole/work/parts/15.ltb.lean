section GEN
variable {l : Launch} {D : va_G} {tA : Nat → ClassId} {lo : Nat} {p : Program} {e : Env} {s : State} {m : MethodId} {args : Array Value} {below : List Frame} {meth : Method} {c : Code}
theorem wd_183 : (Jvm.Cond.fieldLink "LanguageTags" (61 : Nat) "LanguageTags" "supported" "[I") ∈ im_T := im_memT (i := 183) (by decide +kernel) (by decide +kernel)
theorem wd_189 : (Jvm.Cond.fieldLink "LanguageTags" (89 : Nat) "LanguageTags" "supportedCount" "I") ∈ im_T := im_memT (i := 189) (by decide +kernel) (by decide +kernel)
theorem d_LT_support_0 : decode c_LT_support 0 = .ok (.aload_n 0, 1) := by decide +kernel
theorem d_LT_support_1 : decode c_LT_support 1 = .ok (.iload_n 1, 1) := by decide +kernel
theorem d_LT_support_2 : decode c_LT_support 2 = .ok (.invokevirtual 198, 3) := by decide +kernel
theorem d_LT_support_5 : decode c_LT_support 5 = .ok (.ifCond .eq (24), 3) := by decide +kernel
theorem d_LT_support_8 : decode c_LT_support 8 = .ok (.aload_n 0, 1) := by decide +kernel
theorem d_LT_support_9 : decode c_LT_support 9 = .ok (.getfield 56, 3) := by decide +kernel
theorem d_LT_support_12 : decode c_LT_support 12 = .ok (.iload_n 1, 1) := by decide +kernel
theorem d_LT_support_13 : decode c_LT_support 13 = .ok (.aaload, 1) := by decide +kernel
theorem d_LT_support_14 : decode c_LT_support 14 = .ok (.getfield 218, 3) := by decide +kernel
theorem d_LT_support_17 : decode c_LT_support 17 = .ok (.ifCond .ne (12), 3) := by decide +kernel
theorem d_LT_support_20 : decode c_LT_support 20 = .ok (.aload_n 0, 1) := by decide +kernel
theorem d_LT_support_21 : decode c_LT_support 21 = .ok (.getfield 89, 3) := by decide +kernel
theorem d_LT_support_24 : decode c_LT_support 24 = .ok (.bipush (16), 2) := by decide +kernel
theorem d_LT_support_26 : decode c_LT_support 26 = .ok (.if_icmp .lt (5), 3) := by decide +kernel
theorem d_LT_support_29 : decode c_LT_support 29 = .ok (.iconst 0, 1) := by decide +kernel
theorem d_LT_support_30 : decode c_LT_support 30 = .ok (.ireturn, 1) := by decide +kernel
theorem d_LT_support_31 : decode c_LT_support 31 = .ok (.aload_n 0, 1) := by decide +kernel
theorem d_LT_support_32 : decode c_LT_support 32 = .ok (.getfield 56, 3) := by decide +kernel
theorem d_LT_support_35 : decode c_LT_support 35 = .ok (.iload_n 1, 1) := by decide +kernel
theorem d_LT_support_36 : decode c_LT_support 36 = .ok (.aaload, 1) := by decide +kernel
theorem d_LT_support_37 : decode c_LT_support 37 = .ok (.iconst 1, 1) := by decide +kernel
theorem d_LT_support_38 : decode c_LT_support 38 = .ok (.putfield 218, 3) := by decide +kernel
theorem d_LT_support_41 : decode c_LT_support 41 = .ok (.aload_n 0, 1) := by decide +kernel
theorem d_LT_support_42 : decode c_LT_support 42 = .ok (.getfield 61, 3) := by decide +kernel
theorem d_LT_support_45 : decode c_LT_support 45 = .ok (.aload_n 0, 1) := by decide +kernel
theorem d_LT_support_46 : decode c_LT_support 46 = .ok (.getfield 89, 3) := by decide +kernel
theorem d_LT_support_49 : decode c_LT_support 49 = .ok (.iload_n 1, 1) := by decide +kernel
theorem d_LT_support_50 : decode c_LT_support 50 = .ok (.iastore, 1) := by decide +kernel
theorem d_LT_support_51 : decode c_LT_support 51 = .ok (.aload_n 0, 1) := by decide +kernel
theorem d_LT_support_52 : decode c_LT_support 52 = .ok (.dup, 1) := by decide +kernel
theorem d_LT_support_53 : decode c_LT_support 53 = .ok (.getfield 89, 3) := by decide +kernel
theorem d_LT_support_56 : decode c_LT_support 56 = .ok (.iconst 1, 1) := by decide +kernel
theorem d_LT_support_57 : decode c_LT_support 57 = .ok (.iadd, 1) := by decide +kernel
theorem d_LT_support_58 : decode c_LT_support 58 = .ok (.putfield 89, 3) := by decide +kernel
theorem d_LT_support_61 : decode c_LT_support 61 = .ok (.iconst 1, 1) := by decide +kernel
theorem d_LT_support_62 : decode c_LT_support 62 = .ok (.ireturn, 1) := by decide +kernel
def sh_LT_support_29 (F : Nat)  (w : im_W) : Option (Int32 × im_W) :=
  im_rz (0 : Int32) w
set_option maxHeartbeats 4000000 in
set_option maxRecDepth 100000 in
theorem bk_LT_support_29 {F : Nat} {r : Int32 × im_W} (X : im_X D vwCl tA lo im_NW c_LT_support 2 (some .boolean) RC_LT im_T p s m args meth c)  (w : im_W) (hsh : sh_LT_support_29 F w = some r) : im_WW D vwCl tA lo 2 p l e (im_rm 1 21) s m args below meth c 0 0 (MQ below (im_Post D vwCl tA lo (some (.int r.1)) r.2) args s 0 0 (fun q => lo ≤ q)) 29 [] [] w := by
  obtain ⟨hx, hb, hr, hts, hown, hlk, hml, hK, hN⟩ := id X
  intro H locs ls hH hl
  unfold sh_LT_support_29 at hsh
  refine lv_iconst (v := 0) hx hb d_LT_support_29 (by decide) ?_
  obtain ⟨rfl, hn⟩ := im_rz_s hsh
  exact im_zret hx hb hr hlk hn hH d_LT_support_30
def sh_LT_support (F : Nat) (x0 : Nat) (x1 : Int32) (w : im_W) : Option (Int32 × im_W) :=
  (im_is w 8 x0).bind fun u1 => im_b2 (sh_LT_isTag F x0 x1 w) fun v7 w5 => (if v7 = 0 then sh_LT_support_29 F w5 else (im_gR w5 8 x0 7).bind fun f8 => (im_lR w5 4 f8 x1).bind fun e10 => (im_gI w5 6 e10 3).bind fun f12 => (if f12 = 0 then (im_gI w5 8 x0 14).bind fun f14 => (if f14 < (16 : Int32) then (im_gR w5 8 x0 7).bind fun f16 => (im_lR w5 4 f16 x1).bind fun e18 => (im_z (1 : Int32)).bind fun u20 => (im_pV w5 6 e18 3 (.int (1 : Int32))).bind fun w22 => (im_gR w22 8 x0 8).bind fun f24 => (im_gI w22 8 x0 14).bind fun f26 => (im_sI w22 0 f24 f26 x1).bind fun w28 => (im_gI w28 8 x0 14).bind fun f30 => (im_pV w28 8 x0 14 (.int (f30 + (1 : Int32)))).bind fun w32 => im_rz (1 : Int32) w32 else sh_LT_support_29 F w5) else sh_LT_support_29 F w5))
set_option maxHeartbeats 4000000 in
set_option maxRecDepth 100000 in
theorem met_LT_support {F : Nat} {x0 : Nat} {x1 : Int32} {w : im_W} {r : Int32 × im_W} (hsh : sh_LT_support F x0 x1 w = some r) : Met l y_LT_support (Cond.code y_LT_support c_LT_support 2 (some .boolean) :: im_T) (im_rm 1 21) (im_Pre D vwCl tA lo im_NW [.ref (lo + x0), .int x1] w) (im_Post D vwCl tA lo (some (.int r.1)) r.2) 0 0 (fun q => lo ≤ q) := by
  refine im_ofW (cc := c_LT_support) (nL := 2) (ret := (some .boolean)) (by decide) (Nat.le_of_ble_eq_true rfl) ?_
  intro p e s m args below meth c X H locs ls hH hl
  obtain ⟨hx, hb, hr, hts, hown, hlk, hml, hK, hN⟩ := id X
  have hl : lv_has ls 2 [(0, .ref (lo + x0)), (1, .int x1)] := hl
  unfold sh_LT_support at hsh
  refine lv_aload_n hx hb d_LT_support_0 rfl (lv_at hl 0 rfl) ?_
  refine lv_iload_n hx hb d_LT_support_1 rfl (lv_at hl 1 rfl) ?_
  obtain ⟨u1, h2, hsh⟩ := im_bd hsh
  obtain ⟨g3, h4⟩ := im_is_s h2
  obtain ⟨v7, w5, h6, hsh⟩ := im_bd2 hsh
  refine im_afterI (va_runV (As := [.int x1]) (rest := []) (C := RC_LT) ⟨hx, hb, hml, hown, hts⟩ (met_LT_isTag h6) ⟨(callB_of 1 hts (im_good wd_489) rfl rfl rfl (hts _ wd_1) (hts _ wd_486) (by decide +kernel) ⟨Nat.le_of_ble_eq_true rfl, Nat.le_of_ble_eq_true rfl⟩), hts _ wd_488, hts _ sl_LT_isTag⟩ (im_preV im_NW_ok hK hN hH (ci := 8) rfl rfl h4 _) rfl rfl hl.1 rfl (lv_room (Nat.le_of_ble_eq_true rfl)) d_LT_support_2 ⟨Nat.le_of_ble_eq_true rfl, Nat.le_of_ble_eq_true rfl⟩) hH (fun H locs hH => ?_)
  refine lv_if_eq (tgt := 29) hx hb d_LT_support_5 (by decide) (fun cc => ?_) (fun cc => ?_)
  · have hsh := im_it hsh cc
    exact bk_LT_support_29 X w5 hsh H locs ls hH (lv_sub hl [] rfl)
  · have hsh := im_if hsh cc
    refine lv_aload_n hx hb d_LT_support_8 rfl (lv_at hl 0 rfl) ?_
    obtain ⟨f8, h9, hsh⟩ := im_bd hsh
    refine im_getR hx hb hts inC_LT hown hK hH (ci := 8) rfl 7 (by decide) (hts _ wd_182) rfl h9 d_LT_support_9 ?_
    refine lv_iload_n hx hb d_LT_support_12 rfl (lv_at hl 1 rfl) ?_
    obtain ⟨e10, h11, hsh⟩ := im_bd hsh
    refine im_aald4 hx hb hK hH h11 d_LT_support_13 ?_
    obtain ⟨f12, h13, hsh⟩ := im_bd hsh
    refine im_getNI hx hb hts inC_Tag hown hK hH (ci := 6) rfl 3 (by decide) (hN _ nw_161) rfl h13 d_LT_support_14 ?_
    refine lv_if_ne (tgt := 29) hx hb d_LT_support_17 (by decide) (fun cc => ?_) (fun cc => ?_)
    · have hsh := im_if hsh cc
      exact bk_LT_support_29 X w5 hsh H locs ls hH (lv_sub hl [] rfl)
    · have hsh := im_it hsh cc
      refine lv_aload_n hx hb d_LT_support_20 rfl (lv_at hl 0 rfl) ?_
      obtain ⟨f14, h15, hsh⟩ := im_bd hsh
      refine im_getI hx hb hts inC_LT hown hK hH (ci := 8) rfl 14 (by decide) (hts _ wd_189) rfl h15 d_LT_support_21 ?_
      refine lv_bipush (v := 16) hx hb d_LT_support_24 (by decide) ?_
      refine lv_icmp_lt (tgt := 31) hx hb d_LT_support_26 (by decide) (fun cc => ?_) (fun cc => ?_)
      · have hsh := im_it hsh cc
        refine lv_aload_n hx hb d_LT_support_31 rfl (lv_at hl 0 rfl) ?_
        obtain ⟨f16, h17, hsh⟩ := im_bd hsh
        refine im_getR hx hb hts inC_LT hown hK hH (ci := 8) rfl 7 (by decide) (hts _ wd_182) rfl h17 d_LT_support_32 ?_
        refine lv_iload_n hx hb d_LT_support_35 rfl (lv_at hl 1 rfl) ?_
        obtain ⟨e18, h19, hsh⟩ := im_bd hsh
        refine im_aald4 hx hb hK hH h19 d_LT_support_36 ?_
        refine lv_iconst (v := 1) hx hb d_LT_support_37 (by decide) ?_
        obtain ⟨u20, h21, hsh⟩ := im_bd hsh
        obtain ⟨w22, h23, hsh⟩ := im_bd hsh
        refine im_putN (v := .int (1 : Int32)) hx hb hts inC_Tag tyC_Tag tyC_Tag_ok nmC_Tag hown hK hH (ci := 6) rfl 3 (by decide) (hN _ nw_161) rfl rfl (im_z_n h21) (im_z_f h21) h23 d_LT_support_38 (fun H locs hH => ?_)
        refine lv_aload_n hx hb d_LT_support_41 rfl (lv_at hl 0 rfl) ?_
        obtain ⟨f24, h25, hsh⟩ := im_bd hsh
        refine im_getR hx hb hts inC_LT hown hK hH (ci := 8) rfl 8 (by decide) (hts _ wd_183) rfl h25 d_LT_support_42 ?_
        refine lv_aload_n hx hb d_LT_support_45 rfl (lv_at hl 0 rfl) ?_
        obtain ⟨f26, h27, hsh⟩ := im_bd hsh
        refine im_getI hx hb hts inC_LT hown hK hH (ci := 8) rfl 14 (by decide) (hts _ wd_189) rfl h27 d_LT_support_46 ?_
        refine lv_iload_n hx hb d_LT_support_49 rfl (lv_at hl 1 rfl) ?_
        obtain ⟨w28, h29, hsh⟩ := im_bd hsh
        refine im_iast hx hb hK hH h29 d_LT_support_50 (fun H locs hH => ?_)
        refine lv_aload_n hx hb d_LT_support_51 rfl (lv_at hl 0 rfl) ?_
        refine lv_dup hx hb d_LT_support_52 rfl ?_
        obtain ⟨f30, h31, hsh⟩ := im_bd hsh
        refine im_getI hx hb hts inC_LT hown hK hH (ci := 8) rfl 14 (by decide) (hts _ wd_189) rfl h31 d_LT_support_53 ?_
        refine lv_iconst (v := 1) hx hb d_LT_support_56 (by decide) ?_
        refine lv_iadd hx hb d_LT_support_57 ?_
        obtain ⟨w32, h33, hsh⟩ := im_bd hsh
        refine im_put (v := .int (f30 + (1 : Int32))) hx hb hts inC_LT tyC_LT tyC_LT_ok nmC_LT hown hK hH (ci := 8) rfl 14 (by decide) (hts _ wd_189) rfl rfl rfl rfl h33 d_LT_support_58 (fun H locs hH => ?_)
        refine lv_iconst (v := 1) hx hb d_LT_support_61 (by decide) ?_
        obtain ⟨rfl, hn⟩ := im_rz_s hsh
        exact im_zret hx hb hr hlk hn hH d_LT_support_62
      · have hsh := im_if hsh cc
        exact bk_LT_support_29 X w5 hsh H locs ls hH (lv_sub hl [] rfl)
theorem wd_568 : (Jvm.Cond.methodLink "LanguageTags" (221 : Nat) ({ cls := "LanguageTags$Form", name := "isWithin", desc := "(LLanguageTags$Form;)Z" } : Jvm.MethodName)) ∈ im_T := im_memT (i := 568) (by decide +kernel) (by decide +kernel)
theorem wd_569 : (Jvm.Cond.instanceMethod ({ cls := "LanguageTags$Form", name := "isWithin", desc := "(LLanguageTags$Form;)Z" } : Jvm.MethodName)) ∈ im_T := im_memT (i := 569) (by decide +kernel) (by decide +kernel)
theorem wd_570 : (Jvm.Cond.selects "LanguageTags$Form" ({ cls := "LanguageTags$Form", name := "isWithin", desc := "(LLanguageTags$Form;)Z" } : Jvm.MethodName) ({ cls := "LanguageTags$Form", name := "isWithin", desc := "(LLanguageTags$Form;)Z" } : Jvm.MethodName)) ∈ im_T := im_memT (i := 570) (by decide +kernel) (by decide +kernel)
theorem wd_571 : (Jvm.Cond.code ({ cls := "LanguageTags$Form", name := "isWithin", desc := "(LLanguageTags$Form;)Z" } : Jvm.MethodName) prog_4_method_10_code (4 : Nat) (Option.some Jvm.ClassFile.FieldType.boolean)) ∈ im_T := im_memT (i := 571) (by decide +kernel) (by decide +kernel)
theorem d_LT_fits_0 : decode c_LT_fits 0 = .ok (.aload_n 0, 1) := by decide +kernel
theorem d_LT_fits_1 : decode c_LT_fits 1 = .ok (.iload_n 1, 1) := by decide +kernel
theorem d_LT_fits_2 : decode c_LT_fits 2 = .ok (.invokevirtual 198, 3) := by decide +kernel
theorem d_LT_fits_5 : decode c_LT_fits 5 = .ok (.ifCond .eq (39), 3) := by decide +kernel
theorem d_LT_fits_8 : decode c_LT_fits 8 = .ok (.aload_n 0, 1) := by decide +kernel
theorem d_LT_fits_9 : decode c_LT_fits 9 = .ok (.iload_n 2, 1) := by decide +kernel
theorem d_LT_fits_10 : decode c_LT_fits 10 = .ok (.invokevirtual 198, 3) := by decide +kernel
theorem d_LT_fits_13 : decode c_LT_fits 13 = .ok (.ifCond .eq (31), 3) := by decide +kernel
theorem d_LT_fits_16 : decode c_LT_fits 16 = .ok (.aload_n 0, 1) := by decide +kernel
theorem d_LT_fits_17 : decode c_LT_fits 17 = .ok (.getfield 56, 3) := by decide +kernel
theorem d_LT_fits_20 : decode c_LT_fits 20 = .ok (.iload_n 2, 1) := by decide +kernel
theorem d_LT_fits_21 : decode c_LT_fits 21 = .ok (.aaload, 1) := by decide +kernel
theorem d_LT_fits_22 : decode c_LT_fits 22 = .ok (.getfield 165, 3) := by decide +kernel
theorem d_LT_fits_25 : decode c_LT_fits 25 = .ok (.aload_n 0, 1) := by decide +kernel
theorem d_LT_fits_26 : decode c_LT_fits 26 = .ok (.getfield 56, 3) := by decide +kernel
theorem d_LT_fits_29 : decode c_LT_fits 29 = .ok (.iload_n 1, 1) := by decide +kernel
theorem d_LT_fits_30 : decode c_LT_fits 30 = .ok (.aaload, 1) := by decide +kernel
theorem d_LT_fits_31 : decode c_LT_fits 31 = .ok (.getfield 165, 3) := by decide +kernel
theorem d_LT_fits_34 : decode c_LT_fits 34 = .ok (.invokevirtual 221, 3) := by decide +kernel
theorem d_LT_fits_37 : decode c_LT_fits 37 = .ok (.ifCond .eq (7), 3) := by decide +kernel
theorem d_LT_fits_40 : decode c_LT_fits 40 = .ok (.iconst 1, 1) := by decide +kernel
theorem d_LT_fits_41 : decode c_LT_fits 41 = .ok (.goto (4), 3) := by decide +kernel
theorem d_LT_fits_44 : decode c_LT_fits 44 = .ok (.iconst 0, 1) := by decide +kernel
theorem d_LT_fits_45 : decode c_LT_fits 45 = .ok (.ireturn, 1) := by decide +kernel
def sh_LT_fits_45 (F : Nat) (y0 : Int32) (w : im_W) : Option (Int32 × im_W) :=
  im_rz y0 w
set_option maxHeartbeats 4000000 in
set_option maxRecDepth 100000 in
theorem bk_LT_fits_45 {F : Nat} {r : Int32 × im_W} (X : im_X D vwCl tA lo im_NW c_LT_fits 3 (some .boolean) RC_LT im_T p s m args meth c) (y0 : Int32) (w : im_W) (hsh : sh_LT_fits_45 F y0 w = some r) : im_WW D vwCl tA lo 3 p l e (im_rm 3 68) s m args below meth c 0 0 (MQ below (im_Post D vwCl tA lo (some (.int r.1)) r.2) args s 0 0 (fun q => lo ≤ q)) 45 [] [.int y0] w := by
  obtain ⟨hx, hb, hr, hts, hown, hlk, hml, hK, hN⟩ := id X
  intro H locs ls hH hl
  unfold sh_LT_fits_45 at hsh
  obtain ⟨rfl, hn⟩ := im_rz_s hsh
  exact im_zret hx hb hr hlk hn hH d_LT_fits_45
def sh_LT_fits_44 (F : Nat)  (w : im_W) : Option (Int32 × im_W) :=
  sh_LT_fits_45 F (0 : Int32) w
set_option maxHeartbeats 4000000 in
set_option maxRecDepth 100000 in
theorem bk_LT_fits_44 {F : Nat} {r : Int32 × im_W} (X : im_X D vwCl tA lo im_NW c_LT_fits 3 (some .boolean) RC_LT im_T p s m args meth c)  (w : im_W) (hsh : sh_LT_fits_44 F w = some r) : im_WW D vwCl tA lo 3 p l e (im_rm 3 68) s m args below meth c 0 0 (MQ below (im_Post D vwCl tA lo (some (.int r.1)) r.2) args s 0 0 (fun q => lo ≤ q)) 44 [] [] w := by
  obtain ⟨hx, hb, hr, hts, hown, hlk, hml, hK, hN⟩ := id X
  intro H locs ls hH hl
  unfold sh_LT_fits_44 at hsh
  refine lv_iconst (v := 0) hx hb d_LT_fits_44 (by decide) ?_
  exact bk_LT_fits_45 X (0 : Int32) w hsh H locs ls hH (lv_sub hl [] rfl)
def sh_LT_fits (F : Nat) (x0 : Nat) (x1 : Int32) (x2 : Int32) (w : im_W) : Option (Int32 × im_W) :=
  (im_is w 8 x0).bind fun u1 => im_b2 (sh_LT_isTag F x0 x1 w) fun v7 w5 => (if v7 = 0 then sh_LT_fits_44 F w5 else (im_is w5 8 x0).bind fun u8 => im_b2 (sh_LT_isTag F x0 x2 w5) fun v14 w12 => (if v14 = 0 then sh_LT_fits_44 F w12 else (im_gR w12 8 x0 7).bind fun f15 => (im_lR w12 4 f15 x2).bind fun e17 => (im_gR w12 6 e17 0).bind fun f19 => (im_gR w12 8 x0 7).bind fun f21 => (im_lR w12 4 f21 x1).bind fun e23 => (im_gR w12 6 e23 0).bind fun f25 => (im_is w12 2 f19).bind fun u27 => im_b2 (sh_Form_isWithin F f19 f25 w12) fun v33 w31 => (if v33 = 0 then sh_LT_fits_44 F w31 else sh_LT_fits_45 F (1 : Int32) w31)))
set_option maxHeartbeats 4000000 in
set_option maxRecDepth 100000 in
theorem met_LT_fits {F : Nat} {x0 : Nat} {x1 : Int32} {x2 : Int32} {w : im_W} {r : Int32 × im_W} (hsh : sh_LT_fits F x0 x1 x2 w = some r) : Met l y_LT_fits (Cond.code y_LT_fits c_LT_fits 3 (some .boolean) :: im_T) (im_rm 3 68) (im_Pre D vwCl tA lo im_NW [.ref (lo + x0), .int x1, .int x2] w) (im_Post D vwCl tA lo (some (.int r.1)) r.2) 0 0 (fun q => lo ≤ q) := by
  refine im_ofW (cc := c_LT_fits) (nL := 3) (ret := (some .boolean)) (by decide) (Nat.le_of_ble_eq_true rfl) ?_
  intro p e s m args below meth c X H locs ls hH hl
  obtain ⟨hx, hb, hr, hts, hown, hlk, hml, hK, hN⟩ := id X
  have hl : lv_has ls 3 [(0, .ref (lo + x0)), (1, .int x1), (2, .int x2)] := hl
  unfold sh_LT_fits at hsh
  refine lv_aload_n hx hb d_LT_fits_0 rfl (lv_at hl 0 rfl) ?_
  refine lv_iload_n hx hb d_LT_fits_1 rfl (lv_at hl 1 rfl) ?_
  obtain ⟨u1, h2, hsh⟩ := im_bd hsh
  obtain ⟨g3, h4⟩ := im_is_s h2
  obtain ⟨v7, w5, h6, hsh⟩ := im_bd2 hsh
  refine im_afterI (va_runV (As := [.int x1]) (rest := []) (C := RC_LT) ⟨hx, hb, hml, hown, hts⟩ (met_LT_isTag h6) ⟨(callB_of 1 hts (im_good wd_489) rfl rfl rfl (hts _ wd_1) (hts _ wd_486) (by decide +kernel) ⟨Nat.le_of_ble_eq_true rfl, Nat.le_of_ble_eq_true rfl⟩), hts _ wd_488, hts _ sl_LT_isTag⟩ (im_preV im_NW_ok hK hN hH (ci := 8) rfl rfl h4 _) rfl rfl hl.1 rfl (lv_room (Nat.le_of_ble_eq_true rfl)) d_LT_fits_2 ⟨Nat.le_of_ble_eq_true rfl, Nat.le_of_ble_eq_true rfl⟩) hH (fun H locs hH => ?_)
  refine lv_if_eq (tgt := 44) hx hb d_LT_fits_5 (by decide) (fun cc => ?_) (fun cc => ?_)
  · have hsh := im_it hsh cc
    exact bk_LT_fits_44 X w5 hsh H locs ls hH (lv_sub hl [] rfl)
  · have hsh := im_if hsh cc
    refine lv_aload_n hx hb d_LT_fits_8 rfl (lv_at hl 0 rfl) ?_
    refine lv_iload_n hx hb d_LT_fits_9 rfl (lv_at hl 2 rfl) ?_
    obtain ⟨u8, h9, hsh⟩ := im_bd hsh
    obtain ⟨g10, h11⟩ := im_is_s h9
    obtain ⟨v14, w12, h13, hsh⟩ := im_bd2 hsh
    refine im_afterI (va_runV (As := [.int x2]) (rest := []) (C := RC_LT) ⟨hx, hb, hml, hown, hts⟩ (met_LT_isTag h13) ⟨(callB_of 1 hts (im_good wd_489) rfl rfl rfl (hts _ wd_1) (hts _ wd_486) (by decide +kernel) ⟨Nat.le_of_ble_eq_true rfl, Nat.le_of_ble_eq_true rfl⟩), hts _ wd_488, hts _ sl_LT_isTag⟩ (im_preV im_NW_ok hK hN hH (ci := 8) rfl rfl h11 _) rfl rfl hl.1 rfl (lv_room (Nat.le_of_ble_eq_true rfl)) d_LT_fits_10 ⟨Nat.le_of_ble_eq_true rfl, Nat.le_of_ble_eq_true rfl⟩) hH (fun H locs hH => ?_)
    refine lv_if_eq (tgt := 44) hx hb d_LT_fits_13 (by decide) (fun cc => ?_) (fun cc => ?_)
    · have hsh := im_it hsh cc
      exact bk_LT_fits_44 X w12 hsh H locs ls hH (lv_sub hl [] rfl)
    · have hsh := im_if hsh cc
      refine lv_aload_n hx hb d_LT_fits_16 rfl (lv_at hl 0 rfl) ?_
      obtain ⟨f15, h16, hsh⟩ := im_bd hsh
      refine im_getR hx hb hts inC_LT hown hK hH (ci := 8) rfl 7 (by decide) (hts _ wd_182) rfl h16 d_LT_fits_17 ?_
      refine lv_iload_n hx hb d_LT_fits_20 rfl (lv_at hl 2 rfl) ?_
      obtain ⟨e17, h18, hsh⟩ := im_bd hsh
      refine im_aald4 hx hb hK hH h18 d_LT_fits_21 ?_
      obtain ⟨f19, h20, hsh⟩ := im_bd hsh
      refine im_getNR hx hb hts inC_Tag hown hK hH (ci := 6) rfl 0 (by decide) (hN _ nw_157) rfl h20 d_LT_fits_22 ?_
      refine lv_aload_n hx hb d_LT_fits_25 rfl (lv_at hl 0 rfl) ?_
      obtain ⟨f21, h22, hsh⟩ := im_bd hsh
      refine im_getR hx hb hts inC_LT hown hK hH (ci := 8) rfl 7 (by decide) (hts _ wd_182) rfl h22 d_LT_fits_26 ?_
      refine lv_iload_n hx hb d_LT_fits_29 rfl (lv_at hl 1 rfl) ?_
      obtain ⟨e23, h24, hsh⟩ := im_bd hsh
      refine im_aald4 hx hb hK hH h24 d_LT_fits_30 ?_
      obtain ⟨f25, h26, hsh⟩ := im_bd hsh
      refine im_getNR hx hb hts inC_Tag hown hK hH (ci := 6) rfl 0 (by decide) (hN _ nw_157) rfl h26 d_LT_fits_31 ?_
      obtain ⟨u27, h28, hsh⟩ := im_bd hsh
      obtain ⟨g29, h30⟩ := im_is_s h28
      obtain ⟨v33, w31, h32, hsh⟩ := im_bd2 hsh
      refine im_afterI (va_runV (As := [.ref (lo + f25)]) (rest := []) (C := RC_Form) ⟨hx, hb, hml, hown, hts⟩ (met_Form_isWithin h32) ⟨(callB_of 1 hts (im_good wd_571) rfl rfl rfl (hts _ wd_6) (hts _ wd_568) (by decide +kernel) ⟨Nat.le_of_ble_eq_true rfl, Nat.le_of_ble_eq_true rfl⟩), hts _ wd_569, hts _ wd_570⟩ (im_preV im_NW_ok hK hN hH (ci := 2) rfl rfl h30 _) rfl rfl hl.1 rfl (lv_room (Nat.le_of_ble_eq_true rfl)) d_LT_fits_34 ⟨Nat.le_of_ble_eq_true rfl, Nat.le_of_ble_eq_true rfl⟩) hH (fun H locs hH => ?_)
      refine lv_if_eq (tgt := 44) hx hb d_LT_fits_37 (by decide) (fun cc => ?_) (fun cc => ?_)
      · have hsh := im_it hsh cc
        exact bk_LT_fits_44 X w31 hsh H locs ls hH (lv_sub hl [] rfl)
      · have hsh := im_if hsh cc
        refine lv_iconst (v := 1) hx hb d_LT_fits_40 (by decide) ?_
        refine lv_goto (tgt := 45) hx hb d_LT_fits_41 (by decide) ?_
        exact bk_LT_fits_45 X (1 : Int32) w31 hsh H locs ls hH (lv_sub hl [] rfl)
theorem wd_577 : (Jvm.Cond.methodLink "LanguageTags" (225 : Nat) ({ cls := "LanguageTags$Form", name := "truncated", desc := "(I)I" } : Jvm.MethodName)) ∈ im_T := im_memT (i := 577) (by decide +kernel) (by decide +kernel)
theorem wd_578 : (Jvm.Cond.instanceMethod ({ cls := "LanguageTags$Form", name := "truncated", desc := "(I)I" } : Jvm.MethodName)) ∈ im_T := im_memT (i := 578) (by decide +kernel) (by decide +kernel)
theorem wd_579 : (Jvm.Cond.selects "LanguageTags$Form" ({ cls := "LanguageTags$Form", name := "truncated", desc := "(I)I" } : Jvm.MethodName) ({ cls := "LanguageTags$Form", name := "truncated", desc := "(I)I" } : Jvm.MethodName)) ∈ im_T := im_memT (i := 579) (by decide +kernel) (by decide +kernel)
theorem wd_580 : (Jvm.Cond.code ({ cls := "LanguageTags$Form", name := "truncated", desc := "(I)I" } : Jvm.MethodName) prog_4_method_9_code (3 : Nat) (Option.some Jvm.ClassFile.FieldType.int)) ∈ im_T := im_memT (i := 580) (by decide +kernel) (by decide +kernel)
theorem d_LT_lookup_0 : decode c_LT_lookup 0 = .ok (.aload_n 0, 1) := by decide +kernel
theorem d_LT_lookup_1 : decode c_LT_lookup 1 = .ok (.iload_n 1, 1) := by decide +kernel
theorem d_LT_lookup_2 : decode c_LT_lookup 2 = .ok (.invokevirtual 198, 3) := by decide +kernel
theorem d_LT_lookup_5 : decode c_LT_lookup 5 = .ok (.ifCond .ne (5), 3) := by decide +kernel
theorem d_LT_lookup_8 : decode c_LT_lookup 8 = .ok (.iconst (-1), 1) := by decide +kernel
theorem d_LT_lookup_9 : decode c_LT_lookup 9 = .ok (.ireturn, 1) := by decide +kernel
theorem d_LT_lookup_10 : decode c_LT_lookup 10 = .ok (.aload_n 0, 1) := by decide +kernel
theorem d_LT_lookup_11 : decode c_LT_lookup 11 = .ok (.getfield 56, 3) := by decide +kernel
theorem d_LT_lookup_14 : decode c_LT_lookup 14 = .ok (.iload_n 1, 1) := by decide +kernel
theorem d_LT_lookup_15 : decode c_LT_lookup 15 = .ok (.aaload, 1) := by decide +kernel
theorem d_LT_lookup_16 : decode c_LT_lookup 16 = .ok (.getfield 165, 3) := by decide +kernel
theorem d_LT_lookup_19 : decode c_LT_lookup 19 = .ok (.astore_n 2, 1) := by decide +kernel
theorem d_LT_lookup_20 : decode c_LT_lookup 20 = .ok (.aload_n 2, 1) := by decide +kernel
theorem d_LT_lookup_21 : decode c_LT_lookup 21 = .ok (.invokevirtual 160, 3) := by decide +kernel
theorem d_LT_lookup_24 : decode c_LT_lookup 24 = .ok (.istore_n 3, 1) := by decide +kernel
theorem d_LT_lookup_25 : decode c_LT_lookup 25 = .ok (.iconst 0, 1) := by decide +kernel
theorem d_LT_lookup_26 : decode c_LT_lookup 26 = .ok (.istore 4, 2) := by decide +kernel
theorem d_LT_lookup_28 : decode c_LT_lookup 28 = .ok (.iload 4, 2) := by decide +kernel
theorem d_LT_lookup_30 : decode c_LT_lookup 30 = .ok (.bipush (30), 2) := by decide +kernel
theorem d_LT_lookup_32 : decode c_LT_lookup 32 = .ok (.if_icmp .ge (48), 3) := by decide +kernel
theorem d_LT_lookup_35 : decode c_LT_lookup 35 = .ok (.iload_n 3, 1) := by decide +kernel
theorem d_LT_lookup_36 : decode c_LT_lookup 36 = .ok (.ifCond .le (44), 3) := by decide +kernel
theorem d_LT_lookup_39 : decode c_LT_lookup 39 = .ok (.aload_n 0, 1) := by decide +kernel
theorem d_LT_lookup_40 : decode c_LT_lookup 40 = .ok (.aload_n 2, 1) := by decide +kernel
theorem d_LT_lookup_41 : decode c_LT_lookup 41 = .ok (.iload_n 3, 1) := by decide +kernel
theorem d_LT_lookup_42 : decode c_LT_lookup 42 = .ok (.invokevirtual 161, 3) := by decide +kernel
theorem d_LT_lookup_45 : decode c_LT_lookup 45 = .ok (.istore 5, 2) := by decide +kernel
theorem d_LT_lookup_47 : decode c_LT_lookup 47 = .ok (.iload 5, 2) := by decide +kernel
theorem d_LT_lookup_49 : decode c_LT_lookup 49 = .ok (.ifCond .lt (19), 3) := by decide +kernel
theorem d_LT_lookup_52 : decode c_LT_lookup 52 = .ok (.aload_n 0, 1) := by decide +kernel
theorem d_LT_lookup_53 : decode c_LT_lookup 53 = .ok (.getfield 56, 3) := by decide +kernel
theorem d_LT_lookup_56 : decode c_LT_lookup 56 = .ok (.iload 5, 2) := by decide +kernel
theorem d_LT_lookup_58 : decode c_LT_lookup 58 = .ok (.aaload, 1) := by decide +kernel
theorem d_LT_lookup_59 : decode c_LT_lookup 59 = .ok (.getfield 218, 3) := by decide +kernel
theorem d_LT_lookup_62 : decode c_LT_lookup 62 = .ok (.ifCond .eq (6), 3) := by decide +kernel
theorem d_LT_lookup_65 : decode c_LT_lookup 65 = .ok (.iload 5, 2) := by decide +kernel
theorem d_LT_lookup_67 : decode c_LT_lookup 67 = .ok (.ireturn, 1) := by decide +kernel
theorem d_LT_lookup_68 : decode c_LT_lookup 68 = .ok (.aload_n 2, 1) := by decide +kernel
theorem d_LT_lookup_69 : decode c_LT_lookup 69 = .ok (.iload_n 3, 1) := by decide +kernel
theorem d_LT_lookup_70 : decode c_LT_lookup 70 = .ok (.invokevirtual 225, 3) := by decide +kernel
theorem d_LT_lookup_73 : decode c_LT_lookup 73 = .ok (.istore_n 3, 1) := by decide +kernel
theorem d_LT_lookup_74 : decode c_LT_lookup 74 = .ok (.iinc 4 (1), 3) := by decide +kernel
theorem d_LT_lookup_77 : decode c_LT_lookup 77 = .ok (.goto (-49), 3) := by decide +kernel
theorem d_LT_lookup_80 : decode c_LT_lookup 80 = .ok (.iconst (-1), 1) := by decide +kernel
theorem d_LT_lookup_81 : decode c_LT_lookup 81 = .ok (.ireturn, 1) := by decide +kernel
def sh_LT_lookup_68 (F : Nat) (k28 : Nat → Nat → Int32 → Int32 → im_W → Option (Int32 × im_W)) (x0 : Nat) (x2 : Nat) (x3 : Int32) (x4 : Int32) (w : im_W) : Option (Int32 × im_W) :=
  (im_is w 2 x2).bind fun u1 => im_b2 (sh_Form_truncated F x2 x3 w) fun v7 w5 => k28 x0 x2 v7 (x4 + (1 : Int32)) w5
set_option maxHeartbeats 4000000 in
set_option maxRecDepth 100000 in
theorem bk_LT_lookup_68 {F : Nat} {r : Int32 × im_W} (X : im_X D vwCl tA lo im_NW c_LT_lookup 6 (some .int) RC_LT im_T p s m args meth c) {k28 : Nat → Nat → Int32 → Int32 → im_W → Option (Int32 × im_W)} (hk28 : ∀ (x0 : Nat) (x2 : Nat) (x3 : Int32) (x4 : Int32) (w : im_W), k28 x0 x2 x3 x4 w = some r → im_WW D vwCl tA lo 6 p l e (im_rm 3 67) s m args below meth c 0 0 (MQ below (im_Post D vwCl tA lo (some (.int r.1)) r.2) args s 0 0 (fun q => lo ≤ q)) 28 [(0, .ref (lo + x0)), (2, .ref (lo + x2)), (3, .int x3), (4, .int x4)] [] w) (x0 : Nat) (x2 : Nat) (x3 : Int32) (x4 : Int32) (w : im_W) (hsh : sh_LT_lookup_68 F k28 x0 x2 x3 x4 w = some r) : im_WW D vwCl tA lo 6 p l e (im_rm 3 67) s m args below meth c 0 0 (MQ below (im_Post D vwCl tA lo (some (.int r.1)) r.2) args s 0 0 (fun q => lo ≤ q)) 68 [(0, .ref (lo + x0)), (2, .ref (lo + x2)), (3, .int x3), (4, .int x4)] [] w := by
  obtain ⟨hx, hb, hr, hts, hown, hlk, hml, hK, hN⟩ := id X
  intro H locs ls hH hl
  unfold sh_LT_lookup_68 at hsh
  refine lv_aload_n hx hb d_LT_lookup_68 rfl (lv_at hl 1 rfl) ?_
  refine lv_iload_n hx hb d_LT_lookup_69 rfl (lv_at hl 2 rfl) ?_
  obtain ⟨u1, h2, hsh⟩ := im_bd hsh
  obtain ⟨g3, h4⟩ := im_is_s h2
  obtain ⟨v7, w5, h6, hsh⟩ := im_bd2 hsh
  refine im_afterI (va_runV (As := [.int x3]) (rest := []) (C := RC_Form) ⟨hx, hb, hml, hown, hts⟩ (met_Form_truncated h6) ⟨(callB_of 1 hts (im_good wd_580) rfl rfl rfl (hts _ wd_6) (hts _ wd_577) (by decide +kernel) ⟨Nat.le_of_ble_eq_true rfl, Nat.le_of_ble_eq_true rfl⟩), hts _ wd_578, hts _ wd_579⟩ (im_preV im_NW_ok hK hN hH (ci := 2) rfl rfl h4 _) rfl rfl hl.1 rfl (lv_room (Nat.le_of_ble_eq_true rfl)) d_LT_lookup_70 ⟨Nat.le_of_ble_eq_true rfl, Nat.le_of_ble_eq_true rfl⟩) hH (fun H locs hH => ?_)
  refine lv_istore_n (lv' := [(3, .int v7), (0, .ref (lo + x0)), (2, .ref (lo + x2)), (4, .int x4)]) hx hb d_LT_lookup_73 rfl hl (by decide) rfl (fun ls hl => ?_)
  refine lv_iinc (v := (x4 + (1 : Int32))) (lv' := [(4, .int (x4 + (1 : Int32))), (3, .int v7), (0, .ref (lo + x0)), (2, .ref (lo + x2))]) hx hb d_LT_lookup_74 hl (k := 3) rfl rfl (by decide) rfl (fun ls hl => ?_)
  refine lv_goto (tgt := 28) hx hb d_LT_lookup_77 (by decide) ?_
  exact hk28 x0 x2 v7 (x4 + (1 : Int32)) w5 hsh H locs ls hH (lv_sub hl [2, 3, 1, 0] rfl)
def sh_LT_lookup_80 (F : Nat)  (w : im_W) : Option (Int32 × im_W) :=
  some ((-1 : Int32), w)
set_option maxHeartbeats 4000000 in
set_option maxRecDepth 100000 in
theorem bk_LT_lookup_80 {F : Nat} {r : Int32 × im_W} (X : im_X D vwCl tA lo im_NW c_LT_lookup 6 (some .int) RC_LT im_T p s m args meth c)  (w : im_W) (hsh : sh_LT_lookup_80 F w = some r) : im_WW D vwCl tA lo 6 p l e (im_rm 3 67) s m args below meth c 0 0 (MQ below (im_Post D vwCl tA lo (some (.int r.1)) r.2) args s 0 0 (fun q => lo ≤ q)) 80 [] [] w := by
  obtain ⟨hx, hb, hr, hts, hown, hlk, hml, hK, hN⟩ := id X
  intro H locs ls hH hl
  unfold sh_LT_lookup_80 at hsh
  refine lv_iconst (v := -1) hx hb d_LT_lookup_80 (by decide) ?_
  obtain rfl := Option.some.inj hsh
  exact im_iret hx hb hr hlk hH d_LT_lookup_81
def sh_LT_lookup_28 (F : Nat) : Nat → Nat → Nat → Int32 → Int32 → im_W → Option (Int32 × im_W)
  | 0, _, _, _, _, _ => none
  | f + 1, x0, x2, x3, x4, w => (if (30 : Int32) ≤ x4 then sh_LT_lookup_80 F w else (if x3 ≤ 0 then sh_LT_lookup_80 F w else (im_is w 8 x0).bind fun u1 => im_b2 (sh_LT_tagWithForm F x0 x2 x3 w) fun v7 w5 => (if v7 < 0 then sh_LT_lookup_68 F (sh_LT_lookup_28 F f) x0 x2 x3 x4 w5 else (im_gR w5 8 x0 7).bind fun f8 => (im_lR w5 4 f8 v7).bind fun e10 => (im_gI w5 6 e10 3).bind fun f12 => (if f12 = 0 then sh_LT_lookup_68 F (sh_LT_lookup_28 F f) x0 x2 x3 x4 w5 else some (v7, w5)))))
set_option maxHeartbeats 4000000 in
set_option maxRecDepth 100000 in
theorem bk_LT_lookup_28 {F : Nat} {r : Int32 × im_W} (X : im_X D vwCl tA lo im_NW c_LT_lookup 6 (some .int) RC_LT im_T p s m args meth c) : ∀ (f : Nat) (x0 : Nat) (x2 : Nat) (x3 : Int32) (x4 : Int32) (w : im_W), sh_LT_lookup_28 F f x0 x2 x3 x4 w = some r → im_WW D vwCl tA lo 6 p l e (im_rm 3 67) s m args below meth c 0 0 (MQ below (im_Post D vwCl tA lo (some (.int r.1)) r.2) args s 0 0 (fun q => lo ≤ q)) 28 [(0, .ref (lo + x0)), (2, .ref (lo + x2)), (3, .int x3), (4, .int x4)] [] w := by
  obtain ⟨hx, hb, hr, hts, hown, hlk, hml, hK, hN⟩ := id X
  intro f
  induction f with
  | zero =>
    intro x0 x2 x3 x4 w hsh
    cases hsh
  | succ f ih =>
    intro x0 x2 x3 x4 w hsh H locs ls hH hl
    unfold sh_LT_lookup_28 at hsh
    refine lv_iload hx hb d_LT_lookup_28 (lv_at hl 3 rfl) ?_
    refine lv_bipush (v := 30) hx hb d_LT_lookup_30 (by decide) ?_
    refine lv_icmp_ge (tgt := 80) hx hb d_LT_lookup_32 (by decide) (fun cc => ?_) (fun cc => ?_)
    · have hsh := im_it hsh cc
      exact bk_LT_lookup_80 X w hsh H locs ls hH (lv_sub hl [] rfl)
    · have hsh := im_if hsh cc
      refine lv_iload_n hx hb d_LT_lookup_35 rfl (lv_at hl 2 rfl) ?_
      refine lv_if_le (tgt := 80) hx hb d_LT_lookup_36 (by decide) (fun cc => ?_) (fun cc => ?_)
      · have hsh := im_it hsh cc
        exact bk_LT_lookup_80 X w hsh H locs ls hH (lv_sub hl [] rfl)
      · have hsh := im_if hsh cc
        refine lv_aload_n hx hb d_LT_lookup_39 rfl (lv_at hl 0 rfl) ?_
        refine lv_aload_n hx hb d_LT_lookup_40 rfl (lv_at hl 1 rfl) ?_
        refine lv_iload_n hx hb d_LT_lookup_41 rfl (lv_at hl 2 rfl) ?_
        obtain ⟨u1, h2, hsh⟩ := im_bd hsh
        obtain ⟨g3, h4⟩ := im_is_s h2
        obtain ⟨v7, w5, h6, hsh⟩ := im_bd2 hsh
        refine im_afterI (va_runV (As := [.ref (lo + x2), .int x3]) (rest := []) (C := RC_LT) ⟨hx, hb, hml, hown, hts⟩ (met_LT_tagWithForm h6) ⟨(callB_of 2 hts (im_good wd_429) rfl rfl rfl (hts _ wd_1) (hts _ wd_426) (by decide +kernel) ⟨Nat.le_of_ble_eq_true rfl, Nat.le_of_ble_eq_true rfl⟩), hts _ wd_428, hts _ sl_LT_tagWithForm⟩ (im_preV im_NW_ok hK hN hH (ci := 8) rfl rfl h4 _) rfl rfl hl.1 rfl (lv_room (Nat.le_of_ble_eq_true rfl)) d_LT_lookup_42 ⟨Nat.le_of_ble_eq_true rfl, Nat.le_of_ble_eq_true rfl⟩) hH (fun H locs hH => ?_)
        refine lv_istore (lv' := [(5, .int v7), (0, .ref (lo + x0)), (2, .ref (lo + x2)), (3, .int x3), (4, .int x4)]) hx hb d_LT_lookup_45 hl (by decide) rfl (fun ls hl => ?_)
        refine lv_iload hx hb d_LT_lookup_47 (lv_at hl 0 rfl) ?_
        refine lv_if_lt (tgt := 68) hx hb d_LT_lookup_49 (by decide) (fun cc => ?_) (fun cc => ?_)
        · have hsh := im_it hsh cc
          exact bk_LT_lookup_68 X ih x0 x2 x3 x4 w5 hsh H locs ls hH (lv_sub hl [1, 2, 3, 4] rfl)
        · have hsh := im_if hsh cc
          refine lv_aload_n hx hb d_LT_lookup_52 rfl (lv_at hl 1 rfl) ?_
          obtain ⟨f8, h9, hsh⟩ := im_bd hsh
          refine im_getR hx hb hts inC_LT hown hK hH (ci := 8) rfl 7 (by decide) (hts _ wd_182) rfl h9 d_LT_lookup_53 ?_
          refine lv_iload hx hb d_LT_lookup_56 (lv_at hl 0 rfl) ?_
          obtain ⟨e10, h11, hsh⟩ := im_bd hsh
          refine im_aald4 hx hb hK hH h11 d_LT_lookup_58 ?_
          obtain ⟨f12, h13, hsh⟩ := im_bd hsh
          refine im_getNI hx hb hts inC_Tag hown hK hH (ci := 6) rfl 3 (by decide) (hN _ nw_161) rfl h13 d_LT_lookup_59 ?_
          refine lv_if_eq (tgt := 68) hx hb d_LT_lookup_62 (by decide) (fun cc => ?_) (fun cc => ?_)
          · have hsh := im_it hsh cc
            exact bk_LT_lookup_68 X ih x0 x2 x3 x4 w5 hsh H locs ls hH (lv_sub hl [1, 2, 3, 4] rfl)
          · have hsh := im_if hsh cc
            refine lv_iload hx hb d_LT_lookup_65 (lv_at hl 0 rfl) ?_
            obtain rfl := Option.some.inj hsh
            exact im_iret hx hb hr hlk hH d_LT_lookup_67
def sh_LT_lookup (F : Nat) (x0 : Nat) (x1 : Int32) (w : im_W) : Option (Int32 × im_W) :=
  (im_is w 8 x0).bind fun u1 => im_b2 (sh_LT_isTag F x0 x1 w) fun v7 w5 => (if v7 = 0 then some ((-1 : Int32), w5) else (im_gR w5 8 x0 7).bind fun f8 => (im_lR w5 4 f8 x1).bind fun e10 => (im_gR w5 6 e10 0).bind fun f12 => (im_is w5 2 f12).bind fun u14 => im_b2 (sh_Form_count F f12 w5) fun v20 w18 => sh_LT_lookup_28 F F x0 f12 v20 (0 : Int32) w18)
set_option maxHeartbeats 4000000 in
set_option maxRecDepth 100000 in
theorem met_LT_lookup {F : Nat} {x0 : Nat} {x1 : Int32} {w : im_W} {r : Int32 × im_W} (hsh : sh_LT_lookup F x0 x1 w = some r) : Met l y_LT_lookup (Cond.code y_LT_lookup c_LT_lookup 6 (some .int) :: im_T) (im_rm 3 67) (im_Pre D vwCl tA lo im_NW [.ref (lo + x0), .int x1] w) (im_Post D vwCl tA lo (some (.int r.1)) r.2) 0 0 (fun q => lo ≤ q) := by
  refine im_ofW (cc := c_LT_lookup) (nL := 6) (ret := (some .int)) (by decide) (Nat.le_of_ble_eq_true rfl) ?_
  intro p e s m args below meth c X H locs ls hH hl
  obtain ⟨hx, hb, hr, hts, hown, hlk, hml, hK, hN⟩ := id X
  have hl : lv_has ls 6 [(0, .ref (lo + x0)), (1, .int x1)] := hl
  unfold sh_LT_lookup at hsh
  refine lv_aload_n hx hb d_LT_lookup_0 rfl (lv_at hl 0 rfl) ?_
  refine lv_iload_n hx hb d_LT_lookup_1 rfl (lv_at hl 1 rfl) ?_
  obtain ⟨u1, h2, hsh⟩ := im_bd hsh
  obtain ⟨g3, h4⟩ := im_is_s h2
  obtain ⟨v7, w5, h6, hsh⟩ := im_bd2 hsh
  refine im_afterI (va_runV (As := [.int x1]) (rest := []) (C := RC_LT) ⟨hx, hb, hml, hown, hts⟩ (met_LT_isTag h6) ⟨(callB_of 1 hts (im_good wd_489) rfl rfl rfl (hts _ wd_1) (hts _ wd_486) (by decide +kernel) ⟨Nat.le_of_ble_eq_true rfl, Nat.le_of_ble_eq_true rfl⟩), hts _ wd_488, hts _ sl_LT_isTag⟩ (im_preV im_NW_ok hK hN hH (ci := 8) rfl rfl h4 _) rfl rfl hl.1 rfl (lv_room (Nat.le_of_ble_eq_true rfl)) d_LT_lookup_2 ⟨Nat.le_of_ble_eq_true rfl, Nat.le_of_ble_eq_true rfl⟩) hH (fun H locs hH => ?_)
  refine lv_if_ne (tgt := 10) hx hb d_LT_lookup_5 (by decide) (fun cc => ?_) (fun cc => ?_)
  · have hsh := im_if hsh cc
    refine lv_aload_n hx hb d_LT_lookup_10 rfl (lv_at hl 0 rfl) ?_
    obtain ⟨f8, h9, hsh⟩ := im_bd hsh
    refine im_getR hx hb hts inC_LT hown hK hH (ci := 8) rfl 7 (by decide) (hts _ wd_182) rfl h9 d_LT_lookup_11 ?_
    refine lv_iload_n hx hb d_LT_lookup_14 rfl (lv_at hl 1 rfl) ?_
    obtain ⟨e10, h11, hsh⟩ := im_bd hsh
    refine im_aald4 hx hb hK hH h11 d_LT_lookup_15 ?_
    obtain ⟨f12, h13, hsh⟩ := im_bd hsh
    refine im_getNR hx hb hts inC_Tag hown hK hH (ci := 6) rfl 0 (by decide) (hN _ nw_157) rfl h13 d_LT_lookup_16 ?_
    refine lv_astore_n (lv' := [(2, .ref (lo + f12)), (0, .ref (lo + x0)), (1, .int x1)]) hx hb d_LT_lookup_19 rfl hl (by decide) rfl (fun ls hl => ?_)
    refine lv_aload_n hx hb d_LT_lookup_20 rfl (lv_at hl 0 rfl) ?_
    obtain ⟨u14, h15, hsh⟩ := im_bd hsh
    obtain ⟨g16, h17⟩ := im_is_s h15
    obtain ⟨v20, w18, h19, hsh⟩ := im_bd2 hsh
    refine im_afterI (va_runV (As := []) (rest := []) (C := RC_Form) ⟨hx, hb, hml, hown, hts⟩ (met_Form_count h19) ⟨(callB_of 0 hts (im_good wd_425) rfl rfl rfl (hts _ wd_6) (hts _ wd_422) (by decide +kernel) ⟨Nat.le_of_ble_eq_true rfl, Nat.le_of_ble_eq_true rfl⟩), hts _ wd_423, hts _ wd_424⟩ (im_preV im_NW_ok hK hN hH (ci := 2) rfl rfl h17 _) rfl rfl hl.1 rfl (lv_room (Nat.le_of_ble_eq_true rfl)) d_LT_lookup_21 ⟨Nat.le_of_ble_eq_true rfl, Nat.le_of_ble_eq_true rfl⟩) hH (fun H locs hH => ?_)
    refine lv_istore_n (lv' := [(3, .int v20), (2, .ref (lo + f12)), (0, .ref (lo + x0)), (1, .int x1)]) hx hb d_LT_lookup_24 rfl hl (by decide) rfl (fun ls hl => ?_)
    refine lv_iconst (v := 0) hx hb d_LT_lookup_25 (by decide) ?_
    refine lv_istore (lv' := [(4, .int (0 : Int32)), (3, .int v20), (2, .ref (lo + f12)), (0, .ref (lo + x0)), (1, .int x1)]) hx hb d_LT_lookup_26 hl (by decide) rfl (fun ls hl => ?_)
    exact bk_LT_lookup_28 X F x0 f12 v20 (0 : Int32) w18 hsh H locs ls hH (lv_sub hl [3, 2, 1, 0] rfl)
  · have hsh := im_it hsh cc
    refine lv_iconst (v := -1) hx hb d_LT_lookup_8 (by decide) ?_
    obtain rfl := Option.some.inj hsh
    exact im_iret hx hb hr hlk hH d_LT_lookup_9
theorem wd_187 : (Jvm.Cond.fieldLink "LanguageTags" (82 : Nat) "LanguageTags" "otherCore" "LLanguageTags$Core;") ∈ im_T := im_memT (i := 187) (by decide +kernel) (by decide +kernel)
theorem wd_589 : (Jvm.Cond.methodLink "LanguageTags" (256 : Nat) ({ cls := "LanguageTags$Core", name := "apartFrom", desc := "(LLanguageTags$Core;)I" } : Jvm.MethodName)) ∈ im_T := im_memT (i := 589) (by decide +kernel) (by decide +kernel)
theorem wd_590 : (Jvm.Cond.instanceMethod ({ cls := "LanguageTags$Core", name := "apartFrom", desc := "(LLanguageTags$Core;)I" } : Jvm.MethodName)) ∈ im_T := im_memT (i := 590) (by decide +kernel) (by decide +kernel)
theorem wd_591 : (Jvm.Cond.selects "LanguageTags$Core" ({ cls := "LanguageTags$Core", name := "apartFrom", desc := "(LLanguageTags$Core;)I" } : Jvm.MethodName) ({ cls := "LanguageTags$Core", name := "apartFrom", desc := "(LLanguageTags$Core;)I" } : Jvm.MethodName)) ∈ im_T := im_memT (i := 591) (by decide +kernel) (by decide +kernel)
theorem wd_592 : (Jvm.Cond.code ({ cls := "LanguageTags$Core", name := "apartFrom", desc := "(LLanguageTags$Core;)I" } : Jvm.MethodName) prog_3_method_11_code (3 : Nat) (Option.some Jvm.ClassFile.FieldType.int)) ∈ im_T := im_memT (i := 592) (by decide +kernel) (by decide +kernel)
theorem d_LT_distanceOf_0 : decode c_LT_distanceOf 0 = .ok (.aload_n 0, 1) := by decide +kernel
theorem d_LT_distanceOf_1 : decode c_LT_distanceOf 1 = .ok (.getfield 50, 3) := by decide +kernel
theorem d_LT_distanceOf_4 : decode c_LT_distanceOf 4 = .ok (.aload_n 0, 1) := by decide +kernel
theorem d_LT_distanceOf_5 : decode c_LT_distanceOf 5 = .ok (.getfield 56, 3) := by decide +kernel
theorem d_LT_distanceOf_8 : decode c_LT_distanceOf 8 = .ok (.iload_n 1, 1) := by decide +kernel
theorem d_LT_distanceOf_9 : decode c_LT_distanceOf 9 = .ok (.aaload, 1) := by decide +kernel
theorem d_LT_distanceOf_10 : decode c_LT_distanceOf 10 = .ok (.getfield 165, 3) := by decide +kernel
theorem d_LT_distanceOf_13 : decode c_LT_distanceOf 13 = .ok (.getfield 180, 3) := by decide +kernel
theorem d_LT_distanceOf_16 : decode c_LT_distanceOf 16 = .ok (.aload_n 0, 1) := by decide +kernel
theorem d_LT_distanceOf_17 : decode c_LT_distanceOf 17 = .ok (.getfield 78, 3) := by decide +kernel
theorem d_LT_distanceOf_20 : decode c_LT_distanceOf 20 = .ok (.invokevirtual 207, 3) := by decide +kernel
theorem d_LT_distanceOf_23 : decode c_LT_distanceOf 23 = .ok (.aload_n 0, 1) := by decide +kernel
theorem d_LT_distanceOf_24 : decode c_LT_distanceOf 24 = .ok (.getfield 50, 3) := by decide +kernel
theorem d_LT_distanceOf_27 : decode c_LT_distanceOf 27 = .ok (.aload_n 0, 1) := by decide +kernel
theorem d_LT_distanceOf_28 : decode c_LT_distanceOf 28 = .ok (.getfield 56, 3) := by decide +kernel
theorem d_LT_distanceOf_31 : decode c_LT_distanceOf 31 = .ok (.iload_n 2, 1) := by decide +kernel
theorem d_LT_distanceOf_32 : decode c_LT_distanceOf 32 = .ok (.aaload, 1) := by decide +kernel
theorem d_LT_distanceOf_33 : decode c_LT_distanceOf 33 = .ok (.getfield 165, 3) := by decide +kernel
theorem d_LT_distanceOf_36 : decode c_LT_distanceOf 36 = .ok (.getfield 180, 3) := by decide +kernel
theorem d_LT_distanceOf_39 : decode c_LT_distanceOf 39 = .ok (.aload_n 0, 1) := by decide +kernel
theorem d_LT_distanceOf_40 : decode c_LT_distanceOf 40 = .ok (.getfield 82, 3) := by decide +kernel
theorem d_LT_distanceOf_43 : decode c_LT_distanceOf 43 = .ok (.invokevirtual 207, 3) := by decide +kernel
theorem d_LT_distanceOf_46 : decode c_LT_distanceOf 46 = .ok (.aload_n 0, 1) := by decide +kernel
theorem d_LT_distanceOf_47 : decode c_LT_distanceOf 47 = .ok (.getfield 78, 3) := by decide +kernel
theorem d_LT_distanceOf_50 : decode c_LT_distanceOf 50 = .ok (.aload_n 0, 1) := by decide +kernel
theorem d_LT_distanceOf_51 : decode c_LT_distanceOf 51 = .ok (.getfield 82, 3) := by decide +kernel
theorem d_LT_distanceOf_54 : decode c_LT_distanceOf 54 = .ok (.invokevirtual 256, 3) := by decide +kernel
theorem d_LT_distanceOf_57 : decode c_LT_distanceOf 57 = .ok (.ireturn, 1) := by decide +kernel
def sh_LT_distanceOf (F : Nat) (x0 : Nat) (x1 : Int32) (x2 : Int32) (w : im_W) : Option (Int32 × im_W) :=
  (im_gR w 8 x0 6).bind fun f1 => (im_gR w 8 x0 7).bind fun f3 => (im_lR w 4 f3 x1).bind fun e5 => (im_gR w 6 e5 0).bind fun f7 => (im_gR w 2 f7 0).bind fun f9 => (im_gR w 8 x0 11).bind fun f11 => (im_is w 3 f1).bind fun u13 => (sh_Likely_maximise F f1 f9 f11 w).bind fun w17 => (im_gR w17 8 x0 6).bind fun f19 => (im_gR w17 8 x0 7).bind fun f21 => (im_lR w17 4 f21 x2).bind fun e23 => (im_gR w17 6 e23 0).bind fun f25 => (im_gR w17 2 f25 0).bind fun f27 => (im_gR w17 8 x0 12).bind fun f29 => (im_is w17 3 f19).bind fun u31 => (sh_Likely_maximise F f19 f27 f29 w17).bind fun w35 => (im_gR w35 8 x0 11).bind fun f37 => (im_gR w35 8 x0 12).bind fun f39 => (im_is w35 1 f37).bind fun u41 => im_b2 (sh_Core_apartFrom F f37 f39 w35) fun v47 w45 => some (v47, w45)
set_option maxHeartbeats 4000000 in
set_option maxRecDepth 100000 in
theorem met_LT_distanceOf {F : Nat} {x0 : Nat} {x1 : Int32} {x2 : Int32} {w : im_W} {r : Int32 × im_W} (hsh : sh_LT_distanceOf F x0 x1 x2 w = some r) : Met l y_LT_distanceOf (Cond.code y_LT_distanceOf c_LT_distanceOf 3 (some .int) :: im_T) (im_rm 4 98) (im_Pre D vwCl tA lo im_NW [.ref (lo + x0), .int x1, .int x2] w) (im_Post D vwCl tA lo (some (.int r.1)) r.2) 0 0 (fun q => lo ≤ q) := by
  refine im_ofW (cc := c_LT_distanceOf) (nL := 3) (ret := (some .int)) (by decide) (Nat.le_of_ble_eq_true rfl) ?_
  intro p e s m args below meth c X H locs ls hH hl
  obtain ⟨hx, hb, hr, hts, hown, hlk, hml, hK, hN⟩ := id X
  have hl : lv_has ls 3 [(0, .ref (lo + x0)), (1, .int x1), (2, .int x2)] := hl
  unfold sh_LT_distanceOf at hsh
  refine lv_aload_n hx hb d_LT_distanceOf_0 rfl (lv_at hl 0 rfl) ?_
  obtain ⟨f1, h2, hsh⟩ := im_bd hsh
  refine im_getR hx hb hts inC_LT hown hK hH (ci := 8) rfl 6 (by decide) (hts _ wd_181) rfl h2 d_LT_distanceOf_1 ?_
  refine lv_aload_n hx hb d_LT_distanceOf_4 rfl (lv_at hl 0 rfl) ?_
  obtain ⟨f3, h4, hsh⟩ := im_bd hsh
  refine im_getR hx hb hts inC_LT hown hK hH (ci := 8) rfl 7 (by decide) (hts _ wd_182) rfl h4 d_LT_distanceOf_5 ?_
  refine lv_iload_n hx hb d_LT_distanceOf_8 rfl (lv_at hl 1 rfl) ?_
  obtain ⟨e5, h6, hsh⟩ := im_bd hsh
  refine im_aald4 hx hb hK hH h6 d_LT_distanceOf_9 ?_
  obtain ⟨f7, h8, hsh⟩ := im_bd hsh
  refine im_getNR hx hb hts inC_Tag hown hK hH (ci := 6) rfl 0 (by decide) (hN _ nw_157) rfl h8 d_LT_distanceOf_10 ?_
  obtain ⟨f9, h10, hsh⟩ := im_bd hsh
  refine im_getNR hx hb hts inC_Form hown hK hH (ci := 2) rfl 0 (by decide) (hN _ nw_106) rfl h10 d_LT_distanceOf_13 ?_
  refine lv_aload_n hx hb d_LT_distanceOf_16 rfl (lv_at hl 0 rfl) ?_
  obtain ⟨f11, h12, hsh⟩ := im_bd hsh
  refine im_getR hx hb hts inC_LT hown hK hH (ci := 8) rfl 11 (by decide) (hts _ wd_186) rfl h12 d_LT_distanceOf_17 ?_
  obtain ⟨u13, h14, hsh⟩ := im_bd hsh
  obtain ⟨g15, h16⟩ := im_is_s h14
  obtain ⟨w17, h18, hsh⟩ := im_bd hsh
  refine im_afterV (va_runV (As := [.ref (lo + f9), .ref (lo + f11)]) (rest := []) (C := RC_Likely) ⟨hx, hb, hml, hown, hts⟩ (met_Likely_maximise h18) ⟨(callB_of 2 hts (im_good wd_509) rfl rfl rfl (hts _ wd_8) (hts _ wd_506) (by decide +kernel) ⟨Nat.le_of_ble_eq_true rfl, Nat.le_of_ble_eq_true rfl⟩), hts _ wd_507, hts _ wd_508⟩ (im_preV im_NW_ok hK hN hH (ci := 3) rfl rfl h16 _) rfl rfl hl.1 rfl (lv_room (Nat.le_of_ble_eq_true rfl)) d_LT_distanceOf_20 ⟨Nat.le_of_ble_eq_true rfl, Nat.le_of_ble_eq_true rfl⟩) hH (fun H locs hH => ?_)
  refine lv_aload_n hx hb d_LT_distanceOf_23 rfl (lv_at hl 0 rfl) ?_
  obtain ⟨f19, h20, hsh⟩ := im_bd hsh
  refine im_getR hx hb hts inC_LT hown hK hH (ci := 8) rfl 6 (by decide) (hts _ wd_181) rfl h20 d_LT_distanceOf_24 ?_
  refine lv_aload_n hx hb d_LT_distanceOf_27 rfl (lv_at hl 0 rfl) ?_
  obtain ⟨f21, h22, hsh⟩ := im_bd hsh
  refine im_getR hx hb hts inC_LT hown hK hH (ci := 8) rfl 7 (by decide) (hts _ wd_182) rfl h22 d_LT_distanceOf_28 ?_
  refine lv_iload_n hx hb d_LT_distanceOf_31 rfl (lv_at hl 2 rfl) ?_
  obtain ⟨e23, h24, hsh⟩ := im_bd hsh
  refine im_aald4 hx hb hK hH h24 d_LT_distanceOf_32 ?_
  obtain ⟨f25, h26, hsh⟩ := im_bd hsh
  refine im_getNR hx hb hts inC_Tag hown hK hH (ci := 6) rfl 0 (by decide) (hN _ nw_157) rfl h26 d_LT_distanceOf_33 ?_
  obtain ⟨f27, h28, hsh⟩ := im_bd hsh
  refine im_getNR hx hb hts inC_Form hown hK hH (ci := 2) rfl 0 (by decide) (hN _ nw_106) rfl h28 d_LT_distanceOf_36 ?_
  refine lv_aload_n hx hb d_LT_distanceOf_39 rfl (lv_at hl 0 rfl) ?_
  obtain ⟨f29, h30, hsh⟩ := im_bd hsh
  refine im_getR hx hb hts inC_LT hown hK hH (ci := 8) rfl 12 (by decide) (hts _ wd_187) rfl h30 d_LT_distanceOf_40 ?_
  obtain ⟨u31, h32, hsh⟩ := im_bd hsh
  obtain ⟨g33, h34⟩ := im_is_s h32
  obtain ⟨w35, h36, hsh⟩ := im_bd hsh
  refine im_afterV (va_runV (As := [.ref (lo + f27), .ref (lo + f29)]) (rest := []) (C := RC_Likely) ⟨hx, hb, hml, hown, hts⟩ (met_Likely_maximise h36) ⟨(callB_of 2 hts (im_good wd_509) rfl rfl rfl (hts _ wd_8) (hts _ wd_506) (by decide +kernel) ⟨Nat.le_of_ble_eq_true rfl, Nat.le_of_ble_eq_true rfl⟩), hts _ wd_507, hts _ wd_508⟩ (im_preV im_NW_ok hK hN hH (ci := 3) rfl rfl h34 _) rfl rfl hl.1 rfl (lv_room (Nat.le_of_ble_eq_true rfl)) d_LT_distanceOf_43 ⟨Nat.le_of_ble_eq_true rfl, Nat.le_of_ble_eq_true rfl⟩) hH (fun H locs hH => ?_)
  refine lv_aload_n hx hb d_LT_distanceOf_46 rfl (lv_at hl 0 rfl) ?_
  obtain ⟨f37, h38, hsh⟩ := im_bd hsh
  refine im_getR hx hb hts inC_LT hown hK hH (ci := 8) rfl 11 (by decide) (hts _ wd_186) rfl h38 d_LT_distanceOf_47 ?_
  refine lv_aload_n hx hb d_LT_distanceOf_50 rfl (lv_at hl 0 rfl) ?_
  obtain ⟨f39, h40, hsh⟩ := im_bd hsh
  refine im_getR hx hb hts inC_LT hown hK hH (ci := 8) rfl 12 (by decide) (hts _ wd_187) rfl h40 d_LT_distanceOf_51 ?_
  obtain ⟨u41, h42, hsh⟩ := im_bd hsh
  obtain ⟨g43, h44⟩ := im_is_s h42
  obtain ⟨v47, w45, h46, hsh⟩ := im_bd2 hsh
  refine im_afterI (va_runV (As := [.ref (lo + f39)]) (rest := []) (C := RC_Core) ⟨hx, hb, hml, hown, hts⟩ (met_Core_apartFrom h46) ⟨(callB_of 1 hts (im_good wd_592) rfl rfl rfl (hts _ wd_7) (hts _ wd_589) (by decide +kernel) ⟨Nat.le_of_ble_eq_true rfl, Nat.le_of_ble_eq_true rfl⟩), hts _ wd_590, hts _ wd_591⟩ (im_preV im_NW_ok hK hN hH (ci := 1) rfl rfl h44 _) rfl rfl hl.1 rfl (lv_room (Nat.le_of_ble_eq_true rfl)) d_LT_distanceOf_54 ⟨Nat.le_of_ble_eq_true rfl, Nat.le_of_ble_eq_true rfl⟩) hH (fun H locs hH => ?_)
  obtain rfl := Option.some.inj hsh
  exact im_iret hx hb hr hlk hH d_LT_distanceOf_57
theorem wd_585 : (Jvm.Cond.methodLink "LanguageTags" (229 : Nat) ({ cls := "LanguageTags", name := "distanceOf", desc := "(II)I" } : Jvm.MethodName)) ∈ im_T := im_memT (i := 585) (by decide +kernel) (by decide +kernel)
theorem wd_587 : (Jvm.Cond.instanceMethod ({ cls := "LanguageTags", name := "distanceOf", desc := "(II)I" } : Jvm.MethodName)) ∈ im_T := im_memT (i := 587) (by decide +kernel) (by decide +kernel)
theorem wd_588 : (Jvm.Cond.code ({ cls := "LanguageTags", name := "distanceOf", desc := "(II)I" } : Jvm.MethodName) prog_1_method_24_code (3 : Nat) (Option.some Jvm.ClassFile.FieldType.int)) ∈ im_T := im_memT (i := 588) (by decide +kernel) (by decide +kernel)
theorem d_LT_distance_0 : decode c_LT_distance 0 = .ok (.aload_n 0, 1) := by decide +kernel
theorem d_LT_distance_1 : decode c_LT_distance 1 = .ok (.iload_n 1, 1) := by decide +kernel
theorem d_LT_distance_2 : decode c_LT_distance 2 = .ok (.invokevirtual 198, 3) := by decide +kernel
theorem d_LT_distance_5 : decode c_LT_distance 5 = .ok (.ifCond .eq (20), 3) := by decide +kernel
theorem d_LT_distance_8 : decode c_LT_distance 8 = .ok (.aload_n 0, 1) := by decide +kernel
theorem d_LT_distance_9 : decode c_LT_distance 9 = .ok (.iload_n 2, 1) := by decide +kernel
theorem d_LT_distance_10 : decode c_LT_distance 10 = .ok (.invokevirtual 198, 3) := by decide +kernel
theorem d_LT_distance_13 : decode c_LT_distance 13 = .ok (.ifCond .eq (12), 3) := by decide +kernel
theorem d_LT_distance_16 : decode c_LT_distance 16 = .ok (.aload_n 0, 1) := by decide +kernel
theorem d_LT_distance_17 : decode c_LT_distance 17 = .ok (.iload_n 1, 1) := by decide +kernel
theorem d_LT_distance_18 : decode c_LT_distance 18 = .ok (.iload_n 2, 1) := by decide +kernel
theorem d_LT_distance_19 : decode c_LT_distance 19 = .ok (.invokevirtual 229, 3) := by decide +kernel
theorem d_LT_distance_22 : decode c_LT_distance 22 = .ok (.goto (4), 3) := by decide +kernel
theorem d_LT_distance_25 : decode c_LT_distance 25 = .ok (.iconst (-1), 1) := by decide +kernel
theorem d_LT_distance_26 : decode c_LT_distance 26 = .ok (.ireturn, 1) := by decide +kernel
def sh_LT_distance_26 (F : Nat) (y0 : Int32) (w : im_W) : Option (Int32 × im_W) :=
  some (y0, w)
set_option maxHeartbeats 4000000 in
set_option maxRecDepth 100000 in
theorem bk_LT_distance_26 {F : Nat} {r : Int32 × im_W} (X : im_X D vwCl tA lo im_NW c_LT_distance 3 (some .int) RC_LT im_T p s m args meth c) (y0 : Int32) (w : im_W) (hsh : sh_LT_distance_26 F y0 w = some r) : im_WW D vwCl tA lo 3 p l e (im_rm 5 120) s m args below meth c 0 0 (MQ below (im_Post D vwCl tA lo (some (.int r.1)) r.2) args s 0 0 (fun q => lo ≤ q)) 26 [] [.int y0] w := by
  obtain ⟨hx, hb, hr, hts, hown, hlk, hml, hK, hN⟩ := id X
  intro H locs ls hH hl
  unfold sh_LT_distance_26 at hsh
  obtain rfl := Option.some.inj hsh
  exact im_iret hx hb hr hlk hH d_LT_distance_26
def sh_LT_distance_25 (F : Nat)  (w : im_W) : Option (Int32 × im_W) :=
  sh_LT_distance_26 F (-1 : Int32) w
set_option maxHeartbeats 4000000 in
set_option maxRecDepth 100000 in
theorem bk_LT_distance_25 {F : Nat} {r : Int32 × im_W} (X : im_X D vwCl tA lo im_NW c_LT_distance 3 (some .int) RC_LT im_T p s m args meth c)  (w : im_W) (hsh : sh_LT_distance_25 F w = some r) : im_WW D vwCl tA lo 3 p l e (im_rm 5 120) s m args below meth c 0 0 (MQ below (im_Post D vwCl tA lo (some (.int r.1)) r.2) args s 0 0 (fun q => lo ≤ q)) 25 [] [] w := by
  obtain ⟨hx, hb, hr, hts, hown, hlk, hml, hK, hN⟩ := id X
  intro H locs ls hH hl
  unfold sh_LT_distance_25 at hsh
  refine lv_iconst (v := -1) hx hb d_LT_distance_25 (by decide) ?_
  exact bk_LT_distance_26 X (-1 : Int32) w hsh H locs ls hH (lv_sub hl [] rfl)
def sh_LT_distance (F : Nat) (x0 : Nat) (x1 : Int32) (x2 : Int32) (w : im_W) : Option (Int32 × im_W) :=
  (im_is w 8 x0).bind fun u1 => im_b2 (sh_LT_isTag F x0 x1 w) fun v7 w5 => (if v7 = 0 then sh_LT_distance_25 F w5 else (im_is w5 8 x0).bind fun u8 => im_b2 (sh_LT_isTag F x0 x2 w5) fun v14 w12 => (if v14 = 0 then sh_LT_distance_25 F w12 else (im_is w12 8 x0).bind fun u15 => im_b2 (sh_LT_distanceOf F x0 x1 x2 w12) fun v21 w19 => sh_LT_distance_26 F v21 w19))
set_option maxHeartbeats 4000000 in
set_option maxRecDepth 100000 in
theorem met_LT_distance {F : Nat} {x0 : Nat} {x1 : Int32} {x2 : Int32} {w : im_W} {r : Int32 × im_W} (hsh : sh_LT_distance F x0 x1 x2 w = some r) : Met l y_LT_distance (Cond.code y_LT_distance c_LT_distance 3 (some .int) :: im_T) (im_rm 5 120) (im_Pre D vwCl tA lo im_NW [.ref (lo + x0), .int x1, .int x2] w) (im_Post D vwCl tA lo (some (.int r.1)) r.2) 0 0 (fun q => lo ≤ q) := by
  refine im_ofW (cc := c_LT_distance) (nL := 3) (ret := (some .int)) (by decide) (Nat.le_of_ble_eq_true rfl) ?_
  intro p e s m args below meth c X H locs ls hH hl
  obtain ⟨hx, hb, hr, hts, hown, hlk, hml, hK, hN⟩ := id X
  have hl : lv_has ls 3 [(0, .ref (lo + x0)), (1, .int x1), (2, .int x2)] := hl
  unfold sh_LT_distance at hsh
  refine lv_aload_n hx hb d_LT_distance_0 rfl (lv_at hl 0 rfl) ?_
  refine lv_iload_n hx hb d_LT_distance_1 rfl (lv_at hl 1 rfl) ?_
  obtain ⟨u1, h2, hsh⟩ := im_bd hsh
  obtain ⟨g3, h4⟩ := im_is_s h2
  obtain ⟨v7, w5, h6, hsh⟩ := im_bd2 hsh
  refine im_afterI (va_runV (As := [.int x1]) (rest := []) (C := RC_LT) ⟨hx, hb, hml, hown, hts⟩ (met_LT_isTag h6) ⟨(callB_of 1 hts (im_good wd_489) rfl rfl rfl (hts _ wd_1) (hts _ wd_486) (by decide +kernel) ⟨Nat.le_of_ble_eq_true rfl, Nat.le_of_ble_eq_true rfl⟩), hts _ wd_488, hts _ sl_LT_isTag⟩ (im_preV im_NW_ok hK hN hH (ci := 8) rfl rfl h4 _) rfl rfl hl.1 rfl (lv_room (Nat.le_of_ble_eq_true rfl)) d_LT_distance_2 ⟨Nat.le_of_ble_eq_true rfl, Nat.le_of_ble_eq_true rfl⟩) hH (fun H locs hH => ?_)
  refine lv_if_eq (tgt := 25) hx hb d_LT_distance_5 (by decide) (fun cc => ?_) (fun cc => ?_)
  · have hsh := im_it hsh cc
    exact bk_LT_distance_25 X w5 hsh H locs ls hH (lv_sub hl [] rfl)
  · have hsh := im_if hsh cc
    refine lv_aload_n hx hb d_LT_distance_8 rfl (lv_at hl 0 rfl) ?_
    refine lv_iload_n hx hb d_LT_distance_9 rfl (lv_at hl 2 rfl) ?_
    obtain ⟨u8, h9, hsh⟩ := im_bd hsh
    obtain ⟨g10, h11⟩ := im_is_s h9
    obtain ⟨v14, w12, h13, hsh⟩ := im_bd2 hsh
    refine im_afterI (va_runV (As := [.int x2]) (rest := []) (C := RC_LT) ⟨hx, hb, hml, hown, hts⟩ (met_LT_isTag h13) ⟨(callB_of 1 hts (im_good wd_489) rfl rfl rfl (hts _ wd_1) (hts _ wd_486) (by decide +kernel) ⟨Nat.le_of_ble_eq_true rfl, Nat.le_of_ble_eq_true rfl⟩), hts _ wd_488, hts _ sl_LT_isTag⟩ (im_preV im_NW_ok hK hN hH (ci := 8) rfl rfl h11 _) rfl rfl hl.1 rfl (lv_room (Nat.le_of_ble_eq_true rfl)) d_LT_distance_10 ⟨Nat.le_of_ble_eq_true rfl, Nat.le_of_ble_eq_true rfl⟩) hH (fun H locs hH => ?_)
    refine lv_if_eq (tgt := 25) hx hb d_LT_distance_13 (by decide) (fun cc => ?_) (fun cc => ?_)
    · have hsh := im_it hsh cc
      exact bk_LT_distance_25 X w12 hsh H locs ls hH (lv_sub hl [] rfl)
    · have hsh := im_if hsh cc
      refine lv_aload_n hx hb d_LT_distance_16 rfl (lv_at hl 0 rfl) ?_
      refine lv_iload_n hx hb d_LT_distance_17 rfl (lv_at hl 1 rfl) ?_
      refine lv_iload_n hx hb d_LT_distance_18 rfl (lv_at hl 2 rfl) ?_
      obtain ⟨u15, h16, hsh⟩ := im_bd hsh
      obtain ⟨g17, h18⟩ := im_is_s h16
      obtain ⟨v21, w19, h20, hsh⟩ := im_bd2 hsh
      refine im_afterI (va_runV (As := [.int x1, .int x2]) (rest := []) (C := RC_LT) ⟨hx, hb, hml, hown, hts⟩ (met_LT_distanceOf h20) ⟨(callB_of 2 hts (im_good wd_588) rfl rfl rfl (hts _ wd_1) (hts _ wd_585) (by decide +kernel) ⟨Nat.le_of_ble_eq_true rfl, Nat.le_of_ble_eq_true rfl⟩), hts _ wd_587, hts _ sl_LT_distanceOf⟩ (im_preV im_NW_ok hK hN hH (ci := 8) rfl rfl h18 _) rfl rfl hl.1 rfl (lv_room (Nat.le_of_ble_eq_true rfl)) d_LT_distance_19 ⟨Nat.le_of_ble_eq_true rfl, Nat.le_of_ble_eq_true rfl⟩) hH (fun H locs hH => ?_)
      refine lv_goto (tgt := 26) hx hb d_LT_distance_22 (by decide) ?_
      exact bk_LT_distance_26 X v21 w19 hsh H locs ls hH (lv_sub hl [] rfl)
theorem d_LT_best_0 : decode c_LT_best 0 = .ok (.aload_n 0, 1) := by decide +kernel
theorem d_LT_best_1 : decode c_LT_best 1 = .ok (.iload_n 1, 1) := by decide +kernel
theorem d_LT_best_2 : decode c_LT_best 2 = .ok (.invokevirtual 198, 3) := by decide +kernel
theorem d_LT_best_5 : decode c_LT_best 5 = .ok (.ifCond .ne (5), 3) := by decide +kernel
theorem d_LT_best_8 : decode c_LT_best 8 = .ok (.iconst (-1), 1) := by decide +kernel
theorem d_LT_best_9 : decode c_LT_best 9 = .ok (.ireturn, 1) := by decide +kernel
theorem d_LT_best_10 : decode c_LT_best 10 = .ok (.iconst (-1), 1) := by decide +kernel
theorem d_LT_best_11 : decode c_LT_best 11 = .ok (.istore_n 2, 1) := by decide +kernel
theorem d_LT_best_12 : decode c_LT_best 12 = .ok (.bipush (50), 2) := by decide +kernel
theorem d_LT_best_14 : decode c_LT_best 14 = .ok (.istore_n 3, 1) := by decide +kernel
theorem d_LT_best_15 : decode c_LT_best 15 = .ok (.iconst 0, 1) := by decide +kernel
theorem d_LT_best_16 : decode c_LT_best 16 = .ok (.istore 4, 2) := by decide +kernel
theorem d_LT_best_18 : decode c_LT_best 18 = .ok (.iload 4, 2) := by decide +kernel
theorem d_LT_best_20 : decode c_LT_best 20 = .ok (.aload_n 0, 1) := by decide +kernel
theorem d_LT_best_21 : decode c_LT_best 21 = .ok (.getfield 89, 3) := by decide +kernel
theorem d_LT_best_24 : decode c_LT_best 24 = .ok (.if_icmp .ge (40), 3) := by decide +kernel
theorem d_LT_best_27 : decode c_LT_best 27 = .ok (.aload_n 0, 1) := by decide +kernel
theorem d_LT_best_28 : decode c_LT_best 28 = .ok (.aload_n 0, 1) := by decide +kernel
theorem d_LT_best_29 : decode c_LT_best 29 = .ok (.getfield 61, 3) := by decide +kernel
theorem d_LT_best_32 : decode c_LT_best 32 = .ok (.iload 4, 2) := by decide +kernel
theorem d_LT_best_34 : decode c_LT_best 34 = .ok (.iaload, 1) := by decide +kernel
theorem d_LT_best_35 : decode c_LT_best 35 = .ok (.iload_n 1, 1) := by decide +kernel
theorem d_LT_best_36 : decode c_LT_best 36 = .ok (.invokevirtual 229, 3) := by decide +kernel
theorem d_LT_best_39 : decode c_LT_best 39 = .ok (.istore 5, 2) := by decide +kernel
theorem d_LT_best_41 : decode c_LT_best 41 = .ok (.iload 5, 2) := by decide +kernel
theorem d_LT_best_43 : decode c_LT_best 43 = .ok (.iload_n 3, 1) := by decide +kernel
theorem d_LT_best_44 : decode c_LT_best 44 = .ok (.if_icmp .ge (14), 3) := by decide +kernel
theorem d_LT_best_47 : decode c_LT_best 47 = .ok (.iload 5, 2) := by decide +kernel
theorem d_LT_best_49 : decode c_LT_best 49 = .ok (.istore_n 3, 1) := by decide +kernel
theorem d_LT_best_50 : decode c_LT_best 50 = .ok (.aload_n 0, 1) := by decide +kernel
theorem d_LT_best_51 : decode c_LT_best 51 = .ok (.getfield 61, 3) := by decide +kernel
theorem d_LT_best_54 : decode c_LT_best 54 = .ok (.iload 4, 2) := by decide +kernel
theorem d_LT_best_56 : decode c_LT_best 56 = .ok (.iaload, 1) := by decide +kernel
theorem d_LT_best_57 : decode c_LT_best 57 = .ok (.istore_n 2, 1) := by decide +kernel
theorem d_LT_best_58 : decode c_LT_best 58 = .ok (.iinc 4 (1), 3) := by decide +kernel
theorem d_LT_best_61 : decode c_LT_best 61 = .ok (.goto (-43), 3) := by decide +kernel
theorem d_LT_best_64 : decode c_LT_best 64 = .ok (.iload_n 2, 1) := by decide +kernel
theorem d_LT_best_65 : decode c_LT_best 65 = .ok (.ireturn, 1) := by decide +kernel
def sh_LT_best_58 (F : Nat) (k18 : Nat → Int32 → Int32 → Int32 → Int32 → im_W → Option (Int32 × im_W)) (x0 : Nat) (x1 : Int32) (x2 : Int32) (x3 : Int32) (x4 : Int32) (w : im_W) : Option (Int32 × im_W) :=
  k18 x0 x1 x2 x3 (x4 + (1 : Int32)) w
set_option maxHeartbeats 4000000 in
set_option maxRecDepth 100000 in
theorem bk_LT_best_58 {F : Nat} {r : Int32 × im_W} (X : im_X D vwCl tA lo im_NW c_LT_best 6 (some .int) RC_LT im_T p s m args meth c) {k18 : Nat → Int32 → Int32 → Int32 → Int32 → im_W → Option (Int32 × im_W)} (hk18 : ∀ (x0 : Nat) (x1 : Int32) (x2 : Int32) (x3 : Int32) (x4 : Int32) (w : im_W), k18 x0 x1 x2 x3 x4 w = some r → im_WW D vwCl tA lo 6 p l e (im_rm 5 120) s m args below meth c 0 0 (MQ below (im_Post D vwCl tA lo (some (.int r.1)) r.2) args s 0 0 (fun q => lo ≤ q)) 18 [(0, .ref (lo + x0)), (1, .int x1), (2, .int x2), (3, .int x3), (4, .int x4)] [] w) (x0 : Nat) (x1 : Int32) (x2 : Int32) (x3 : Int32) (x4 : Int32) (w : im_W) (hsh : sh_LT_best_58 F k18 x0 x1 x2 x3 x4 w = some r) : im_WW D vwCl tA lo 6 p l e (im_rm 5 120) s m args below meth c 0 0 (MQ below (im_Post D vwCl tA lo (some (.int r.1)) r.2) args s 0 0 (fun q => lo ≤ q)) 58 [(0, .ref (lo + x0)), (1, .int x1), (2, .int x2), (3, .int x3), (4, .int x4)] [] w := by
  obtain ⟨hx, hb, hr, hts, hown, hlk, hml, hK, hN⟩ := id X
  intro H locs ls hH hl
  unfold sh_LT_best_58 at hsh
  refine lv_iinc (v := (x4 + (1 : Int32))) (lv' := [(4, .int (x4 + (1 : Int32))), (0, .ref (lo + x0)), (1, .int x1), (2, .int x2), (3, .int x3)]) hx hb d_LT_best_58 hl (k := 4) rfl rfl (by decide) rfl (fun ls hl => ?_)
  refine lv_goto (tgt := 18) hx hb d_LT_best_61 (by decide) ?_
  exact hk18 x0 x1 x2 x3 (x4 + (1 : Int32)) w hsh H locs ls hH (lv_sub hl [1, 2, 3, 4, 0] rfl)
def sh_LT_best_18 (F : Nat) : Nat → Nat → Int32 → Int32 → Int32 → Int32 → im_W → Option (Int32 × im_W)
  | 0, _, _, _, _, _, _ => none
  | f + 1, x0, x1, x2, x3, x4, w => (im_gI w 8 x0 14).bind fun f1 => (if f1 ≤ x4 then some (x2, w) else (im_gR w 8 x0 8).bind fun f3 => (im_lI w 0 f3 x4).bind fun e5 => (im_is w 8 x0).bind fun u7 => im_b2 (sh_LT_distanceOf F x0 e5 x1 w) fun v13 w11 => (if x3 ≤ v13 then sh_LT_best_58 F (sh_LT_best_18 F f) x0 x1 x2 x3 x4 w11 else (im_gR w11 8 x0 8).bind fun f14 => (im_lI w11 0 f14 x4).bind fun e16 => sh_LT_best_58 F (sh_LT_best_18 F f) x0 x1 e16 v13 x4 w11))
set_option maxHeartbeats 4000000 in
set_option maxRecDepth 100000 in
theorem bk_LT_best_18 {F : Nat} {r : Int32 × im_W} (X : im_X D vwCl tA lo im_NW c_LT_best 6 (some .int) RC_LT im_T p s m args meth c) : ∀ (f : Nat) (x0 : Nat) (x1 : Int32) (x2 : Int32) (x3 : Int32) (x4 : Int32) (w : im_W), sh_LT_best_18 F f x0 x1 x2 x3 x4 w = some r → im_WW D vwCl tA lo 6 p l e (im_rm 5 120) s m args below meth c 0 0 (MQ below (im_Post D vwCl tA lo (some (.int r.1)) r.2) args s 0 0 (fun q => lo ≤ q)) 18 [(0, .ref (lo + x0)), (1, .int x1), (2, .int x2), (3, .int x3), (4, .int x4)] [] w := by
  obtain ⟨hx, hb, hr, hts, hown, hlk, hml, hK, hN⟩ := id X
  intro f
  induction f with
  | zero =>
    intro x0 x1 x2 x3 x4 w hsh
    cases hsh
  | succ f ih =>
    intro x0 x1 x2 x3 x4 w hsh H locs ls hH hl
    unfold sh_LT_best_18 at hsh
    refine lv_iload hx hb d_LT_best_18 (lv_at hl 4 rfl) ?_
    refine lv_aload_n hx hb d_LT_best_20 rfl (lv_at hl 0 rfl) ?_
    obtain ⟨f1, h2, hsh⟩ := im_bd hsh
    refine im_getI hx hb hts inC_LT hown hK hH (ci := 8) rfl 14 (by decide) (hts _ wd_189) rfl h2 d_LT_best_21 ?_
    refine lv_icmp_ge (tgt := 64) hx hb d_LT_best_24 (by decide) (fun cc => ?_) (fun cc => ?_)
    · have hsh := im_it hsh cc
      refine lv_iload_n hx hb d_LT_best_64 rfl (lv_at hl 2 rfl) ?_
      obtain rfl := Option.some.inj hsh
      exact im_iret hx hb hr hlk hH d_LT_best_65
    · have hsh := im_if hsh cc
      refine lv_aload_n hx hb d_LT_best_27 rfl (lv_at hl 0 rfl) ?_
      refine lv_aload_n hx hb d_LT_best_28 rfl (lv_at hl 0 rfl) ?_
      obtain ⟨f3, h4, hsh⟩ := im_bd hsh
      refine im_getR hx hb hts inC_LT hown hK hH (ci := 8) rfl 8 (by decide) (hts _ wd_183) rfl h4 d_LT_best_29 ?_
      refine lv_iload hx hb d_LT_best_32 (lv_at hl 4 rfl) ?_
      obtain ⟨e5, h6, hsh⟩ := im_bd hsh
      refine im_iald hx hb hK hH h6 d_LT_best_34 ?_
      refine lv_iload_n hx hb d_LT_best_35 rfl (lv_at hl 1 rfl) ?_
      obtain ⟨u7, h8, hsh⟩ := im_bd hsh
      obtain ⟨g9, h10⟩ := im_is_s h8
      obtain ⟨v13, w11, h12, hsh⟩ := im_bd2 hsh
      refine im_afterI (va_runV (As := [.int e5, .int x1]) (rest := []) (C := RC_LT) ⟨hx, hb, hml, hown, hts⟩ (met_LT_distanceOf h12) ⟨(callB_of 2 hts (im_good wd_588) rfl rfl rfl (hts _ wd_1) (hts _ wd_585) (by decide +kernel) ⟨Nat.le_of_ble_eq_true rfl, Nat.le_of_ble_eq_true rfl⟩), hts _ wd_587, hts _ sl_LT_distanceOf⟩ (im_preV im_NW_ok hK hN hH (ci := 8) rfl rfl h10 _) rfl rfl hl.1 rfl (lv_room (Nat.le_of_ble_eq_true rfl)) d_LT_best_36 ⟨Nat.le_of_ble_eq_true rfl, Nat.le_of_ble_eq_true rfl⟩) hH (fun H locs hH => ?_)
      refine lv_istore (lv' := [(5, .int v13), (0, .ref (lo + x0)), (1, .int x1), (2, .int x2), (3, .int x3), (4, .int x4)]) hx hb d_LT_best_39 hl (by decide) rfl (fun ls hl => ?_)
      refine lv_iload hx hb d_LT_best_41 (lv_at hl 0 rfl) ?_
      refine lv_iload_n hx hb d_LT_best_43 rfl (lv_at hl 4 rfl) ?_
      refine lv_icmp_ge (tgt := 58) hx hb d_LT_best_44 (by decide) (fun cc => ?_) (fun cc => ?_)
      · have hsh := im_it hsh cc
        exact bk_LT_best_58 X ih x0 x1 x2 x3 x4 w11 hsh H locs ls hH (lv_sub hl [1, 2, 3, 4, 5] rfl)
      · have hsh := im_if hsh cc
        refine lv_iload hx hb d_LT_best_47 (lv_at hl 0 rfl) ?_
        refine lv_istore_n (lv' := [(3, .int v13), (5, .int v13), (0, .ref (lo + x0)), (1, .int x1), (2, .int x2), (4, .int x4)]) hx hb d_LT_best_49 rfl hl (by decide) rfl (fun ls hl => ?_)
        refine lv_aload_n hx hb d_LT_best_50 rfl (lv_at hl 2 rfl) ?_
        obtain ⟨f14, h15, hsh⟩ := im_bd hsh
        refine im_getR hx hb hts inC_LT hown hK hH (ci := 8) rfl 8 (by decide) (hts _ wd_183) rfl h15 d_LT_best_51 ?_
        refine lv_iload hx hb d_LT_best_54 (lv_at hl 5 rfl) ?_
        obtain ⟨e16, h17, hsh⟩ := im_bd hsh
        refine im_iald hx hb hK hH h17 d_LT_best_56 ?_
        refine lv_istore_n (lv' := [(2, .int e16), (3, .int v13), (5, .int v13), (0, .ref (lo + x0)), (1, .int x1), (4, .int x4)]) hx hb d_LT_best_57 rfl hl (by decide) rfl (fun ls hl => ?_)
        exact bk_LT_best_58 X ih x0 x1 e16 v13 x4 w11 hsh H locs ls hH (lv_sub hl [3, 4, 0, 1, 5] rfl)
def sh_LT_best (F : Nat) (x0 : Nat) (x1 : Int32) (w : im_W) : Option (Int32 × im_W) :=
  (im_is w 8 x0).bind fun u1 => im_b2 (sh_LT_isTag F x0 x1 w) fun v7 w5 => (if v7 = 0 then some ((-1 : Int32), w5) else sh_LT_best_18 F F x0 x1 (-1 : Int32) (50 : Int32) (0 : Int32) w5)
set_option maxHeartbeats 4000000 in
set_option maxRecDepth 100000 in
theorem met_LT_best {F : Nat} {x0 : Nat} {x1 : Int32} {w : im_W} {r : Int32 × im_W} (hsh : sh_LT_best F x0 x1 w = some r) : Met l y_LT_best (Cond.code y_LT_best c_LT_best 6 (some .int) :: im_T) (im_rm 5 120) (im_Pre D vwCl tA lo im_NW [.ref (lo + x0), .int x1] w) (im_Post D vwCl tA lo (some (.int r.1)) r.2) 0 0 (fun q => lo ≤ q) := by
  refine im_ofW (cc := c_LT_best) (nL := 6) (ret := (some .int)) (by decide) (Nat.le_of_ble_eq_true rfl) ?_
  intro p e s m args below meth c X H locs ls hH hl
  obtain ⟨hx, hb, hr, hts, hown, hlk, hml, hK, hN⟩ := id X
  have hl : lv_has ls 6 [(0, .ref (lo + x0)), (1, .int x1)] := hl
  unfold sh_LT_best at hsh
  refine lv_aload_n hx hb d_LT_best_0 rfl (lv_at hl 0 rfl) ?_
  refine lv_iload_n hx hb d_LT_best_1 rfl (lv_at hl 1 rfl) ?_
  obtain ⟨u1, h2, hsh⟩ := im_bd hsh
  obtain ⟨g3, h4⟩ := im_is_s h2
  obtain ⟨v7, w5, h6, hsh⟩ := im_bd2 hsh
  refine im_afterI (va_runV (As := [.int x1]) (rest := []) (C := RC_LT) ⟨hx, hb, hml, hown, hts⟩ (met_LT_isTag h6) ⟨(callB_of 1 hts (im_good wd_489) rfl rfl rfl (hts _ wd_1) (hts _ wd_486) (by decide +kernel) ⟨Nat.le_of_ble_eq_true rfl, Nat.le_of_ble_eq_true rfl⟩), hts _ wd_488, hts _ sl_LT_isTag⟩ (im_preV im_NW_ok hK hN hH (ci := 8) rfl rfl h4 _) rfl rfl hl.1 rfl (lv_room (Nat.le_of_ble_eq_true rfl)) d_LT_best_2 ⟨Nat.le_of_ble_eq_true rfl, Nat.le_of_ble_eq_true rfl⟩) hH (fun H locs hH => ?_)
  refine lv_if_ne (tgt := 10) hx hb d_LT_best_5 (by decide) (fun cc => ?_) (fun cc => ?_)
  · have hsh := im_if hsh cc
    refine lv_iconst (v := -1) hx hb d_LT_best_10 (by decide) ?_
    refine lv_istore_n (lv' := [(2, .int (-1 : Int32)), (0, .ref (lo + x0)), (1, .int x1)]) hx hb d_LT_best_11 rfl hl (by decide) rfl (fun ls hl => ?_)
    refine lv_bipush (v := 50) hx hb d_LT_best_12 (by decide) ?_
    refine lv_istore_n (lv' := [(3, .int (50 : Int32)), (2, .int (-1 : Int32)), (0, .ref (lo + x0)), (1, .int x1)]) hx hb d_LT_best_14 rfl hl (by decide) rfl (fun ls hl => ?_)
    refine lv_iconst (v := 0) hx hb d_LT_best_15 (by decide) ?_
    refine lv_istore (lv' := [(4, .int (0 : Int32)), (3, .int (50 : Int32)), (2, .int (-1 : Int32)), (0, .ref (lo + x0)), (1, .int x1)]) hx hb d_LT_best_16 hl (by decide) rfl (fun ls hl => ?_)
    exact bk_LT_best_18 X F x0 x1 (-1 : Int32) (50 : Int32) (0 : Int32) w5 hsh H locs ls hH (lv_sub hl [3, 4, 2, 1, 0] rfl)
  · have hsh := im_it hsh cc
    refine lv_iconst (v := -1) hx hb d_LT_best_8 (by decide) ?_
    obtain rfl := Option.some.inj hsh
    exact im_iret hx hb hr hlk hH d_LT_best_9
theorem d_LT_isKey_0 : decode c_LT_isKey 0 = .ok (.iload_n 0, 1) := by decide +kernel
theorem d_LT_isKey_1 : decode c_LT_isKey 1 = .ok (.ifCond .lt (13), 3) := by decide +kernel
theorem d_LT_isKey_4 : decode c_LT_isKey 4 = .ok (.iload_n 0, 1) := by decide +kernel
theorem d_LT_isKey_5 : decode c_LT_isKey 5 = .ok (.bipush (8), 2) := by decide +kernel
theorem d_LT_isKey_7 : decode c_LT_isKey 7 = .ok (.if_icmp .ge (7), 3) := by decide +kernel
theorem d_LT_isKey_10 : decode c_LT_isKey 10 = .ok (.iconst 1, 1) := by decide +kernel
theorem d_LT_isKey_11 : decode c_LT_isKey 11 = .ok (.goto (4), 3) := by decide +kernel
theorem d_LT_isKey_14 : decode c_LT_isKey 14 = .ok (.iconst 0, 1) := by decide +kernel
theorem d_LT_isKey_15 : decode c_LT_isKey 15 = .ok (.ireturn, 1) := by decide +kernel
def sh_LT_isKey_15 (F : Nat) (y0 : Int32) (w : im_W) : Option (Int32 × im_W) :=
  im_rz y0 w
set_option maxHeartbeats 4000000 in
set_option maxRecDepth 100000 in
theorem bk_LT_isKey_15 {F : Nat} {r : Int32 × im_W} (X : im_X D vwCl tA lo im_NW c_LT_isKey 1 (some .boolean) RC_LT im_T p s m args meth c) (y0 : Int32) (w : im_W) (hsh : sh_LT_isKey_15 F y0 w = some r) : im_WW D vwCl tA lo 1 p l e (im_rm 0 0) s m args below meth c 0 0 (MQ below (im_Post D vwCl tA lo (some (.int r.1)) r.2) args s 0 0 (fun q => lo ≤ q)) 15 [] [.int y0] w := by
  obtain ⟨hx, hb, hr, hts, hown, hlk, hml, hK, hN⟩ := id X
  intro H locs ls hH hl
  unfold sh_LT_isKey_15 at hsh
  obtain ⟨rfl, hn⟩ := im_rz_s hsh
  exact im_zret hx hb hr hlk hn hH d_LT_isKey_15
def sh_LT_isKey_14 (F : Nat)  (w : im_W) : Option (Int32 × im_W) :=
  sh_LT_isKey_15 F (0 : Int32) w
set_option maxHeartbeats 4000000 in
set_option maxRecDepth 100000 in
theorem bk_LT_isKey_14 {F : Nat} {r : Int32 × im_W} (X : im_X D vwCl tA lo im_NW c_LT_isKey 1 (some .boolean) RC_LT im_T p s m args meth c)  (w : im_W) (hsh : sh_LT_isKey_14 F w = some r) : im_WW D vwCl tA lo 1 p l e (im_rm 0 0) s m args below meth c 0 0 (MQ below (im_Post D vwCl tA lo (some (.int r.1)) r.2) args s 0 0 (fun q => lo ≤ q)) 14 [] [] w := by
  obtain ⟨hx, hb, hr, hts, hown, hlk, hml, hK, hN⟩ := id X
  intro H locs ls hH hl
  unfold sh_LT_isKey_14 at hsh
  refine lv_iconst (v := 0) hx hb d_LT_isKey_14 (by decide) ?_
  exact bk_LT_isKey_15 X (0 : Int32) w hsh H locs ls hH (lv_sub hl [] rfl)
def sh_LT_isKey (F : Nat) (x0 : Int32) (w : im_W) : Option (Int32 × im_W) :=
  (if x0 < 0 then sh_LT_isKey_14 F w else (if (8 : Int32) ≤ x0 then sh_LT_isKey_14 F w else sh_LT_isKey_15 F (1 : Int32) w))
set_option maxHeartbeats 4000000 in
set_option maxRecDepth 100000 in
theorem met_LT_isKey {F : Nat} {x0 : Int32} {w : im_W} {r : Int32 × im_W} (hsh : sh_LT_isKey F x0 w = some r) : Met l y_LT_isKey (Cond.code y_LT_isKey c_LT_isKey 1 (some .boolean) :: im_T) (im_rm 0 0) (im_Pre D vwCl tA lo im_NW [.int x0] w) (im_Post D vwCl tA lo (some (.int r.1)) r.2) 0 0 (fun q => lo ≤ q) := by
  refine im_ofW (cc := c_LT_isKey) (nL := 1) (ret := (some .boolean)) (by decide) (Nat.le_of_ble_eq_true rfl) ?_
  intro p e s m args below meth c X H locs ls hH hl
  obtain ⟨hx, hb, hr, hts, hown, hlk, hml, hK, hN⟩ := id X
  have hl : lv_has ls 1 [(0, .int x0)] := hl
  unfold sh_LT_isKey at hsh
  refine lv_iload_n hx hb d_LT_isKey_0 rfl (lv_at hl 0 rfl) ?_
  refine lv_if_lt (tgt := 14) hx hb d_LT_isKey_1 (by decide) (fun cc => ?_) (fun cc => ?_)
  · have hsh := im_it hsh cc
    exact bk_LT_isKey_14 X w hsh H locs ls hH (lv_sub hl [] rfl)
  · have hsh := im_if hsh cc
    refine lv_iload_n hx hb d_LT_isKey_4 rfl (lv_at hl 0 rfl) ?_
    refine lv_bipush (v := 8) hx hb d_LT_isKey_5 (by decide) ?_
    refine lv_icmp_ge (tgt := 14) hx hb d_LT_isKey_7 (by decide) (fun cc => ?_) (fun cc => ?_)
    · have hsh := im_it hsh cc
      exact bk_LT_isKey_14 X w hsh H locs ls hH (lv_sub hl [] rfl)
    · have hsh := im_if hsh cc
      refine lv_iconst (v := 1) hx hb d_LT_isKey_10 (by decide) ?_
      refine lv_goto (tgt := 15) hx hb d_LT_isKey_11 (by decide) ?_
      exact bk_LT_isKey_15 X (1 : Int32) w hsh H locs ls hH (lv_sub hl [] rfl)
theorem wd_158 : (Jvm.Cond.fieldLink "LanguageTags$Tag" (20 : Nat) "LanguageTags$Tag" "values" "[I") ∈ im_T := im_memT (i := 158) (by decide +kernel) (by decide +kernel)
theorem wd_159 : (Jvm.Cond.fieldLink "LanguageTags$Tag" (24 : Nat) "LanguageTags$Tag" "given" "[Z") ∈ im_T := im_memT (i := 159) (by decide +kernel) (by decide +kernel)
theorem wd_602 : (Jvm.Cond.static ({ cls := "LanguageTags", name := "isKey", desc := "(I)Z" } : Jvm.MethodName)) ∈ im_T := im_memT (i := 602) (by decide +kernel) (by decide +kernel)
theorem wd_603 : (Jvm.Cond.code ({ cls := "LanguageTags", name := "isKey", desc := "(I)Z" } : Jvm.MethodName) prog_1_method_19_code (1 : Nat) (Option.some Jvm.ClassFile.FieldType.boolean)) ∈ im_T := im_memT (i := 603) (by decide +kernel) (by decide +kernel)
theorem d_Tag_give_0 : decode c_Tag_give 0 = .ok (.iload_n 1, 1) := by decide +kernel
theorem d_Tag_give_1 : decode c_Tag_give 1 = .ok (.invokestatic 32, 3) := by decide +kernel
theorem d_Tag_give_4 : decode c_Tag_give 4 = .ok (.ifCond .eq (17), 3) := by decide +kernel
theorem d_Tag_give_7 : decode c_Tag_give 7 = .ok (.aload_n 0, 1) := by decide +kernel
theorem d_Tag_give_8 : decode c_Tag_give 8 = .ok (.getfield 20, 3) := by decide +kernel
theorem d_Tag_give_11 : decode c_Tag_give 11 = .ok (.iload_n 1, 1) := by decide +kernel
theorem d_Tag_give_12 : decode c_Tag_give 12 = .ok (.iload_n 2, 1) := by decide +kernel
theorem d_Tag_give_13 : decode c_Tag_give 13 = .ok (.iastore, 1) := by decide +kernel
theorem d_Tag_give_14 : decode c_Tag_give 14 = .ok (.aload_n 0, 1) := by decide +kernel
theorem d_Tag_give_15 : decode c_Tag_give 15 = .ok (.getfield 24, 3) := by decide +kernel
theorem d_Tag_give_18 : decode c_Tag_give 18 = .ok (.iload_n 1, 1) := by decide +kernel
theorem d_Tag_give_19 : decode c_Tag_give 19 = .ok (.iconst 1, 1) := by decide +kernel
theorem d_Tag_give_20 : decode c_Tag_give 20 = .ok (.bastore, 1) := by decide +kernel
theorem d_Tag_give_21 : decode c_Tag_give 21 = .ok (.return_, 1) := by decide +kernel
def sh_Tag_give_21 (F : Nat)  (w : im_W) : Option (im_W) :=
  some w
set_option maxHeartbeats 4000000 in
set_option maxRecDepth 100000 in
theorem bk_Tag_give_21 {F : Nat} {r : im_W} (X : im_X D vwCl tA lo im_NW c_Tag_give 3 none RC_Tag im_T p s m args meth c)  (w : im_W) (hsh : sh_Tag_give_21 F w = some r) : im_WW D vwCl tA lo 3 p l e (im_rm 1 20) s m args below meth c 0 0 (MQ below (im_Post D vwCl tA lo none r) args s 0 0 (fun q => lo ≤ q)) 21 [] [] w := by
  obtain ⟨hx, hb, hr, hts, hown, hlk, hml, hK, hN⟩ := id X
  intro H locs ls hH hl
  unfold sh_Tag_give_21 at hsh
  obtain rfl := Option.some.inj hsh
  exact im_vret hx hb hr hlk hH d_Tag_give_21
def sh_Tag_give (F : Nat) (x0 : Nat) (x1 : Int32) (x2 : Int32) (w : im_W) : Option (im_W) :=
  im_b2 (sh_LT_isKey F x1 w) fun v3 w1 => (if v3 = 0 then sh_Tag_give_21 F w1 else (im_gR w1 6 x0 1).bind fun f4 => (im_sI w1 0 f4 x1 x2).bind fun w6 => (im_gR w6 6 x0 2).bind fun f8 => (im_sI w6 3 f8 x1 (vp_nar .boolean (1 : Int32))).bind fun w10 => sh_Tag_give_21 F w10)
set_option maxHeartbeats 4000000 in
set_option maxRecDepth 100000 in
theorem met_Tag_give {F : Nat} {x0 : Nat} {x1 : Int32} {x2 : Int32} {w : im_W} {r : im_W} (hsh : sh_Tag_give F x0 x1 x2 w = some r) : Met l y_Tag_give (Cond.code y_Tag_give c_Tag_give 3 none :: im_T) (im_rm 1 20) (im_Pre D vwCl tA lo im_NW [.ref (lo + x0), .int x1, .int x2] w) (im_Post D vwCl tA lo none r) 0 0 (fun q => lo ≤ q) := by
  refine im_ofW (cc := c_Tag_give) (nL := 3) (ret := none) (by decide) (Nat.le_of_ble_eq_true rfl) ?_
  intro p e s m args below meth c X H locs ls hH hl
  obtain ⟨hx, hb, hr, hts, hown, hlk, hml, hK, hN⟩ := id X
  have hl : lv_has ls 3 [(0, .ref (lo + x0)), (1, .int x1), (2, .int x2)] := hl
  unfold sh_Tag_give at hsh
  refine lv_iload_n hx hb d_Tag_give_0 rfl (lv_at hl 1 rfl) ?_
  obtain ⟨v3, w1, h2, hsh⟩ := im_bd2 hsh
  refine im_afterI (va_runSN (As := [.int x1]) (rest := []) ⟨hx, hb, hml, hown, hts⟩ (met_LT_isKey h2) ⟨(va_cnB 1 hts (im_good wd_603) rfl rfl rfl (hN _ nw_608) (hts _ wd_1) (by decide +kernel) ⟨Nat.le_of_ble_eq_true rfl, Nat.le_of_ble_eq_true rfl⟩), hts _ wd_602, trivial⟩ (im_pre im_NW_ok hK hN hH _) rfl rfl hl.1 rfl (lv_room (Nat.le_of_ble_eq_true rfl)) d_Tag_give_1 ⟨Nat.le_of_ble_eq_true rfl, Nat.le_of_ble_eq_true rfl⟩) hH (fun H locs hH => ?_)
  refine lv_if_eq (tgt := 21) hx hb d_Tag_give_4 (by decide) (fun cc => ?_) (fun cc => ?_)
  · have hsh := im_it hsh cc
    exact bk_Tag_give_21 X w1 hsh H locs ls hH (lv_sub hl [] rfl)
  · have hsh := im_if hsh cc
    refine lv_aload_n hx hb d_Tag_give_7 rfl (lv_at hl 0 rfl) ?_
    obtain ⟨f4, h5, hsh⟩ := im_bd hsh
    refine im_getR hx hb hts inC_Tag hown hK hH (ci := 6) rfl 1 (by decide) (hts _ wd_158) rfl h5 d_Tag_give_8 ?_
    refine lv_iload_n hx hb d_Tag_give_11 rfl (lv_at hl 1 rfl) ?_
    refine lv_iload_n hx hb d_Tag_give_12 rfl (lv_at hl 2 rfl) ?_
    obtain ⟨w6, h7, hsh⟩ := im_bd hsh
    refine im_iast hx hb hK hH h7 d_Tag_give_13 (fun H locs hH => ?_)
    refine lv_aload_n hx hb d_Tag_give_14 rfl (lv_at hl 0 rfl) ?_
    obtain ⟨f8, h9, hsh⟩ := im_bd hsh
    refine im_getR hx hb hts inC_Tag hown hK hH (ci := 6) rfl 2 (by decide) (hts _ wd_159) rfl h9 d_Tag_give_15 ?_
    refine lv_iload_n hx hb d_Tag_give_18 rfl (lv_at hl 1 rfl) ?_
    refine lv_iconst (v := 1) hx hb d_Tag_give_19 (by decide) ?_
    obtain ⟨w10, h11, hsh⟩ := im_bd hsh
    refine im_zast hx hb hK hH h11 d_Tag_give_20 (fun H locs hH => ?_)
    exact bk_Tag_give_21 X w10 hsh H locs ls hH (lv_sub hl [] rfl)
theorem wd_9 : (Jvm.Cond.initialized "LanguageTags$Tag") ∈ im_T := im_memT (i := 9) (by decide +kernel) (by decide +kernel)
theorem wd_601 : (Jvm.Cond.methodLink "LanguageTags" (233 : Nat) ({ cls := "LanguageTags", name := "isKey", desc := "(I)Z" } : Jvm.MethodName)) ∈ im_T := im_memT (i := 601) (by decide +kernel) (by decide +kernel)
theorem wd_604 : (Jvm.Cond.methodLink "LanguageTags" (236 : Nat) ({ cls := "LanguageTags$Tag", name := "give", desc := "(II)V" } : Jvm.MethodName)) ∈ im_T := im_memT (i := 604) (by decide +kernel) (by decide +kernel)
theorem wd_605 : (Jvm.Cond.instanceMethod ({ cls := "LanguageTags$Tag", name := "give", desc := "(II)V" } : Jvm.MethodName)) ∈ im_T := im_memT (i := 605) (by decide +kernel) (by decide +kernel)
theorem wd_606 : (Jvm.Cond.selects "LanguageTags$Tag" ({ cls := "LanguageTags$Tag", name := "give", desc := "(II)V" } : Jvm.MethodName) ({ cls := "LanguageTags$Tag", name := "give", desc := "(II)V" } : Jvm.MethodName)) ∈ im_T := im_memT (i := 606) (by decide +kernel) (by decide +kernel)
theorem wd_607 : (Jvm.Cond.code ({ cls := "LanguageTags$Tag", name := "give", desc := "(II)V" } : Jvm.MethodName) prog_9_method_2_code (3 : Nat) (Option.none : Option Jvm.ClassFile.FieldType)) ∈ im_T := im_memT (i := 607) (by decide +kernel) (by decide +kernel)
theorem d_LT_put_0 : decode c_LT_put 0 = .ok (.aload_n 0, 1) := by decide +kernel
theorem d_LT_put_1 : decode c_LT_put 1 = .ok (.iload_n 1, 1) := by decide +kernel
theorem d_LT_put_2 : decode c_LT_put 2 = .ok (.invokevirtual 198, 3) := by decide +kernel
theorem d_LT_put_5 : decode c_LT_put 5 = .ok (.ifCond .eq (10), 3) := by decide +kernel
theorem d_LT_put_8 : decode c_LT_put 8 = .ok (.iload_n 2, 1) := by decide +kernel
theorem d_LT_put_9 : decode c_LT_put 9 = .ok (.invokestatic 233, 3) := by decide +kernel
theorem d_LT_put_12 : decode c_LT_put 12 = .ok (.ifCond .ne (5), 3) := by decide +kernel
theorem d_LT_put_15 : decode c_LT_put 15 = .ok (.iconst 0, 1) := by decide +kernel
theorem d_LT_put_16 : decode c_LT_put 16 = .ok (.ireturn, 1) := by decide +kernel
theorem d_LT_put_17 : decode c_LT_put 17 = .ok (.aload_n 0, 1) := by decide +kernel
theorem d_LT_put_18 : decode c_LT_put 18 = .ok (.getfield 56, 3) := by decide +kernel
theorem d_LT_put_21 : decode c_LT_put 21 = .ok (.iload_n 1, 1) := by decide +kernel
theorem d_LT_put_22 : decode c_LT_put 22 = .ok (.aaload, 1) := by decide +kernel
theorem d_LT_put_23 : decode c_LT_put 23 = .ok (.iload_n 2, 1) := by decide +kernel
theorem d_LT_put_24 : decode c_LT_put 24 = .ok (.iload_n 3, 1) := by decide +kernel
theorem d_LT_put_25 : decode c_LT_put 25 = .ok (.invokevirtual 236, 3) := by decide +kernel
theorem d_LT_put_28 : decode c_LT_put 28 = .ok (.iconst 1, 1) := by decide +kernel
theorem d_LT_put_29 : decode c_LT_put 29 = .ok (.ireturn, 1) := by decide +kernel
def sh_LT_put_15 (F : Nat)  (w : im_W) : Option (Int32 × im_W) :=
  im_rz (0 : Int32) w
set_option maxHeartbeats 4000000 in
set_option maxRecDepth 100000 in
theorem bk_LT_put_15 {F : Nat} {r : Int32 × im_W} (X : im_X D vwCl tA lo im_NW c_LT_put 4 (some .boolean) RC_LT im_T p s m args meth c)  (w : im_W) (hsh : sh_LT_put_15 F w = some r) : im_WW D vwCl tA lo 4 p l e (im_rm 2 42) s m args below meth c 0 0 (MQ below (im_Post D vwCl tA lo (some (.int r.1)) r.2) args s 0 0 (fun q => lo ≤ q)) 15 [] [] w := by
  obtain ⟨hx, hb, hr, hts, hown, hlk, hml, hK, hN⟩ := id X
  intro H locs ls hH hl
  unfold sh_LT_put_15 at hsh
  refine lv_iconst (v := 0) hx hb d_LT_put_15 (by decide) ?_
  obtain ⟨rfl, hn⟩ := im_rz_s hsh
  exact im_zret hx hb hr hlk hn hH d_LT_put_16
def sh_LT_put (F : Nat) (x0 : Nat) (x1 : Int32) (x2 : Int32) (x3 : Int32) (w : im_W) : Option (Int32 × im_W) :=
  (im_is w 8 x0).bind fun u1 => im_b2 (sh_LT_isTag F x0 x1 w) fun v7 w5 => (if v7 = 0 then sh_LT_put_15 F w5 else im_b2 (sh_LT_isKey F x2 w5) fun v10 w8 => (if v10 = 0 then sh_LT_put_15 F w8 else (im_gR w8 8 x0 7).bind fun f11 => (im_lR w8 4 f11 x1).bind fun e13 => (im_is w8 6 e13).bind fun u15 => (sh_Tag_give F e13 x2 x3 w8).bind fun w19 => im_rz (1 : Int32) w19))
set_option maxHeartbeats 4000000 in
set_option maxRecDepth 100000 in
theorem met_LT_put {F : Nat} {x0 : Nat} {x1 : Int32} {x2 : Int32} {x3 : Int32} {w : im_W} {r : Int32 × im_W} (hsh : sh_LT_put F x0 x1 x2 x3 w = some r) : Met l y_LT_put (Cond.code y_LT_put c_LT_put 4 (some .boolean) :: im_T) (im_rm 2 42) (im_Pre D vwCl tA lo im_NW [.ref (lo + x0), .int x1, .int x2, .int x3] w) (im_Post D vwCl tA lo (some (.int r.1)) r.2) 0 0 (fun q => lo ≤ q) := by
  refine im_ofW (cc := c_LT_put) (nL := 4) (ret := (some .boolean)) (by decide) (Nat.le_of_ble_eq_true rfl) ?_
  intro p e s m args below meth c X H locs ls hH hl
  obtain ⟨hx, hb, hr, hts, hown, hlk, hml, hK, hN⟩ := id X
  have hl : lv_has ls 4 [(0, .ref (lo + x0)), (1, .int x1), (2, .int x2), (3, .int x3)] := hl
  unfold sh_LT_put at hsh
  refine lv_aload_n hx hb d_LT_put_0 rfl (lv_at hl 0 rfl) ?_
  refine lv_iload_n hx hb d_LT_put_1 rfl (lv_at hl 1 rfl) ?_
  obtain ⟨u1, h2, hsh⟩ := im_bd hsh
  obtain ⟨g3, h4⟩ := im_is_s h2
  obtain ⟨v7, w5, h6, hsh⟩ := im_bd2 hsh
  refine im_afterI (va_runV (As := [.int x1]) (rest := []) (C := RC_LT) ⟨hx, hb, hml, hown, hts⟩ (met_LT_isTag h6) ⟨(callB_of 1 hts (im_good wd_489) rfl rfl rfl (hts _ wd_1) (hts _ wd_486) (by decide +kernel) ⟨Nat.le_of_ble_eq_true rfl, Nat.le_of_ble_eq_true rfl⟩), hts _ wd_488, hts _ sl_LT_isTag⟩ (im_preV im_NW_ok hK hN hH (ci := 8) rfl rfl h4 _) rfl rfl hl.1 rfl (lv_room (Nat.le_of_ble_eq_true rfl)) d_LT_put_2 ⟨Nat.le_of_ble_eq_true rfl, Nat.le_of_ble_eq_true rfl⟩) hH (fun H locs hH => ?_)
  refine lv_if_eq (tgt := 15) hx hb d_LT_put_5 (by decide) (fun cc => ?_) (fun cc => ?_)
  · have hsh := im_it hsh cc
    exact bk_LT_put_15 X w5 hsh H locs ls hH (lv_sub hl [] rfl)
  · have hsh := im_if hsh cc
    refine lv_iload_n hx hb d_LT_put_8 rfl (lv_at hl 2 rfl) ?_
    obtain ⟨v10, w8, h9, hsh⟩ := im_bd2 hsh
    refine im_afterI (va_runS (As := [.int x2]) (rest := []) ⟨hx, hb, hml, hown, hts⟩ (met_LT_isKey h9) ⟨(callB_of 1 hts (im_good wd_603) rfl rfl rfl (hts _ wd_1) (hts _ wd_601) (by decide +kernel) ⟨Nat.le_of_ble_eq_true rfl, Nat.le_of_ble_eq_true rfl⟩), hts _ wd_602⟩ (im_pre im_NW_ok hK hN hH _) rfl rfl hl.1 rfl (lv_room (Nat.le_of_ble_eq_true rfl)) d_LT_put_9 ⟨Nat.le_of_ble_eq_true rfl, Nat.le_of_ble_eq_true rfl⟩) hH (fun H locs hH => ?_)
    refine lv_if_ne (tgt := 17) hx hb d_LT_put_12 (by decide) (fun cc => ?_) (fun cc => ?_)
    · have hsh := im_if hsh cc
      refine lv_aload_n hx hb d_LT_put_17 rfl (lv_at hl 0 rfl) ?_
      obtain ⟨f11, h12, hsh⟩ := im_bd hsh
      refine im_getR hx hb hts inC_LT hown hK hH (ci := 8) rfl 7 (by decide) (hts _ wd_182) rfl h12 d_LT_put_18 ?_
      refine lv_iload_n hx hb d_LT_put_21 rfl (lv_at hl 1 rfl) ?_
      obtain ⟨e13, h14, hsh⟩ := im_bd hsh
      refine im_aald4 hx hb hK hH h14 d_LT_put_22 ?_
      refine lv_iload_n hx hb d_LT_put_23 rfl (lv_at hl 2 rfl) ?_
      refine lv_iload_n hx hb d_LT_put_24 rfl (lv_at hl 3 rfl) ?_
      obtain ⟨u15, h16, hsh⟩ := im_bd hsh
      obtain ⟨g17, h18⟩ := im_is_s h16
      obtain ⟨w19, h20, hsh⟩ := im_bd hsh
      refine im_afterV (va_runV (As := [.int x2, .int x3]) (rest := []) (C := RC_Tag) ⟨hx, hb, hml, hown, hts⟩ (met_Tag_give h20) ⟨(callB_of 2 hts (im_good wd_607) rfl rfl rfl (hts _ wd_9) (hts _ wd_604) (by decide +kernel) ⟨Nat.le_of_ble_eq_true rfl, Nat.le_of_ble_eq_true rfl⟩), hts _ wd_605, hts _ wd_606⟩ (im_preV im_NW_ok hK hN hH (ci := 6) rfl rfl h18 _) rfl rfl hl.1 rfl (lv_room (Nat.le_of_ble_eq_true rfl)) d_LT_put_25 ⟨Nat.le_of_ble_eq_true rfl, Nat.le_of_ble_eq_true rfl⟩) hH (fun H locs hH => ?_)
      refine lv_iconst (v := 1) hx hb d_LT_put_28 (by decide) ?_
      obtain ⟨rfl, hn⟩ := im_rz_s hsh
      exact im_zret hx hb hr hlk hn hH d_LT_put_29
    · have hsh := im_it hsh cc
      exact bk_LT_put_15 X w8 hsh H locs ls hH (lv_sub hl [] rfl)
theorem d_Tag_hasValue_0 : decode c_Tag_hasValue 0 = .ok (.iload_n 1, 1) := by decide +kernel
theorem d_Tag_hasValue_1 : decode c_Tag_hasValue 1 = .ok (.invokestatic 32, 3) := by decide +kernel
theorem d_Tag_hasValue_4 : decode c_Tag_hasValue 4 = .ok (.ifCond .eq (16), 3) := by decide +kernel
theorem d_Tag_hasValue_7 : decode c_Tag_hasValue 7 = .ok (.aload_n 0, 1) := by decide +kernel
theorem d_Tag_hasValue_8 : decode c_Tag_hasValue 8 = .ok (.getfield 24, 3) := by decide +kernel
theorem d_Tag_hasValue_11 : decode c_Tag_hasValue 11 = .ok (.iload_n 1, 1) := by decide +kernel
theorem d_Tag_hasValue_12 : decode c_Tag_hasValue 12 = .ok (.baload, 1) := by decide +kernel
theorem d_Tag_hasValue_13 : decode c_Tag_hasValue 13 = .ok (.ifCond .eq (7), 3) := by decide +kernel
theorem d_Tag_hasValue_16 : decode c_Tag_hasValue 16 = .ok (.iconst 1, 1) := by decide +kernel
theorem d_Tag_hasValue_17 : decode c_Tag_hasValue 17 = .ok (.goto (4), 3) := by decide +kernel
theorem d_Tag_hasValue_20 : decode c_Tag_hasValue 20 = .ok (.iconst 0, 1) := by decide +kernel
theorem d_Tag_hasValue_21 : decode c_Tag_hasValue 21 = .ok (.ireturn, 1) := by decide +kernel
def sh_Tag_hasValue_21 (F : Nat) (y0 : Int32) (w : im_W) : Option (Int32 × im_W) :=
  im_rz y0 w
set_option maxHeartbeats 4000000 in
set_option maxRecDepth 100000 in
theorem bk_Tag_hasValue_21 {F : Nat} {r : Int32 × im_W} (X : im_X D vwCl tA lo im_NW c_Tag_hasValue 2 (some .boolean) RC_Tag im_T p s m args meth c) (y0 : Int32) (w : im_W) (hsh : sh_Tag_hasValue_21 F y0 w = some r) : im_WW D vwCl tA lo 2 p l e (im_rm 1 20) s m args below meth c 0 0 (MQ below (im_Post D vwCl tA lo (some (.int r.1)) r.2) args s 0 0 (fun q => lo ≤ q)) 21 [] [.int y0] w := by
  obtain ⟨hx, hb, hr, hts, hown, hlk, hml, hK, hN⟩ := id X
  intro H locs ls hH hl
  unfold sh_Tag_hasValue_21 at hsh
  obtain ⟨rfl, hn⟩ := im_rz_s hsh
  exact im_zret hx hb hr hlk hn hH d_Tag_hasValue_21
def sh_Tag_hasValue_20 (F : Nat)  (w : im_W) : Option (Int32 × im_W) :=
  sh_Tag_hasValue_21 F (0 : Int32) w
set_option maxHeartbeats 4000000 in
set_option maxRecDepth 100000 in
theorem bk_Tag_hasValue_20 {F : Nat} {r : Int32 × im_W} (X : im_X D vwCl tA lo im_NW c_Tag_hasValue 2 (some .boolean) RC_Tag im_T p s m args meth c)  (w : im_W) (hsh : sh_Tag_hasValue_20 F w = some r) : im_WW D vwCl tA lo 2 p l e (im_rm 1 20) s m args below meth c 0 0 (MQ below (im_Post D vwCl tA lo (some (.int r.1)) r.2) args s 0 0 (fun q => lo ≤ q)) 20 [] [] w := by
  obtain ⟨hx, hb, hr, hts, hown, hlk, hml, hK, hN⟩ := id X
  intro H locs ls hH hl
  unfold sh_Tag_hasValue_20 at hsh
  refine lv_iconst (v := 0) hx hb d_Tag_hasValue_20 (by decide) ?_
  exact bk_Tag_hasValue_21 X (0 : Int32) w hsh H locs ls hH (lv_sub hl [] rfl)
def sh_Tag_hasValue (F : Nat) (x0 : Nat) (x1 : Int32) (w : im_W) : Option (Int32 × im_W) :=
  im_b2 (sh_LT_isKey F x1 w) fun v3 w1 => (if v3 = 0 then sh_Tag_hasValue_20 F w1 else (im_gR w1 6 x0 2).bind fun f4 => (im_lI w1 3 f4 x1).bind fun e6 => (if e6 = 0 then sh_Tag_hasValue_20 F w1 else sh_Tag_hasValue_21 F (1 : Int32) w1))
set_option maxHeartbeats 4000000 in
set_option maxRecDepth 100000 in
theorem met_Tag_hasValue {F : Nat} {x0 : Nat} {x1 : Int32} {w : im_W} {r : Int32 × im_W} (hsh : sh_Tag_hasValue F x0 x1 w = some r) : Met l y_Tag_hasValue (Cond.code y_Tag_hasValue c_Tag_hasValue 2 (some .boolean) :: im_T) (im_rm 1 20) (im_Pre D vwCl tA lo im_NW [.ref (lo + x0), .int x1] w) (im_Post D vwCl tA lo (some (.int r.1)) r.2) 0 0 (fun q => lo ≤ q) := by
  refine im_ofW (cc := c_Tag_hasValue) (nL := 2) (ret := (some .boolean)) (by decide) (Nat.le_of_ble_eq_true rfl) ?_
  intro p e s m args below meth c X H locs ls hH hl
  obtain ⟨hx, hb, hr, hts, hown, hlk, hml, hK, hN⟩ := id X
  have hl : lv_has ls 2 [(0, .ref (lo + x0)), (1, .int x1)] := hl
  unfold sh_Tag_hasValue at hsh
  refine lv_iload_n hx hb d_Tag_hasValue_0 rfl (lv_at hl 1 rfl) ?_
  obtain ⟨v3, w1, h2, hsh⟩ := im_bd2 hsh
  refine im_afterI (va_runSN (As := [.int x1]) (rest := []) ⟨hx, hb, hml, hown, hts⟩ (met_LT_isKey h2) ⟨(va_cnB 1 hts (im_good wd_603) rfl rfl rfl (hN _ nw_608) (hts _ wd_1) (by decide +kernel) ⟨Nat.le_of_ble_eq_true rfl, Nat.le_of_ble_eq_true rfl⟩), hts _ wd_602, trivial⟩ (im_pre im_NW_ok hK hN hH _) rfl rfl hl.1 rfl (lv_room (Nat.le_of_ble_eq_true rfl)) d_Tag_hasValue_1 ⟨Nat.le_of_ble_eq_true rfl, Nat.le_of_ble_eq_true rfl⟩) hH (fun H locs hH => ?_)
  refine lv_if_eq (tgt := 20) hx hb d_Tag_hasValue_4 (by decide) (fun cc => ?_) (fun cc => ?_)
  · have hsh := im_it hsh cc
    exact bk_Tag_hasValue_20 X w1 hsh H locs ls hH (lv_sub hl [] rfl)
  · have hsh := im_if hsh cc
    refine lv_aload_n hx hb d_Tag_hasValue_7 rfl (lv_at hl 0 rfl) ?_
    obtain ⟨f4, h5, hsh⟩ := im_bd hsh
    refine im_getR hx hb hts inC_Tag hown hK hH (ci := 6) rfl 2 (by decide) (hts _ wd_159) rfl h5 d_Tag_hasValue_8 ?_
    refine lv_iload_n hx hb d_Tag_hasValue_11 rfl (lv_at hl 1 rfl) ?_
    obtain ⟨e6, h7, hsh⟩ := im_bd hsh
    refine im_zald hx hb hK hH h7 d_Tag_hasValue_12 ?_
    refine lv_if_eq (tgt := 20) hx hb d_Tag_hasValue_13 (by decide) (fun cc => ?_) (fun cc => ?_)
    · have hsh := im_it hsh cc
      exact bk_Tag_hasValue_20 X w1 hsh H locs ls hH (lv_sub hl [] rfl)
    · have hsh := im_if hsh cc
      refine lv_iconst (v := 1) hx hb d_Tag_hasValue_16 (by decide) ?_
      refine lv_goto (tgt := 21) hx hb d_Tag_hasValue_17 (by decide) ?_
      exact bk_Tag_hasValue_21 X (1 : Int32) w1 hsh H locs ls hH (lv_sub hl [] rfl)
theorem d_Tag_valueOf_0 : decode c_Tag_valueOf 0 = .ok (.iload_n 1, 1) := by decide +kernel
theorem d_Tag_valueOf_1 : decode c_Tag_valueOf 1 = .ok (.invokestatic 32, 3) := by decide +kernel
theorem d_Tag_valueOf_4 : decode c_Tag_valueOf 4 = .ok (.ifCond .eq (12), 3) := by decide +kernel
theorem d_Tag_valueOf_7 : decode c_Tag_valueOf 7 = .ok (.aload_n 0, 1) := by decide +kernel
theorem d_Tag_valueOf_8 : decode c_Tag_valueOf 8 = .ok (.getfield 20, 3) := by decide +kernel
theorem d_Tag_valueOf_11 : decode c_Tag_valueOf 11 = .ok (.iload_n 1, 1) := by decide +kernel
theorem d_Tag_valueOf_12 : decode c_Tag_valueOf 12 = .ok (.iaload, 1) := by decide +kernel
theorem d_Tag_valueOf_13 : decode c_Tag_valueOf 13 = .ok (.goto (4), 3) := by decide +kernel
theorem d_Tag_valueOf_16 : decode c_Tag_valueOf 16 = .ok (.iconst 0, 1) := by decide +kernel
theorem d_Tag_valueOf_17 : decode c_Tag_valueOf 17 = .ok (.ireturn, 1) := by decide +kernel
def sh_Tag_valueOf_17 (F : Nat) (y0 : Int32) (w : im_W) : Option (Int32 × im_W) :=
  some (y0, w)
set_option maxHeartbeats 4000000 in
set_option maxRecDepth 100000 in
theorem bk_Tag_valueOf_17 {F : Nat} {r : Int32 × im_W} (X : im_X D vwCl tA lo im_NW c_Tag_valueOf 2 (some .int) RC_Tag im_T p s m args meth c) (y0 : Int32) (w : im_W) (hsh : sh_Tag_valueOf_17 F y0 w = some r) : im_WW D vwCl tA lo 2 p l e (im_rm 1 20) s m args below meth c 0 0 (MQ below (im_Post D vwCl tA lo (some (.int r.1)) r.2) args s 0 0 (fun q => lo ≤ q)) 17 [] [.int y0] w := by
  obtain ⟨hx, hb, hr, hts, hown, hlk, hml, hK, hN⟩ := id X
  intro H locs ls hH hl
  unfold sh_Tag_valueOf_17 at hsh
  obtain rfl := Option.some.inj hsh
  exact im_iret hx hb hr hlk hH d_Tag_valueOf_17
def sh_Tag_valueOf (F : Nat) (x0 : Nat) (x1 : Int32) (w : im_W) : Option (Int32 × im_W) :=
  im_b2 (sh_LT_isKey F x1 w) fun v3 w1 => (if v3 = 0 then sh_Tag_valueOf_17 F (0 : Int32) w1 else (im_gR w1 6 x0 1).bind fun f4 => (im_lI w1 0 f4 x1).bind fun e6 => sh_Tag_valueOf_17 F e6 w1)
set_option maxHeartbeats 4000000 in
set_option maxRecDepth 100000 in
theorem met_Tag_valueOf {F : Nat} {x0 : Nat} {x1 : Int32} {w : im_W} {r : Int32 × im_W} (hsh : sh_Tag_valueOf F x0 x1 w = some r) : Met l y_Tag_valueOf (Cond.code y_Tag_valueOf c_Tag_valueOf 2 (some .int) :: im_T) (im_rm 1 20) (im_Pre D vwCl tA lo im_NW [.ref (lo + x0), .int x1] w) (im_Post D vwCl tA lo (some (.int r.1)) r.2) 0 0 (fun q => lo ≤ q) := by
  refine im_ofW (cc := c_Tag_valueOf) (nL := 2) (ret := (some .int)) (by decide) (Nat.le_of_ble_eq_true rfl) ?_
  intro p e s m args below meth c X H locs ls hH hl
  obtain ⟨hx, hb, hr, hts, hown, hlk, hml, hK, hN⟩ := id X
  have hl : lv_has ls 2 [(0, .ref (lo + x0)), (1, .int x1)] := hl
  unfold sh_Tag_valueOf at hsh
  refine lv_iload_n hx hb d_Tag_valueOf_0 rfl (lv_at hl 1 rfl) ?_
  obtain ⟨v3, w1, h2, hsh⟩ := im_bd2 hsh
  refine im_afterI (va_runSN (As := [.int x1]) (rest := []) ⟨hx, hb, hml, hown, hts⟩ (met_LT_isKey h2) ⟨(va_cnB 1 hts (im_good wd_603) rfl rfl rfl (hN _ nw_608) (hts _ wd_1) (by decide +kernel) ⟨Nat.le_of_ble_eq_true rfl, Nat.le_of_ble_eq_true rfl⟩), hts _ wd_602, trivial⟩ (im_pre im_NW_ok hK hN hH _) rfl rfl hl.1 rfl (lv_room (Nat.le_of_ble_eq_true rfl)) d_Tag_valueOf_1 ⟨Nat.le_of_ble_eq_true rfl, Nat.le_of_ble_eq_true rfl⟩) hH (fun H locs hH => ?_)
  refine lv_if_eq (tgt := 16) hx hb d_Tag_valueOf_4 (by decide) (fun cc => ?_) (fun cc => ?_)
  · have hsh := im_it hsh cc
    refine lv_iconst (v := 0) hx hb d_Tag_valueOf_16 (by decide) ?_
    exact bk_Tag_valueOf_17 X (0 : Int32) w1 hsh H locs ls hH (lv_sub hl [] rfl)
  · have hsh := im_if hsh cc
    refine lv_aload_n hx hb d_Tag_valueOf_7 rfl (lv_at hl 0 rfl) ?_
    obtain ⟨f4, h5, hsh⟩ := im_bd hsh
    refine im_getR hx hb hts inC_Tag hown hK hH (ci := 6) rfl 1 (by decide) (hts _ wd_158) rfl h5 d_Tag_valueOf_8 ?_
    refine lv_iload_n hx hb d_Tag_valueOf_11 rfl (lv_at hl 1 rfl) ?_
    obtain ⟨e6, h7, hsh⟩ := im_bd hsh
    refine im_iald hx hb hK hH h7 d_Tag_valueOf_12 ?_
    refine lv_goto (tgt := 17) hx hb d_Tag_valueOf_13 (by decide) ?_
    exact bk_Tag_valueOf_17 X e6 w1 hsh H locs ls hH (lv_sub hl [] rfl)
theorem wd_190 : (Jvm.Cond.fieldLink "LanguageTags" (92 : Nat) "LanguageTags" "foundPlace" "I") ∈ im_T := im_memT (i := 190) (by decide +kernel) (by decide +kernel)
theorem wd_613 : (Jvm.Cond.methodLink "LanguageTags" (240 : Nat) ({ cls := "LanguageTags$Tag", name := "hasValue", desc := "(I)Z" } : Jvm.MethodName)) ∈ im_T := im_memT (i := 613) (by decide +kernel) (by decide +kernel)
theorem wd_614 : (Jvm.Cond.instanceMethod ({ cls := "LanguageTags$Tag", name := "hasValue", desc := "(I)Z" } : Jvm.MethodName)) ∈ im_T := im_memT (i := 614) (by decide +kernel) (by decide +kernel)
theorem wd_615 : (Jvm.Cond.selects "LanguageTags$Tag" ({ cls := "LanguageTags$Tag", name := "hasValue", desc := "(I)Z" } : Jvm.MethodName) ({ cls := "LanguageTags$Tag", name := "hasValue", desc := "(I)Z" } : Jvm.MethodName)) ∈ im_T := im_memT (i := 615) (by decide +kernel) (by decide +kernel)
theorem wd_616 : (Jvm.Cond.code ({ cls := "LanguageTags$Tag", name := "hasValue", desc := "(I)Z" } : Jvm.MethodName) prog_9_method_3_code (2 : Nat) (Option.some Jvm.ClassFile.FieldType.boolean)) ∈ im_T := im_memT (i := 616) (by decide +kernel) (by decide +kernel)
theorem wd_617 : (Jvm.Cond.methodLink "LanguageTags" (243 : Nat) ({ cls := "LanguageTags$Tag", name := "valueOf", desc := "(I)I" } : Jvm.MethodName)) ∈ im_T := im_memT (i := 617) (by decide +kernel) (by decide +kernel)
theorem wd_618 : (Jvm.Cond.instanceMethod ({ cls := "LanguageTags$Tag", name := "valueOf", desc := "(I)I" } : Jvm.MethodName)) ∈ im_T := im_memT (i := 618) (by decide +kernel) (by decide +kernel)
theorem wd_619 : (Jvm.Cond.selects "LanguageTags$Tag" ({ cls := "LanguageTags$Tag", name := "valueOf", desc := "(I)I" } : Jvm.MethodName) ({ cls := "LanguageTags$Tag", name := "valueOf", desc := "(I)I" } : Jvm.MethodName)) ∈ im_T := im_memT (i := 619) (by decide +kernel) (by decide +kernel)
theorem wd_620 : (Jvm.Cond.code ({ cls := "LanguageTags$Tag", name := "valueOf", desc := "(I)I" } : Jvm.MethodName) prog_9_method_4_code (2 : Nat) (Option.some Jvm.ClassFile.FieldType.int)) ∈ im_T := im_memT (i := 620) (by decide +kernel) (by decide +kernel)
theorem d_LT_get_0 : decode c_LT_get 0 = .ok (.aload_n 0, 1) := by decide +kernel
theorem d_LT_get_1 : decode c_LT_get 1 = .ok (.iconst 0, 1) := by decide +kernel
theorem d_LT_get_2 : decode c_LT_get 2 = .ok (.putfield 92, 3) := by decide +kernel
theorem d_LT_get_5 : decode c_LT_get 5 = .ok (.aload_n 0, 1) := by decide +kernel
theorem d_LT_get_6 : decode c_LT_get 6 = .ok (.iload_n 1, 1) := by decide +kernel
theorem d_LT_get_7 : decode c_LT_get 7 = .ok (.invokevirtual 198, 3) := by decide +kernel
theorem d_LT_get_10 : decode c_LT_get 10 = .ok (.ifCond .eq (10), 3) := by decide +kernel
theorem d_LT_get_13 : decode c_LT_get 13 = .ok (.iload_n 2, 1) := by decide +kernel
theorem d_LT_get_14 : decode c_LT_get 14 = .ok (.invokestatic 233, 3) := by decide +kernel
theorem d_LT_get_17 : decode c_LT_get 17 = .ok (.ifCond .ne (5), 3) := by decide +kernel
theorem d_LT_get_20 : decode c_LT_get 20 = .ok (.iconst 0, 1) := by decide +kernel
theorem d_LT_get_21 : decode c_LT_get 21 = .ok (.ireturn, 1) := by decide +kernel
theorem d_LT_get_22 : decode c_LT_get 22 = .ok (.aload_n 0, 1) := by decide +kernel
theorem d_LT_get_23 : decode c_LT_get 23 = .ok (.getfield 56, 3) := by decide +kernel
theorem d_LT_get_26 : decode c_LT_get 26 = .ok (.iload_n 1, 1) := by decide +kernel
theorem d_LT_get_27 : decode c_LT_get 27 = .ok (.aaload, 1) := by decide +kernel
theorem d_LT_get_28 : decode c_LT_get 28 = .ok (.getfield 165, 3) := by decide +kernel
theorem d_LT_get_31 : decode c_LT_get 31 = .ok (.astore_n 3, 1) := by decide +kernel
theorem d_LT_get_32 : decode c_LT_get 32 = .ok (.aload_n 3, 1) := by decide +kernel
theorem d_LT_get_33 : decode c_LT_get 33 = .ok (.invokevirtual 160, 3) := by decide +kernel
theorem d_LT_get_36 : decode c_LT_get 36 = .ok (.istore 4, 2) := by decide +kernel
theorem d_LT_get_38 : decode c_LT_get 38 = .ok (.iconst 1, 1) := by decide +kernel
theorem d_LT_get_39 : decode c_LT_get 39 = .ok (.istore 5, 2) := by decide +kernel
theorem d_LT_get_41 : decode c_LT_get 41 = .ok (.iload 5, 2) := by decide +kernel
theorem d_LT_get_43 : decode c_LT_get 43 = .ok (.bipush (12), 2) := by decide +kernel
theorem d_LT_get_45 : decode c_LT_get 45 = .ok (.if_icmp .gt (98), 3) := by decide +kernel
theorem d_LT_get_48 : decode c_LT_get 48 = .ok (.iload 4, 2) := by decide +kernel
theorem d_LT_get_50 : decode c_LT_get 50 = .ok (.ifCond .le (93), 3) := by decide +kernel
theorem d_LT_get_53 : decode c_LT_get 53 = .ok (.aload_n 0, 1) := by decide +kernel
theorem d_LT_get_54 : decode c_LT_get 54 = .ok (.aload_n 3, 1) := by decide +kernel
theorem d_LT_get_55 : decode c_LT_get 55 = .ok (.iload 4, 2) := by decide +kernel
theorem d_LT_get_57 : decode c_LT_get 57 = .ok (.invokevirtual 161, 3) := by decide +kernel
theorem d_LT_get_60 : decode c_LT_get 60 = .ok (.istore 6, 2) := by decide +kernel
theorem d_LT_get_62 : decode c_LT_get 62 = .ok (.iload 6, 2) := by decide +kernel
theorem d_LT_get_64 : decode c_LT_get 64 = .ok (.ifCond .lt (35), 3) := by decide +kernel
theorem d_LT_get_67 : decode c_LT_get 67 = .ok (.aload_n 0, 1) := by decide +kernel
theorem d_LT_get_68 : decode c_LT_get 68 = .ok (.getfield 56, 3) := by decide +kernel
theorem d_LT_get_71 : decode c_LT_get 71 = .ok (.iload 6, 2) := by decide +kernel
theorem d_LT_get_73 : decode c_LT_get 73 = .ok (.aaload, 1) := by decide +kernel
theorem d_LT_get_74 : decode c_LT_get 74 = .ok (.iload_n 2, 1) := by decide +kernel
theorem d_LT_get_75 : decode c_LT_get 75 = .ok (.invokevirtual 240, 3) := by decide +kernel
theorem d_LT_get_78 : decode c_LT_get 78 = .ok (.ifCond .eq (21), 3) := by decide +kernel
theorem d_LT_get_81 : decode c_LT_get 81 = .ok (.aload_n 0, 1) := by decide +kernel
theorem d_LT_get_82 : decode c_LT_get 82 = .ok (.iload 5, 2) := by decide +kernel
theorem d_LT_get_84 : decode c_LT_get 84 = .ok (.putfield 92, 3) := by decide +kernel
theorem d_LT_get_87 : decode c_LT_get 87 = .ok (.aload_n 0, 1) := by decide +kernel
theorem d_LT_get_88 : decode c_LT_get 88 = .ok (.getfield 56, 3) := by decide +kernel
theorem d_LT_get_91 : decode c_LT_get 91 = .ok (.iload 6, 2) := by decide +kernel
theorem d_LT_get_93 : decode c_LT_get 93 = .ok (.aaload, 1) := by decide +kernel
theorem d_LT_get_94 : decode c_LT_get 94 = .ok (.iload_n 2, 1) := by decide +kernel
theorem d_LT_get_95 : decode c_LT_get 95 = .ok (.invokevirtual 243, 3) := by decide +kernel
theorem d_LT_get_98 : decode c_LT_get 98 = .ok (.ireturn, 1) := by decide +kernel
theorem d_LT_get_99 : decode c_LT_get 99 = .ok (.aload_n 0, 1) := by decide +kernel
theorem d_LT_get_100 : decode c_LT_get 100 = .ok (.getfield 42, 3) := by decide +kernel
theorem d_LT_get_103 : decode c_LT_get 103 = .ok (.aload_n 3, 1) := by decide +kernel
theorem d_LT_get_104 : decode c_LT_get 104 = .ok (.iload 4, 2) := by decide +kernel
theorem d_LT_get_106 : decode c_LT_get 106 = .ok (.invokevirtual 190, 3) := by decide +kernel
theorem d_LT_get_109 : decode c_LT_get 109 = .ok (.astore 7, 2) := by decide +kernel
theorem d_LT_get_111 : decode c_LT_get 111 = .ok (.aload 7, 2) := by decide +kernel
theorem d_LT_get_113 : decode c_LT_get 113 = .ok (.ifnonnull (14), 3) := by decide +kernel
theorem d_LT_get_116 : decode c_LT_get 116 = .ok (.aload_n 3, 1) := by decide +kernel
theorem d_LT_get_117 : decode c_LT_get 117 = .ok (.iload 4, 2) := by decide +kernel
theorem d_LT_get_119 : decode c_LT_get 119 = .ok (.invokevirtual 225, 3) := by decide +kernel
theorem d_LT_get_122 : decode c_LT_get 122 = .ok (.istore 4, 2) := by decide +kernel
theorem d_LT_get_124 : decode c_LT_get 124 = .ok (.goto (13), 3) := by decide +kernel
theorem d_LT_get_127 : decode c_LT_get 127 = .ok (.aload 7, 2) := by decide +kernel
theorem d_LT_get_129 : decode c_LT_get 129 = .ok (.astore_n 3, 1) := by decide +kernel
theorem d_LT_get_130 : decode c_LT_get 130 = .ok (.aload 7, 2) := by decide +kernel
theorem d_LT_get_132 : decode c_LT_get 132 = .ok (.invokevirtual 160, 3) := by decide +kernel
theorem d_LT_get_135 : decode c_LT_get 135 = .ok (.istore 4, 2) := by decide +kernel
theorem d_LT_get_137 : decode c_LT_get 137 = .ok (.iinc 5 (1), 3) := by decide +kernel
theorem d_LT_get_140 : decode c_LT_get 140 = .ok (.goto (-99), 3) := by decide +kernel
theorem d_LT_get_143 : decode c_LT_get 143 = .ok (.iconst 0, 1) := by decide +kernel
theorem d_LT_get_144 : decode c_LT_get 144 = .ok (.ireturn, 1) := by decide +kernel
def sh_LT_get_20 (F : Nat)  (w : im_W) : Option (Int32 × im_W) :=
  some ((0 : Int32), w)
set_option maxHeartbeats 4000000 in
set_option maxRecDepth 100000 in
theorem bk_LT_get_20 {F : Nat} {r : Int32 × im_W} (X : im_X D vwCl tA lo im_NW c_LT_get 8 (some .int) RC_LT im_T p s m args meth c)  (w : im_W) (hsh : sh_LT_get_20 F w = some r) : im_WW D vwCl tA lo 8 p l e (im_rm 3 67) s m args below meth c 0 0 (MQ below (im_Post D vwCl tA lo (some (.int r.1)) r.2) args s 0 0 (fun q => lo ≤ q)) 20 [] [] w := by
  obtain ⟨hx, hb, hr, hts, hown, hlk, hml, hK, hN⟩ := id X
  intro H locs ls hH hl
  unfold sh_LT_get_20 at hsh
  refine lv_iconst (v := 0) hx hb d_LT_get_20 (by decide) ?_
  obtain rfl := Option.some.inj hsh
  exact im_iret hx hb hr hlk hH d_LT_get_21
def sh_LT_get_137 (F : Nat) (k41 : Nat → Int32 → Nat → Int32 → Int32 → im_W → Option (Int32 × im_W)) (x0 : Nat) (x2 : Int32) (x3 : Nat) (x4 : Int32) (x5 : Int32) (w : im_W) : Option (Int32 × im_W) :=
  k41 x0 x2 x3 x4 (x5 + (1 : Int32)) w
set_option maxHeartbeats 4000000 in
set_option maxRecDepth 100000 in
theorem bk_LT_get_137 {F : Nat} {r : Int32 × im_W} (X : im_X D vwCl tA lo im_NW c_LT_get 8 (some .int) RC_LT im_T p s m args meth c) {k41 : Nat → Int32 → Nat → Int32 → Int32 → im_W → Option (Int32 × im_W)} (hk41 : ∀ (x0 : Nat) (x2 : Int32) (x3 : Nat) (x4 : Int32) (x5 : Int32) (w : im_W), k41 x0 x2 x3 x4 x5 w = some r → im_WW D vwCl tA lo 8 p l e (im_rm 3 67) s m args below meth c 0 0 (MQ below (im_Post D vwCl tA lo (some (.int r.1)) r.2) args s 0 0 (fun q => lo ≤ q)) 41 [(0, .ref (lo + x0)), (2, .int x2), (3, .ref (lo + x3)), (4, .int x4), (5, .int x5)] [] w) (x0 : Nat) (x2 : Int32) (x3 : Nat) (x4 : Int32) (x5 : Int32) (w : im_W) (hsh : sh_LT_get_137 F k41 x0 x2 x3 x4 x5 w = some r) : im_WW D vwCl tA lo 8 p l e (im_rm 3 67) s m args below meth c 0 0 (MQ below (im_Post D vwCl tA lo (some (.int r.1)) r.2) args s 0 0 (fun q => lo ≤ q)) 137 [(0, .ref (lo + x0)), (2, .int x2), (3, .ref (lo + x3)), (4, .int x4), (5, .int x5)] [] w := by
  obtain ⟨hx, hb, hr, hts, hown, hlk, hml, hK, hN⟩ := id X
  intro H locs ls hH hl
  unfold sh_LT_get_137 at hsh
  refine lv_iinc (v := (x5 + (1 : Int32))) (lv' := [(5, .int (x5 + (1 : Int32))), (0, .ref (lo + x0)), (2, .int x2), (3, .ref (lo + x3)), (4, .int x4)]) hx hb d_LT_get_137 hl (k := 4) rfl rfl (by decide) rfl (fun ls hl => ?_)
  refine lv_goto (tgt := 41) hx hb d_LT_get_140 (by decide) ?_
  exact hk41 x0 x2 x3 x4 (x5 + (1 : Int32)) w hsh H locs ls hH (lv_sub hl [1, 2, 3, 4, 0] rfl)
def sh_LT_get_99 (F : Nat) (k41 : Nat → Int32 → Nat → Int32 → Int32 → im_W → Option (Int32 × im_W)) (x0 : Nat) (x2 : Int32) (x3 : Nat) (x4 : Int32) (x5 : Int32) (w : im_W) : Option (Int32 × im_W) :=
  (im_gR w 8 x0 5).bind fun f1 => (im_is w 4 f1).bind fun u3 => im_b2 (sh_Pairs_formBehind F f1 x3 x4 w) fun v9 w7 => (im_nul v9 ((im_is w7 2 x3).bind fun u11 => im_b2 (sh_Form_truncated F x3 x4 w7) fun v17 w15 => sh_LT_get_137 F k41 x0 x2 x3 v17 x5 w15) fun a10 => (im_is w7 2 a10).bind fun u18 => im_b2 (sh_Form_count F a10 w7) fun v24 w22 => sh_LT_get_137 F k41 x0 x2 a10 v24 x5 w22)
set_option maxHeartbeats 4000000 in
set_option maxRecDepth 100000 in
theorem bk_LT_get_99 {F : Nat} {r : Int32 × im_W} (X : im_X D vwCl tA lo im_NW c_LT_get 8 (some .int) RC_LT im_T p s m args meth c) {k41 : Nat → Int32 → Nat → Int32 → Int32 → im_W → Option (Int32 × im_W)} (hk41 : ∀ (x0 : Nat) (x2 : Int32) (x3 : Nat) (x4 : Int32) (x5 : Int32) (w : im_W), k41 x0 x2 x3 x4 x5 w = some r → im_WW D vwCl tA lo 8 p l e (im_rm 3 67) s m args below meth c 0 0 (MQ below (im_Post D vwCl tA lo (some (.int r.1)) r.2) args s 0 0 (fun q => lo ≤ q)) 41 [(0, .ref (lo + x0)), (2, .int x2), (3, .ref (lo + x3)), (4, .int x4), (5, .int x5)] [] w) (x0 : Nat) (x2 : Int32) (x3 : Nat) (x4 : Int32) (x5 : Int32) (w : im_W) (hsh : sh_LT_get_99 F k41 x0 x2 x3 x4 x5 w = some r) : im_WW D vwCl tA lo 8 p l e (im_rm 3 67) s m args below meth c 0 0 (MQ below (im_Post D vwCl tA lo (some (.int r.1)) r.2) args s 0 0 (fun q => lo ≤ q)) 99 [(0, .ref (lo + x0)), (2, .int x2), (3, .ref (lo + x3)), (4, .int x4), (5, .int x5)] [] w := by
  obtain ⟨hx, hb, hr, hts, hown, hlk, hml, hK, hN⟩ := id X
  intro H locs ls hH hl
  unfold sh_LT_get_99 at hsh
  refine lv_aload_n hx hb d_LT_get_99 rfl (lv_at hl 0 rfl) ?_
  obtain ⟨f1, h2, hsh⟩ := im_bd hsh
  refine im_getR hx hb hts inC_LT hown hK hH (ci := 8) rfl 5 (by decide) (hts _ wd_180) rfl h2 d_LT_get_100 ?_
  refine lv_aload_n hx hb d_LT_get_103 rfl (lv_at hl 2 rfl) ?_
  refine lv_iload hx hb d_LT_get_104 (lv_at hl 3 rfl) ?_
  obtain ⟨u3, h4, hsh⟩ := im_bd hsh
  obtain ⟨g5, h6⟩ := im_is_s h4
  obtain ⟨v9, w7, h8, hsh⟩ := im_bd2 hsh
  refine im_afterQ (va_runV (As := [.ref (lo + x3), .int x4]) (rest := []) (C := RC_Pairs) ⟨hx, hb, hml, hown, hts⟩ (met_Pairs_formBehind h8) ⟨(callB_of 2 hts (im_good wd_474) rfl rfl rfl (hts _ wd_5) (hts _ wd_471) (by decide +kernel) ⟨Nat.le_of_ble_eq_true rfl, Nat.le_of_ble_eq_true rfl⟩), hts _ wd_472, hts _ wd_473⟩ (im_preV im_NW_ok hK hN hH (ci := 4) rfl rfl h6 _) rfl rfl hl.1 rfl (lv_room (Nat.le_of_ble_eq_true rfl)) d_LT_get_106 ⟨Nat.le_of_ble_eq_true rfl, Nat.le_of_ble_eq_true rfl⟩) hH (fun H locs hH => ?_)
  refine im_astoreQ (lv' := [(7, im_rf lo v9), (0, .ref (lo + x0)), (2, .int x2), (3, .ref (lo + x3)), (4, .int x4), (5, .int x5)]) hx hb d_LT_get_109 hl (by decide) rfl (fun ls hl => ?_)
  refine im_aloadQ hx hb d_LT_get_111 (lv_at hl 0 rfl) ?_
  cases v9 with
  | none =>
    have hsh := im_nul_n hsh
    refine lv_ifnonnullN hx hb d_LT_get_113 ?_
    refine lv_aload_n hx hb d_LT_get_116 rfl (lv_at hl 3 rfl) ?_
    refine lv_iload hx hb d_LT_get_117 (lv_at hl 4 rfl) ?_
    obtain ⟨u11, h12, hsh⟩ := im_bd hsh
    obtain ⟨g13, h14⟩ := im_is_s h12
    obtain ⟨v17, w15, h16, hsh⟩ := im_bd2 hsh
    refine im_afterI (va_runV (As := [.int x4]) (rest := []) (C := RC_Form) ⟨hx, hb, hml, hown, hts⟩ (met_Form_truncated h16) ⟨(callB_of 1 hts (im_good wd_580) rfl rfl rfl (hts _ wd_6) (hts _ wd_577) (by decide +kernel) ⟨Nat.le_of_ble_eq_true rfl, Nat.le_of_ble_eq_true rfl⟩), hts _ wd_578, hts _ wd_579⟩ (im_preV im_NW_ok hK hN hH (ci := 2) rfl rfl h14 _) rfl rfl hl.1 rfl (lv_room (Nat.le_of_ble_eq_true rfl)) d_LT_get_119 ⟨Nat.le_of_ble_eq_true rfl, Nat.le_of_ble_eq_true rfl⟩) hH (fun H locs hH => ?_)
    refine lv_istore (lv' := [(4, .int v17), (7, im_rf lo none), (0, .ref (lo + x0)), (2, .int x2), (3, .ref (lo + x3)), (5, .int x5)]) hx hb d_LT_get_122 hl (by decide) rfl (fun ls hl => ?_)
    refine lv_goto (tgt := 137) hx hb d_LT_get_124 (by decide) ?_
    exact bk_LT_get_137 X hk41 x0 x2 x3 v17 x5 w15 hsh H locs ls hH (lv_sub hl [2, 3, 4, 0, 5] rfl)
  | some a10 =>
    have hsh := im_nul_s hsh
    refine lv_ifnonnull hx hb d_LT_get_113 (tgt := 127) (by decide) ?_
    refine lv_aload hx hb d_LT_get_127 (lv_at hl 0 rfl) ?_
    refine lv_astore_n (lv' := [(3, .ref (lo + a10)), (7, .ref (lo + a10)), (0, .ref (lo + x0)), (2, .int x2), (4, .int x4), (5, .int x5)]) hx hb d_LT_get_129 rfl hl (by decide) rfl (fun ls hl => ?_)
    refine lv_aload hx hb d_LT_get_130 (lv_at hl 1 rfl) ?_
    obtain ⟨u18, h19, hsh⟩ := im_bd hsh
    obtain ⟨g20, h21⟩ := im_is_s h19
    obtain ⟨v24, w22, h23, hsh⟩ := im_bd2 hsh
    refine im_afterI (va_runV (As := []) (rest := []) (C := RC_Form) ⟨hx, hb, hml, hown, hts⟩ (met_Form_count h23) ⟨(callB_of 0 hts (im_good wd_425) rfl rfl rfl (hts _ wd_6) (hts _ wd_422) (by decide +kernel) ⟨Nat.le_of_ble_eq_true rfl, Nat.le_of_ble_eq_true rfl⟩), hts _ wd_423, hts _ wd_424⟩ (im_preV im_NW_ok hK hN hH (ci := 2) rfl rfl h21 _) rfl rfl hl.1 rfl (lv_room (Nat.le_of_ble_eq_true rfl)) d_LT_get_132 ⟨Nat.le_of_ble_eq_true rfl, Nat.le_of_ble_eq_true rfl⟩) hH (fun H locs hH => ?_)
    refine lv_istore (lv' := [(4, .int v24), (3, .ref (lo + a10)), (7, .ref (lo + a10)), (0, .ref (lo + x0)), (2, .int x2), (5, .int x5)]) hx hb d_LT_get_135 hl (by decide) rfl (fun ls hl => ?_)
    exact bk_LT_get_137 X hk41 x0 x2 a10 v24 x5 w22 hsh H locs ls hH (lv_sub hl [3, 4, 1, 0, 5] rfl)
def sh_LT_get_143 (F : Nat)  (w : im_W) : Option (Int32 × im_W) :=
  some ((0 : Int32), w)
set_option maxHeartbeats 4000000 in
set_option maxRecDepth 100000 in
theorem bk_LT_get_143 {F : Nat} {r : Int32 × im_W} (X : im_X D vwCl tA lo im_NW c_LT_get 8 (some .int) RC_LT im_T p s m args meth c)  (w : im_W) (hsh : sh_LT_get_143 F w = some r) : im_WW D vwCl tA lo 8 p l e (im_rm 3 67) s m args below meth c 0 0 (MQ below (im_Post D vwCl tA lo (some (.int r.1)) r.2) args s 0 0 (fun q => lo ≤ q)) 143 [] [] w := by
  obtain ⟨hx, hb, hr, hts, hown, hlk, hml, hK, hN⟩ := id X
  intro H locs ls hH hl
  unfold sh_LT_get_143 at hsh
  refine lv_iconst (v := 0) hx hb d_LT_get_143 (by decide) ?_
  obtain rfl := Option.some.inj hsh
  exact im_iret hx hb hr hlk hH d_LT_get_144
def sh_LT_get_41 (F : Nat) : Nat → Nat → Int32 → Nat → Int32 → Int32 → im_W → Option (Int32 × im_W)
  | 0, _, _, _, _, _, _ => none
  | f + 1, x0, x2, x3, x4, x5, w => (if (12 : Int32) < x5 then sh_LT_get_143 F w else (if x4 ≤ 0 then sh_LT_get_143 F w else (im_is w 8 x0).bind fun u1 => im_b2 (sh_LT_tagWithForm F x0 x3 x4 w) fun v7 w5 => (if v7 < 0 then sh_LT_get_99 F (sh_LT_get_41 F f) x0 x2 x3 x4 x5 w5 else (im_gR w5 8 x0 7).bind fun f8 => (im_lR w5 4 f8 v7).bind fun e10 => (im_is w5 6 e10).bind fun u12 => im_b2 (sh_Tag_hasValue F e10 x2 w5) fun v18 w16 => (if v18 = 0 then sh_LT_get_99 F (sh_LT_get_41 F f) x0 x2 x3 x4 x5 w16 else (im_pV w16 8 x0 15 (.int x5)).bind fun w19 => (im_gR w19 8 x0 7).bind fun f21 => (im_lR w19 4 f21 v7).bind fun e23 => (im_is w19 6 e23).bind fun u25 => im_b2 (sh_Tag_valueOf F e23 x2 w19) fun v31 w29 => some (v31, w29)))))
set_option maxHeartbeats 4000000 in
set_option maxRecDepth 100000 in
theorem bk_LT_get_41 {F : Nat} {r : Int32 × im_W} (X : im_X D vwCl tA lo im_NW c_LT_get 8 (some .int) RC_LT im_T p s m args meth c) : ∀ (f : Nat) (x0 : Nat) (x2 : Int32) (x3 : Nat) (x4 : Int32) (x5 : Int32) (w : im_W), sh_LT_get_41 F f x0 x2 x3 x4 x5 w = some r → im_WW D vwCl tA lo 8 p l e (im_rm 3 67) s m args below meth c 0 0 (MQ below (im_Post D vwCl tA lo (some (.int r.1)) r.2) args s 0 0 (fun q => lo ≤ q)) 41 [(0, .ref (lo + x0)), (2, .int x2), (3, .ref (lo + x3)), (4, .int x4), (5, .int x5)] [] w := by
  obtain ⟨hx, hb, hr, hts, hown, hlk, hml, hK, hN⟩ := id X
  intro f
  induction f with
  | zero =>
    intro x0 x2 x3 x4 x5 w hsh
    cases hsh
  | succ f ih =>
    intro x0 x2 x3 x4 x5 w hsh H locs ls hH hl
    unfold sh_LT_get_41 at hsh
    refine lv_iload hx hb d_LT_get_41 (lv_at hl 4 rfl) ?_
    refine lv_bipush (v := 12) hx hb d_LT_get_43 (by decide) ?_
    refine lv_icmp_gt (tgt := 143) hx hb d_LT_get_45 (by decide) (fun cc => ?_) (fun cc => ?_)
    · have hsh := im_it hsh cc
      exact bk_LT_get_143 X w hsh H locs ls hH (lv_sub hl [] rfl)
    · have hsh := im_if hsh cc
      refine lv_iload hx hb d_LT_get_48 (lv_at hl 3 rfl) ?_
      refine lv_if_le (tgt := 143) hx hb d_LT_get_50 (by decide) (fun cc => ?_) (fun cc => ?_)
      · have hsh := im_it hsh cc
        exact bk_LT_get_143 X w hsh H locs ls hH (lv_sub hl [] rfl)
      · have hsh := im_if hsh cc
        refine lv_aload_n hx hb d_LT_get_53 rfl (lv_at hl 0 rfl) ?_
        refine lv_aload_n hx hb d_LT_get_54 rfl (lv_at hl 2 rfl) ?_
        refine lv_iload hx hb d_LT_get_55 (lv_at hl 3 rfl) ?_
        obtain ⟨u1, h2, hsh⟩ := im_bd hsh
        obtain ⟨g3, h4⟩ := im_is_s h2
        obtain ⟨v7, w5, h6, hsh⟩ := im_bd2 hsh
        refine im_afterI (va_runV (As := [.ref (lo + x3), .int x4]) (rest := []) (C := RC_LT) ⟨hx, hb, hml, hown, hts⟩ (met_LT_tagWithForm h6) ⟨(callB_of 2 hts (im_good wd_429) rfl rfl rfl (hts _ wd_1) (hts _ wd_426) (by decide +kernel) ⟨Nat.le_of_ble_eq_true rfl, Nat.le_of_ble_eq_true rfl⟩), hts _ wd_428, hts _ sl_LT_tagWithForm⟩ (im_preV im_NW_ok hK hN hH (ci := 8) rfl rfl h4 _) rfl rfl hl.1 rfl (lv_room (Nat.le_of_ble_eq_true rfl)) d_LT_get_57 ⟨Nat.le_of_ble_eq_true rfl, Nat.le_of_ble_eq_true rfl⟩) hH (fun H locs hH => ?_)
        refine lv_istore (lv' := [(6, .int v7), (0, .ref (lo + x0)), (2, .int x2), (3, .ref (lo + x3)), (4, .int x4), (5, .int x5)]) hx hb d_LT_get_60 hl (by decide) rfl (fun ls hl => ?_)
        refine lv_iload hx hb d_LT_get_62 (lv_at hl 0 rfl) ?_
        refine lv_if_lt (tgt := 99) hx hb d_LT_get_64 (by decide) (fun cc => ?_) (fun cc => ?_)
        · have hsh := im_it hsh cc
          exact bk_LT_get_99 X ih x0 x2 x3 x4 x5 w5 hsh H locs ls hH (lv_sub hl [1, 2, 3, 4, 5] rfl)
        · have hsh := im_if hsh cc
          refine lv_aload_n hx hb d_LT_get_67 rfl (lv_at hl 1 rfl) ?_
          obtain ⟨f8, h9, hsh⟩ := im_bd hsh
          refine im_getR hx hb hts inC_LT hown hK hH (ci := 8) rfl 7 (by decide) (hts _ wd_182) rfl h9 d_LT_get_68 ?_
          refine lv_iload hx hb d_LT_get_71 (lv_at hl 0 rfl) ?_
          obtain ⟨e10, h11, hsh⟩ := im_bd hsh
          refine im_aald4 hx hb hK hH h11 d_LT_get_73 ?_
          refine lv_iload_n hx hb d_LT_get_74 rfl (lv_at hl 2 rfl) ?_
          obtain ⟨u12, h13, hsh⟩ := im_bd hsh
          obtain ⟨g14, h15⟩ := im_is_s h13
          obtain ⟨v18, w16, h17, hsh⟩ := im_bd2 hsh
          refine im_afterI (va_runV (As := [.int x2]) (rest := []) (C := RC_Tag) ⟨hx, hb, hml, hown, hts⟩ (met_Tag_hasValue h17) ⟨(callB_of 1 hts (im_good wd_616) rfl rfl rfl (hts _ wd_9) (hts _ wd_613) (by decide +kernel) ⟨Nat.le_of_ble_eq_true rfl, Nat.le_of_ble_eq_true rfl⟩), hts _ wd_614, hts _ wd_615⟩ (im_preV im_NW_ok hK hN hH (ci := 6) rfl rfl h15 _) rfl rfl hl.1 rfl (lv_room (Nat.le_of_ble_eq_true rfl)) d_LT_get_75 ⟨Nat.le_of_ble_eq_true rfl, Nat.le_of_ble_eq_true rfl⟩) hH (fun H locs hH => ?_)
          refine lv_if_eq (tgt := 99) hx hb d_LT_get_78 (by decide) (fun cc => ?_) (fun cc => ?_)
          · have hsh := im_it hsh cc
            exact bk_LT_get_99 X ih x0 x2 x3 x4 x5 w16 hsh H locs ls hH (lv_sub hl [1, 2, 3, 4, 5] rfl)
          · have hsh := im_if hsh cc
            refine lv_aload_n hx hb d_LT_get_81 rfl (lv_at hl 1 rfl) ?_
            refine lv_iload hx hb d_LT_get_82 (lv_at hl 5 rfl) ?_
            obtain ⟨w19, h20, hsh⟩ := im_bd hsh
            refine im_put (v := .int x5) hx hb hts inC_LT tyC_LT tyC_LT_ok nmC_LT hown hK hH (ci := 8) rfl 15 (by decide) (hts _ wd_190) rfl rfl rfl rfl h20 d_LT_get_84 (fun H locs hH => ?_)
            refine lv_aload_n hx hb d_LT_get_87 rfl (lv_at hl 1 rfl) ?_
            obtain ⟨f21, h22, hsh⟩ := im_bd hsh
            refine im_getR hx hb hts inC_LT hown hK hH (ci := 8) rfl 7 (by decide) (hts _ wd_182) rfl h22 d_LT_get_88 ?_
            refine lv_iload hx hb d_LT_get_91 (lv_at hl 0 rfl) ?_
            obtain ⟨e23, h24, hsh⟩ := im_bd hsh
            refine im_aald4 hx hb hK hH h24 d_LT_get_93 ?_
            refine lv_iload_n hx hb d_LT_get_94 rfl (lv_at hl 2 rfl) ?_
            obtain ⟨u25, h26, hsh⟩ := im_bd hsh
            obtain ⟨g27, h28⟩ := im_is_s h26
            obtain ⟨v31, w29, h30, hsh⟩ := im_bd2 hsh
            refine im_afterI (va_runV (As := [.int x2]) (rest := []) (C := RC_Tag) ⟨hx, hb, hml, hown, hts⟩ (met_Tag_valueOf h30) ⟨(callB_of 1 hts (im_good wd_620) rfl rfl rfl (hts _ wd_9) (hts _ wd_617) (by decide +kernel) ⟨Nat.le_of_ble_eq_true rfl, Nat.le_of_ble_eq_true rfl⟩), hts _ wd_618, hts _ wd_619⟩ (im_preV im_NW_ok hK hN hH (ci := 6) rfl rfl h28 _) rfl rfl hl.1 rfl (lv_room (Nat.le_of_ble_eq_true rfl)) d_LT_get_95 ⟨Nat.le_of_ble_eq_true rfl, Nat.le_of_ble_eq_true rfl⟩) hH (fun H locs hH => ?_)
            obtain rfl := Option.some.inj hsh
            exact im_iret hx hb hr hlk hH d_LT_get_98
def sh_LT_get (F : Nat) (x0 : Nat) (x1 : Int32) (x2 : Int32) (w : im_W) : Option (Int32 × im_W) :=
  (im_pV w 8 x0 15 (.int (0 : Int32))).bind fun w1 => (im_is w1 8 x0).bind fun u3 => im_b2 (sh_LT_isTag F x0 x1 w1) fun v9 w7 => (if v9 = 0 then sh_LT_get_20 F w7 else im_b2 (sh_LT_isKey F x2 w7) fun v12 w10 => (if v12 = 0 then sh_LT_get_20 F w10 else (im_gR w10 8 x0 7).bind fun f13 => (im_lR w10 4 f13 x1).bind fun e15 => (im_gR w10 6 e15 0).bind fun f17 => (im_is w10 2 f17).bind fun u19 => im_b2 (sh_Form_count F f17 w10) fun v25 w23 => sh_LT_get_41 F F x0 x2 f17 v25 (1 : Int32) w23))
set_option maxHeartbeats 4000000 in
set_option maxRecDepth 100000 in
theorem met_LT_get {F : Nat} {x0 : Nat} {x1 : Int32} {x2 : Int32} {w : im_W} {r : Int32 × im_W} (hsh : sh_LT_get F x0 x1 x2 w = some r) : Met l y_LT_get (Cond.code y_LT_get c_LT_get 8 (some .int) :: im_T) (im_rm 3 67) (im_Pre D vwCl tA lo im_NW [.ref (lo + x0), .int x1, .int x2] w) (im_Post D vwCl tA lo (some (.int r.1)) r.2) 0 0 (fun q => lo ≤ q) := by
  refine im_ofW (cc := c_LT_get) (nL := 8) (ret := (some .int)) (by decide) (Nat.le_of_ble_eq_true rfl) ?_
  intro p e s m args below meth c X H locs ls hH hl
  obtain ⟨hx, hb, hr, hts, hown, hlk, hml, hK, hN⟩ := id X
  have hl : lv_has ls 8 [(0, .ref (lo + x0)), (1, .int x1), (2, .int x2)] := hl
  unfold sh_LT_get at hsh
  refine lv_aload_n hx hb d_LT_get_0 rfl (lv_at hl 0 rfl) ?_
  refine lv_iconst (v := 0) hx hb d_LT_get_1 (by decide) ?_
  obtain ⟨w1, h2, hsh⟩ := im_bd hsh
  refine im_put (v := .int (0 : Int32)) hx hb hts inC_LT tyC_LT tyC_LT_ok nmC_LT hown hK hH (ci := 8) rfl 15 (by decide) (hts _ wd_190) rfl rfl rfl rfl h2 d_LT_get_2 (fun H locs hH => ?_)
  refine lv_aload_n hx hb d_LT_get_5 rfl (lv_at hl 0 rfl) ?_
  refine lv_iload_n hx hb d_LT_get_6 rfl (lv_at hl 1 rfl) ?_
  obtain ⟨u3, h4, hsh⟩ := im_bd hsh
  obtain ⟨g5, h6⟩ := im_is_s h4
  obtain ⟨v9, w7, h8, hsh⟩ := im_bd2 hsh
  refine im_afterI (va_runV (As := [.int x1]) (rest := []) (C := RC_LT) ⟨hx, hb, hml, hown, hts⟩ (met_LT_isTag h8) ⟨(callB_of 1 hts (im_good wd_489) rfl rfl rfl (hts _ wd_1) (hts _ wd_486) (by decide +kernel) ⟨Nat.le_of_ble_eq_true rfl, Nat.le_of_ble_eq_true rfl⟩), hts _ wd_488, hts _ sl_LT_isTag⟩ (im_preV im_NW_ok hK hN hH (ci := 8) rfl rfl h6 _) rfl rfl hl.1 rfl (lv_room (Nat.le_of_ble_eq_true rfl)) d_LT_get_7 ⟨Nat.le_of_ble_eq_true rfl, Nat.le_of_ble_eq_true rfl⟩) hH (fun H locs hH => ?_)
  refine lv_if_eq (tgt := 20) hx hb d_LT_get_10 (by decide) (fun cc => ?_) (fun cc => ?_)
  · have hsh := im_it hsh cc
    exact bk_LT_get_20 X w7 hsh H locs ls hH (lv_sub hl [] rfl)
  · have hsh := im_if hsh cc
    refine lv_iload_n hx hb d_LT_get_13 rfl (lv_at hl 2 rfl) ?_
    obtain ⟨v12, w10, h11, hsh⟩ := im_bd2 hsh
    refine im_afterI (va_runS (As := [.int x2]) (rest := []) ⟨hx, hb, hml, hown, hts⟩ (met_LT_isKey h11) ⟨(callB_of 1 hts (im_good wd_603) rfl rfl rfl (hts _ wd_1) (hts _ wd_601) (by decide +kernel) ⟨Nat.le_of_ble_eq_true rfl, Nat.le_of_ble_eq_true rfl⟩), hts _ wd_602⟩ (im_pre im_NW_ok hK hN hH _) rfl rfl hl.1 rfl (lv_room (Nat.le_of_ble_eq_true rfl)) d_LT_get_14 ⟨Nat.le_of_ble_eq_true rfl, Nat.le_of_ble_eq_true rfl⟩) hH (fun H locs hH => ?_)
    refine lv_if_ne (tgt := 22) hx hb d_LT_get_17 (by decide) (fun cc => ?_) (fun cc => ?_)
    · have hsh := im_if hsh cc
      refine lv_aload_n hx hb d_LT_get_22 rfl (lv_at hl 0 rfl) ?_
      obtain ⟨f13, h14, hsh⟩ := im_bd hsh
      refine im_getR hx hb hts inC_LT hown hK hH (ci := 8) rfl 7 (by decide) (hts _ wd_182) rfl h14 d_LT_get_23 ?_
      refine lv_iload_n hx hb d_LT_get_26 rfl (lv_at hl 1 rfl) ?_
      obtain ⟨e15, h16, hsh⟩ := im_bd hsh
      refine im_aald4 hx hb hK hH h16 d_LT_get_27 ?_
      obtain ⟨f17, h18, hsh⟩ := im_bd hsh
      refine im_getNR hx hb hts inC_Tag hown hK hH (ci := 6) rfl 0 (by decide) (hN _ nw_157) rfl h18 d_LT_get_28 ?_
      refine lv_astore_n (lv' := [(3, .ref (lo + f17)), (0, .ref (lo + x0)), (1, .int x1), (2, .int x2)]) hx hb d_LT_get_31 rfl hl (by decide) rfl (fun ls hl => ?_)
      refine lv_aload_n hx hb d_LT_get_32 rfl (lv_at hl 0 rfl) ?_
      obtain ⟨u19, h20, hsh⟩ := im_bd hsh
      obtain ⟨g21, h22⟩ := im_is_s h20
      obtain ⟨v25, w23, h24, hsh⟩ := im_bd2 hsh
      refine im_afterI (va_runV (As := []) (rest := []) (C := RC_Form) ⟨hx, hb, hml, hown, hts⟩ (met_Form_count h24) ⟨(callB_of 0 hts (im_good wd_425) rfl rfl rfl (hts _ wd_6) (hts _ wd_422) (by decide +kernel) ⟨Nat.le_of_ble_eq_true rfl, Nat.le_of_ble_eq_true rfl⟩), hts _ wd_423, hts _ wd_424⟩ (im_preV im_NW_ok hK hN hH (ci := 2) rfl rfl h22 _) rfl rfl hl.1 rfl (lv_room (Nat.le_of_ble_eq_true rfl)) d_LT_get_33 ⟨Nat.le_of_ble_eq_true rfl, Nat.le_of_ble_eq_true rfl⟩) hH (fun H locs hH => ?_)
      refine lv_istore (lv' := [(4, .int v25), (3, .ref (lo + f17)), (0, .ref (lo + x0)), (1, .int x1), (2, .int x2)]) hx hb d_LT_get_36 hl (by decide) rfl (fun ls hl => ?_)
      refine lv_iconst (v := 1) hx hb d_LT_get_38 (by decide) ?_
      refine lv_istore (lv' := [(5, .int (1 : Int32)), (4, .int v25), (3, .ref (lo + f17)), (0, .ref (lo + x0)), (1, .int x1), (2, .int x2)]) hx hb d_LT_get_39 hl (by decide) rfl (fun ls hl => ?_)
      exact bk_LT_get_41 X F x0 x2 f17 v25 (1 : Int32) w23 hsh H locs ls hH (lv_sub hl [3, 5, 2, 1, 0] rfl)
    · have hsh := im_it hsh cc
      exact bk_LT_get_20 X w10 hsh H locs ls hH (lv_sub hl [] rfl)
theorem d_LT_found_0 : decode c_LT_found 0 = .ok (.aload_n 0, 1) := by decide +kernel
theorem d_LT_found_1 : decode c_LT_found 1 = .ok (.getfield 92, 3) := by decide +kernel
theorem d_LT_found_4 : decode c_LT_found 4 = .ok (.ireturn, 1) := by decide +kernel
def sh_LT_found (F : Nat) (x0 : Nat) (w : im_W) : Option (Int32 × im_W) :=
  (im_gI w 8 x0 15).bind fun f1 => some (f1, w)
set_option maxHeartbeats 4000000 in
set_option maxRecDepth 100000 in
theorem met_LT_found {F : Nat} {x0 : Nat} {w : im_W} {r : Int32 × im_W} (hsh : sh_LT_found F x0 w = some r) : Met l y_LT_found (Cond.code y_LT_found c_LT_found 1 (some .int) :: im_T) (im_rm 0 0) (im_Pre D vwCl tA lo im_NW [.ref (lo + x0)] w) (im_Post D vwCl tA lo (some (.int r.1)) r.2) 0 0 (fun q => lo ≤ q) := by
  refine im_ofW (cc := c_LT_found) (nL := 1) (ret := (some .int)) (by decide) (Nat.le_of_ble_eq_true rfl) ?_
  intro p e s m args below meth c X H locs ls hH hl
  obtain ⟨hx, hb, hr, hts, hown, hlk, hml, hK, hN⟩ := id X
  have hl : lv_has ls 1 [(0, .ref (lo + x0))] := hl
  unfold sh_LT_found at hsh
  refine lv_aload_n hx hb d_LT_found_0 rfl (lv_at hl 0 rfl) ?_
  obtain ⟨f1, h2, hsh⟩ := im_bd hsh
  refine im_getI hx hb hts inC_LT hown hK hH (ci := 8) rfl 15 (by decide) (hts _ wd_190) rfl h2 d_LT_found_1 ?_
  obtain rfl := Option.some.inj hsh
  exact im_iret hx hb hr hlk hH d_LT_found_4
end GEN
