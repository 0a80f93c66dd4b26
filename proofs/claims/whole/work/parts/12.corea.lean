section GEN
variable {l : Launch} {D : va_G} {tA : Nat → ClassId} {lo : Nat} {p : Program} {e : Env} {s : State} {m : MethodId} {args : Array Value} {below : List Frame} {meth : Method} {c : Code}
theorem wd_61 : (Jvm.Cond.fieldLink "LanguageTags$Aliases" (22 : Nat) "LanguageTags$Aliases" "count" "I") ∈ im_T := im_memT (i := 61) (by decide +kernel) (by decide +kernel)
theorem d_Aliases_count_0 : decode c_Aliases_count 0 = .ok (.aload_n 0, 1) := by decide +kernel
theorem d_Aliases_count_1 : decode c_Aliases_count 1 = .ok (.getfield 22, 3) := by decide +kernel
theorem d_Aliases_count_4 : decode c_Aliases_count 4 = .ok (.ireturn, 1) := by decide +kernel
def sh_Aliases_count (F : Nat) (x0 : Nat) (w : im_W) : Option (Int32 × im_W) :=
  (im_gI w 0 x0 3).bind fun f1 => some (f1, w)
set_option maxHeartbeats 4000000 in
set_option maxRecDepth 100000 in
theorem met_Aliases_count {F : Nat} {x0 : Nat} {w : im_W} {r : Int32 × im_W} (hsh : sh_Aliases_count F x0 w = some r) : Met l y_Aliases_count (Cond.code y_Aliases_count c_Aliases_count 1 (some .int) :: im_T) (im_rm 0 0) (im_Pre D vwCl tA lo im_NW [.ref (lo + x0)] w) (im_Post D vwCl tA lo (some (.int r.1)) r.2) 0 0 (fun q => lo ≤ q) := by
  refine im_ofW (cc := c_Aliases_count) (nL := 1) (ret := (some .int)) (by decide) (Nat.le_of_ble_eq_true rfl) ?_
  intro p e s m args below meth c X H locs ls hH hl
  obtain ⟨hx, hb, hr, hts, hown, hlk, hml, hK, hN⟩ := id X
  have hl : lv_has ls 1 [(0, .ref (lo + x0))] := hl
  unfold sh_Aliases_count at hsh
  refine lv_aload_n hx hb d_Aliases_count_0 rfl (lv_at hl 0 rfl) ?_
  obtain ⟨f1, h2, hsh⟩ := im_bd hsh
  refine im_getI hx hb hts inC_Aliases hown hK hH (ci := 0) rfl 3 (by decide) (hts _ wd_61) rfl h2 d_Aliases_count_1 ?_
  obtain rfl := Option.some.inj hsh
  exact im_iret hx hb hr hlk hH d_Aliases_count_4
theorem d_Aliases_isFull_0 : decode c_Aliases_isFull 0 = .ok (.aload_n 0, 1) := by decide +kernel
theorem d_Aliases_isFull_1 : decode c_Aliases_isFull 1 = .ok (.getfield 22, 3) := by decide +kernel
theorem d_Aliases_isFull_4 : decode c_Aliases_isFull 4 = .ok (.bipush (8), 2) := by decide +kernel
theorem d_Aliases_isFull_6 : decode c_Aliases_isFull 6 = .ok (.if_icmp .lt (7), 3) := by decide +kernel
theorem d_Aliases_isFull_9 : decode c_Aliases_isFull 9 = .ok (.iconst 1, 1) := by decide +kernel
theorem d_Aliases_isFull_10 : decode c_Aliases_isFull 10 = .ok (.goto (4), 3) := by decide +kernel
theorem d_Aliases_isFull_13 : decode c_Aliases_isFull 13 = .ok (.iconst 0, 1) := by decide +kernel
theorem d_Aliases_isFull_14 : decode c_Aliases_isFull 14 = .ok (.ireturn, 1) := by decide +kernel
def sh_Aliases_isFull_14 (F : Nat) (y0 : Int32) (w : im_W) : Option (Int32 × im_W) :=
  im_rz y0 w
set_option maxHeartbeats 4000000 in
set_option maxRecDepth 100000 in
theorem bk_Aliases_isFull_14 {F : Nat} {r : Int32 × im_W} (X : im_X D vwCl tA lo im_NW c_Aliases_isFull 1 (some .boolean) RC_Aliases im_T p s m args meth c) (y0 : Int32) (w : im_W) (hsh : sh_Aliases_isFull_14 F y0 w = some r) : im_WW D vwCl tA lo 1 p l e (im_rm 0 0) s m args below meth c 0 0 (MQ below (im_Post D vwCl tA lo (some (.int r.1)) r.2) args s 0 0 (fun q => lo ≤ q)) 14 [] [.int y0] w := by
  obtain ⟨hx, hb, hr, hts, hown, hlk, hml, hK, hN⟩ := id X
  intro H locs ls hH hl
  unfold sh_Aliases_isFull_14 at hsh
  obtain ⟨rfl, hn⟩ := im_rz_s hsh
  exact im_zret hx hb hr hlk hn hH d_Aliases_isFull_14
def sh_Aliases_isFull (F : Nat) (x0 : Nat) (w : im_W) : Option (Int32 × im_W) :=
  (im_gI w 0 x0 3).bind fun f1 => (if f1 < (8 : Int32) then sh_Aliases_isFull_14 F (0 : Int32) w else sh_Aliases_isFull_14 F (1 : Int32) w)
set_option maxHeartbeats 4000000 in
set_option maxRecDepth 100000 in
theorem met_Aliases_isFull {F : Nat} {x0 : Nat} {w : im_W} {r : Int32 × im_W} (hsh : sh_Aliases_isFull F x0 w = some r) : Met l y_Aliases_isFull (Cond.code y_Aliases_isFull c_Aliases_isFull 1 (some .boolean) :: im_T) (im_rm 0 0) (im_Pre D vwCl tA lo im_NW [.ref (lo + x0)] w) (im_Post D vwCl tA lo (some (.int r.1)) r.2) 0 0 (fun q => lo ≤ q) := by
  refine im_ofW (cc := c_Aliases_isFull) (nL := 1) (ret := (some .boolean)) (by decide) (Nat.le_of_ble_eq_true rfl) ?_
  intro p e s m args below meth c X H locs ls hH hl
  obtain ⟨hx, hb, hr, hts, hown, hlk, hml, hK, hN⟩ := id X
  have hl : lv_has ls 1 [(0, .ref (lo + x0))] := hl
  unfold sh_Aliases_isFull at hsh
  refine lv_aload_n hx hb d_Aliases_isFull_0 rfl (lv_at hl 0 rfl) ?_
  obtain ⟨f1, h2, hsh⟩ := im_bd hsh
  refine im_getI hx hb hts inC_Aliases hown hK hH (ci := 0) rfl 3 (by decide) (hts _ wd_61) rfl h2 d_Aliases_isFull_1 ?_
  refine lv_bipush (v := 8) hx hb d_Aliases_isFull_4 (by decide) ?_
  refine lv_icmp_lt (tgt := 13) hx hb d_Aliases_isFull_6 (by decide) (fun cc => ?_) (fun cc => ?_)
  · have hsh := im_it hsh cc
    refine lv_iconst (v := 0) hx hb d_Aliases_isFull_13 (by decide) ?_
    exact bk_Aliases_isFull_14 X (0 : Int32) w hsh H locs ls hH (lv_sub hl [] rfl)
  · have hsh := im_if hsh cc
    refine lv_iconst (v := 1) hx hb d_Aliases_isFull_9 (by decide) ?_
    refine lv_goto (tgt := 14) hx hb d_Aliases_isFull_10 (by decide) ?_
    exact bk_Aliases_isFull_14 X (1 : Int32) w hsh H locs ls hH (lv_sub hl [] rfl)
theorem wd_4 : (Jvm.Cond.initialized "LanguageTags$Aliases") ∈ im_T := im_memT (i := 4) (by decide +kernel) (by decide +kernel)
theorem wd_58 : (Jvm.Cond.fieldLink "LanguageTags$Aliases" (9 : Nat) "LanguageTags$Aliases" "firsts" "[J") ∈ im_T := im_memT (i := 58) (by decide +kernel) (by decide +kernel)
theorem wd_59 : (Jvm.Cond.fieldLink "LanguageTags$Aliases" (15 : Nat) "LanguageTags$Aliases" "seconds" "[J") ∈ im_T := im_memT (i := 59) (by decide +kernel) (by decide +kernel)
theorem wd_60 : (Jvm.Cond.fieldLink "LanguageTags$Aliases" (18 : Nat) "LanguageTags$Aliases" "ofRegions" "[Z") ∈ im_T := im_memT (i := 60) (by decide +kernel) (by decide +kernel)
theorem wd_303 : (Jvm.Cond.instanceMethod ({ cls := "LanguageTags$Aliases", name := "isFull", desc := "()Z" } : Jvm.MethodName)) ∈ im_T := im_memT (i := 303) (by decide +kernel) (by decide +kernel)
theorem wd_304 : (Jvm.Cond.selects "LanguageTags$Aliases" ({ cls := "LanguageTags$Aliases", name := "isFull", desc := "()Z" } : Jvm.MethodName) ({ cls := "LanguageTags$Aliases", name := "isFull", desc := "()Z" } : Jvm.MethodName)) ∈ im_T := im_memT (i := 304) (by decide +kernel) (by decide +kernel)
theorem wd_305 : (Jvm.Cond.code ({ cls := "LanguageTags$Aliases", name := "isFull", desc := "()Z" } : Jvm.MethodName) prog_2_method_3_code (1 : Nat) (Option.some Jvm.ClassFile.FieldType.boolean)) ∈ im_T := im_memT (i := 305) (by decide +kernel) (by decide +kernel)
theorem wd_319 : (Jvm.Cond.methodLink "LanguageTags$Aliases" (26 : Nat) ({ cls := "LanguageTags$Aliases", name := "isFull", desc := "()Z" } : Jvm.MethodName)) ∈ im_T := im_memT (i := 319) (by decide +kernel) (by decide +kernel)
theorem d_Aliases_append_0 : decode c_Aliases_append 0 = .ok (.aload_n 0, 1) := by decide +kernel
theorem d_Aliases_append_1 : decode c_Aliases_append 1 = .ok (.invokevirtual 26, 3) := by decide +kernel
theorem d_Aliases_append_4 : decode c_Aliases_append 4 = .ok (.ifCond .ne (44), 3) := by decide +kernel
theorem d_Aliases_append_7 : decode c_Aliases_append 7 = .ok (.aload_n 0, 1) := by decide +kernel
theorem d_Aliases_append_8 : decode c_Aliases_append 8 = .ok (.getfield 9, 3) := by decide +kernel
theorem d_Aliases_append_11 : decode c_Aliases_append 11 = .ok (.aload_n 0, 1) := by decide +kernel
theorem d_Aliases_append_12 : decode c_Aliases_append 12 = .ok (.getfield 22, 3) := by decide +kernel
theorem d_Aliases_append_15 : decode c_Aliases_append 15 = .ok (.lload_n 1, 1) := by decide +kernel
theorem d_Aliases_append_16 : decode c_Aliases_append 16 = .ok (.lastore, 1) := by decide +kernel
theorem d_Aliases_append_17 : decode c_Aliases_append 17 = .ok (.aload_n 0, 1) := by decide +kernel
theorem d_Aliases_append_18 : decode c_Aliases_append 18 = .ok (.getfield 15, 3) := by decide +kernel
theorem d_Aliases_append_21 : decode c_Aliases_append 21 = .ok (.aload_n 0, 1) := by decide +kernel
theorem d_Aliases_append_22 : decode c_Aliases_append 22 = .ok (.getfield 22, 3) := by decide +kernel
theorem d_Aliases_append_25 : decode c_Aliases_append 25 = .ok (.lload_n 3, 1) := by decide +kernel
theorem d_Aliases_append_26 : decode c_Aliases_append 26 = .ok (.lastore, 1) := by decide +kernel
theorem d_Aliases_append_27 : decode c_Aliases_append 27 = .ok (.aload_n 0, 1) := by decide +kernel
theorem d_Aliases_append_28 : decode c_Aliases_append 28 = .ok (.getfield 18, 3) := by decide +kernel
theorem d_Aliases_append_31 : decode c_Aliases_append 31 = .ok (.aload_n 0, 1) := by decide +kernel
theorem d_Aliases_append_32 : decode c_Aliases_append 32 = .ok (.getfield 22, 3) := by decide +kernel
theorem d_Aliases_append_35 : decode c_Aliases_append 35 = .ok (.iload 5, 2) := by decide +kernel
theorem d_Aliases_append_37 : decode c_Aliases_append 37 = .ok (.bastore, 1) := by decide +kernel
theorem d_Aliases_append_38 : decode c_Aliases_append 38 = .ok (.aload_n 0, 1) := by decide +kernel
theorem d_Aliases_append_39 : decode c_Aliases_append 39 = .ok (.dup, 1) := by decide +kernel
theorem d_Aliases_append_40 : decode c_Aliases_append 40 = .ok (.getfield 22, 3) := by decide +kernel
theorem d_Aliases_append_43 : decode c_Aliases_append 43 = .ok (.iconst 1, 1) := by decide +kernel
theorem d_Aliases_append_44 : decode c_Aliases_append 44 = .ok (.iadd, 1) := by decide +kernel
theorem d_Aliases_append_45 : decode c_Aliases_append 45 = .ok (.putfield 22, 3) := by decide +kernel
theorem d_Aliases_append_48 : decode c_Aliases_append 48 = .ok (.return_, 1) := by decide +kernel
def sh_Aliases_append_48 (F : Nat)  (w : im_W) : Option (im_W) :=
  some w
set_option maxHeartbeats 4000000 in
set_option maxRecDepth 100000 in
theorem bk_Aliases_append_48 {F : Nat} {r : im_W} (X : im_X D vwCl tA lo im_NW c_Aliases_append 6 none RC_Aliases im_T p s m args meth c)  (w : im_W) (hsh : sh_Aliases_append_48 F w = some r) : im_WW D vwCl tA lo 6 p l e (im_rm 1 20) s m args below meth c 0 0 (MQ below (im_Post D vwCl tA lo none r) args s 0 0 (fun q => lo ≤ q)) 48 [] [] w := by
  obtain ⟨hx, hb, hr, hts, hown, hlk, hml, hK, hN⟩ := id X
  intro H locs ls hH hl
  unfold sh_Aliases_append_48 at hsh
  obtain rfl := Option.some.inj hsh
  exact im_vret hx hb hr hlk hH d_Aliases_append_48
def sh_Aliases_append (F : Nat) (x0 : Nat) (x1 : Int64) (x3 : Int64) (x5 : Int32) (w : im_W) : Option (im_W) :=
  (im_is w 0 x0).bind fun u1 => im_b2 (sh_Aliases_isFull F x0 w) fun v7 w5 => (if v7 = 0 then (im_gR w5 0 x0 0).bind fun f8 => (im_gI w5 0 x0 3).bind fun f10 => (im_sL w5 1 f8 f10 x1).bind fun w12 => (im_gR w12 0 x0 1).bind fun f14 => (im_gI w12 0 x0 3).bind fun f16 => (im_sL w12 1 f14 f16 x3).bind fun w18 => (im_gR w18 0 x0 2).bind fun f20 => (im_gI w18 0 x0 3).bind fun f22 => (im_sI w18 3 f20 f22 (vp_nar .boolean x5)).bind fun w24 => (im_gI w24 0 x0 3).bind fun f26 => (im_pV w24 0 x0 3 (.int (f26 + (1 : Int32)))).bind fun w28 => sh_Aliases_append_48 F w28 else sh_Aliases_append_48 F w5)
set_option maxHeartbeats 4000000 in
set_option maxRecDepth 100000 in
theorem met_Aliases_append {F : Nat} {x0 : Nat} {x1 : Int64} {x3 : Int64} {x5 : Int32} {w : im_W} {r : im_W} (hsh : sh_Aliases_append F x0 x1 x3 x5 w = some r) : Met l y_Aliases_append (Cond.code y_Aliases_append c_Aliases_append 6 none :: im_T) (im_rm 1 20) (im_Pre D vwCl tA lo im_NW [.ref (lo + x0), .long x1, .long x3, .int x5] w) (im_Post D vwCl tA lo none r) 0 0 (fun q => lo ≤ q) := by
  refine im_ofW (cc := c_Aliases_append) (nL := 6) (ret := none) (by decide) (Nat.le_of_ble_eq_true rfl) ?_
  intro p e s m args below meth c X H locs ls hH hl
  obtain ⟨hx, hb, hr, hts, hown, hlk, hml, hK, hN⟩ := id X
  have hl : lv_has ls 6 [(0, .ref (lo + x0)), (1, .long x1), (3, .long x3), (5, .int x5)] := hl
  unfold sh_Aliases_append at hsh
  refine lv_aload_n hx hb d_Aliases_append_0 rfl (lv_at hl 0 rfl) ?_
  obtain ⟨u1, h2, hsh⟩ := im_bd hsh
  obtain ⟨g3, h4⟩ := im_is_s h2
  obtain ⟨v7, w5, h6, hsh⟩ := im_bd2 hsh
  refine im_afterI (va_runV (As := []) (rest := []) (C := RC_Aliases) ⟨hx, hb, hml, hown, hts⟩ (met_Aliases_isFull h6) ⟨(callB_of 0 hts (im_good wd_305) rfl rfl rfl (hts _ wd_4) (hts _ wd_319) (by decide +kernel) ⟨Nat.le_of_ble_eq_true rfl, Nat.le_of_ble_eq_true rfl⟩), hts _ wd_303, hts _ wd_304⟩ (im_preV im_NW_ok hK hN hH (ci := 0) rfl rfl h4 _) rfl rfl hl.1 rfl (lv_room (Nat.le_of_ble_eq_true rfl)) d_Aliases_append_1 ⟨Nat.le_of_ble_eq_true rfl, Nat.le_of_ble_eq_true rfl⟩) hH (fun H locs hH => ?_)
  refine lv_if_ne (tgt := 48) hx hb d_Aliases_append_4 (by decide) (fun cc => ?_) (fun cc => ?_)
  · have hsh := im_if hsh cc
    exact bk_Aliases_append_48 X w5 hsh H locs ls hH (lv_sub hl [] rfl)
  · have hsh := im_it hsh cc
    refine lv_aload_n hx hb d_Aliases_append_7 rfl (lv_at hl 0 rfl) ?_
    obtain ⟨f8, h9, hsh⟩ := im_bd hsh
    refine im_getR hx hb hts inC_Aliases hown hK hH (ci := 0) rfl 0 (by decide) (hts _ wd_58) rfl h9 d_Aliases_append_8 ?_
    refine lv_aload_n hx hb d_Aliases_append_11 rfl (lv_at hl 0 rfl) ?_
    obtain ⟨f10, h11, hsh⟩ := im_bd hsh
    refine im_getI hx hb hts inC_Aliases hown hK hH (ci := 0) rfl 3 (by decide) (hts _ wd_61) rfl h11 d_Aliases_append_12 ?_
    refine lv_lload_n hx hb d_Aliases_append_15 rfl (lv_at hl 1 rfl) ?_
    obtain ⟨w12, h13, hsh⟩ := im_bd hsh
    refine im_last hx hb hK hH h13 d_Aliases_append_16 (fun H locs hH => ?_)
    refine lv_aload_n hx hb d_Aliases_append_17 rfl (lv_at hl 0 rfl) ?_
    obtain ⟨f14, h15, hsh⟩ := im_bd hsh
    refine im_getR hx hb hts inC_Aliases hown hK hH (ci := 0) rfl 1 (by decide) (hts _ wd_59) rfl h15 d_Aliases_append_18 ?_
    refine lv_aload_n hx hb d_Aliases_append_21 rfl (lv_at hl 0 rfl) ?_
    obtain ⟨f16, h17, hsh⟩ := im_bd hsh
    refine im_getI hx hb hts inC_Aliases hown hK hH (ci := 0) rfl 3 (by decide) (hts _ wd_61) rfl h17 d_Aliases_append_22 ?_
    refine lv_lload_n hx hb d_Aliases_append_25 rfl (lv_at hl 2 rfl) ?_
    obtain ⟨w18, h19, hsh⟩ := im_bd hsh
    refine im_last hx hb hK hH h19 d_Aliases_append_26 (fun H locs hH => ?_)
    refine lv_aload_n hx hb d_Aliases_append_27 rfl (lv_at hl 0 rfl) ?_
    obtain ⟨f20, h21, hsh⟩ := im_bd hsh
    refine im_getR hx hb hts inC_Aliases hown hK hH (ci := 0) rfl 2 (by decide) (hts _ wd_60) rfl h21 d_Aliases_append_28 ?_
    refine lv_aload_n hx hb d_Aliases_append_31 rfl (lv_at hl 0 rfl) ?_
    obtain ⟨f22, h23, hsh⟩ := im_bd hsh
    refine im_getI hx hb hts inC_Aliases hown hK hH (ci := 0) rfl 3 (by decide) (hts _ wd_61) rfl h23 d_Aliases_append_32 ?_
    refine lv_iload hx hb d_Aliases_append_35 (lv_at hl 3 rfl) ?_
    obtain ⟨w24, h25, hsh⟩ := im_bd hsh
    refine im_zast hx hb hK hH h25 d_Aliases_append_37 (fun H locs hH => ?_)
    refine lv_aload_n hx hb d_Aliases_append_38 rfl (lv_at hl 0 rfl) ?_
    refine lv_dup hx hb d_Aliases_append_39 rfl ?_
    obtain ⟨f26, h27, hsh⟩ := im_bd hsh
    refine im_getI hx hb hts inC_Aliases hown hK hH (ci := 0) rfl 3 (by decide) (hts _ wd_61) rfl h27 d_Aliases_append_40 ?_
    refine lv_iconst (v := 1) hx hb d_Aliases_append_43 (by decide) ?_
    refine lv_iadd hx hb d_Aliases_append_44 ?_
    obtain ⟨w28, h29, hsh⟩ := im_bd hsh
    refine im_put (v := .int (f26 + (1 : Int32))) hx hb hts inC_Aliases tyC_Aliases tyC_Aliases_ok nmC_Aliases hown hK hH (ci := 0) rfl 3 (by decide) (hts _ wd_61) rfl rfl rfl rfl h29 d_Aliases_append_45 (fun H locs hH => ?_)
    exact bk_Aliases_append_48 X w28 hsh H locs ls hH (lv_sub hl [] rfl)
theorem d_Aliases_indexOf_0 : decode c_Aliases_indexOf 0 = .ok (.iconst 0, 1) := by decide +kernel
theorem d_Aliases_indexOf_1 : decode c_Aliases_indexOf 1 = .ok (.istore 4, 2) := by decide +kernel
theorem d_Aliases_indexOf_3 : decode c_Aliases_indexOf 3 = .ok (.iload 4, 2) := by decide +kernel
theorem d_Aliases_indexOf_5 : decode c_Aliases_indexOf 5 = .ok (.aload_n 0, 1) := by decide +kernel
theorem d_Aliases_indexOf_6 : decode c_Aliases_indexOf 6 = .ok (.getfield 22, 3) := by decide +kernel
theorem d_Aliases_indexOf_9 : decode c_Aliases_indexOf 9 = .ok (.if_icmp .ge (35), 3) := by decide +kernel
theorem d_Aliases_indexOf_12 : decode c_Aliases_indexOf 12 = .ok (.aload_n 0, 1) := by decide +kernel
theorem d_Aliases_indexOf_13 : decode c_Aliases_indexOf 13 = .ok (.getfield 9, 3) := by decide +kernel
theorem d_Aliases_indexOf_16 : decode c_Aliases_indexOf 16 = .ok (.iload 4, 2) := by decide +kernel
theorem d_Aliases_indexOf_18 : decode c_Aliases_indexOf 18 = .ok (.laload, 1) := by decide +kernel
theorem d_Aliases_indexOf_19 : decode c_Aliases_indexOf 19 = .ok (.lload_n 1, 1) := by decide +kernel
theorem d_Aliases_indexOf_20 : decode c_Aliases_indexOf 20 = .ok (.lcmp, 1) := by decide +kernel
theorem d_Aliases_indexOf_21 : decode c_Aliases_indexOf 21 = .ok (.ifCond .ne (17), 3) := by decide +kernel
theorem d_Aliases_indexOf_24 : decode c_Aliases_indexOf 24 = .ok (.aload_n 0, 1) := by decide +kernel
theorem d_Aliases_indexOf_25 : decode c_Aliases_indexOf 25 = .ok (.getfield 18, 3) := by decide +kernel
theorem d_Aliases_indexOf_28 : decode c_Aliases_indexOf 28 = .ok (.iload 4, 2) := by decide +kernel
theorem d_Aliases_indexOf_30 : decode c_Aliases_indexOf 30 = .ok (.baload, 1) := by decide +kernel
theorem d_Aliases_indexOf_31 : decode c_Aliases_indexOf 31 = .ok (.iload_n 3, 1) := by decide +kernel
theorem d_Aliases_indexOf_32 : decode c_Aliases_indexOf 32 = .ok (.if_icmp .ne (6), 3) := by decide +kernel
theorem d_Aliases_indexOf_35 : decode c_Aliases_indexOf 35 = .ok (.iload 4, 2) := by decide +kernel
theorem d_Aliases_indexOf_37 : decode c_Aliases_indexOf 37 = .ok (.ireturn, 1) := by decide +kernel
theorem d_Aliases_indexOf_38 : decode c_Aliases_indexOf 38 = .ok (.iinc 4 (1), 3) := by decide +kernel
theorem d_Aliases_indexOf_41 : decode c_Aliases_indexOf 41 = .ok (.goto (-38), 3) := by decide +kernel
theorem d_Aliases_indexOf_44 : decode c_Aliases_indexOf 44 = .ok (.iconst (-1), 1) := by decide +kernel
theorem d_Aliases_indexOf_45 : decode c_Aliases_indexOf 45 = .ok (.ireturn, 1) := by decide +kernel
def sh_Aliases_indexOf_38 (F : Nat) (k3 : Nat → Int64 → Int32 → Int32 → im_W → Option (Int32 × im_W)) (x0 : Nat) (x1 : Int64) (x3 : Int32) (x4 : Int32) (w : im_W) : Option (Int32 × im_W) :=
  k3 x0 x1 x3 (x4 + (1 : Int32)) w
set_option maxHeartbeats 4000000 in
set_option maxRecDepth 100000 in
theorem bk_Aliases_indexOf_38 {F : Nat} {r : Int32 × im_W} (X : im_X D vwCl tA lo im_NW c_Aliases_indexOf 5 (some .int) RC_Aliases im_T p s m args meth c) {k3 : Nat → Int64 → Int32 → Int32 → im_W → Option (Int32 × im_W)} (hk3 : ∀ (x0 : Nat) (x1 : Int64) (x3 : Int32) (x4 : Int32) (w : im_W), k3 x0 x1 x3 x4 w = some r → im_WW D vwCl tA lo 5 p l e (im_rm 0 0) s m args below meth c 0 0 (MQ below (im_Post D vwCl tA lo (some (.int r.1)) r.2) args s 0 0 (fun q => lo ≤ q)) 3 [(0, .ref (lo + x0)), (1, .long x1), (3, .int x3), (4, .int x4)] [] w) (x0 : Nat) (x1 : Int64) (x3 : Int32) (x4 : Int32) (w : im_W) (hsh : sh_Aliases_indexOf_38 F k3 x0 x1 x3 x4 w = some r) : im_WW D vwCl tA lo 5 p l e (im_rm 0 0) s m args below meth c 0 0 (MQ below (im_Post D vwCl tA lo (some (.int r.1)) r.2) args s 0 0 (fun q => lo ≤ q)) 38 [(0, .ref (lo + x0)), (1, .long x1), (3, .int x3), (4, .int x4)] [] w := by
  obtain ⟨hx, hb, hr, hts, hown, hlk, hml, hK, hN⟩ := id X
  intro H locs ls hH hl
  unfold sh_Aliases_indexOf_38 at hsh
  refine lv_iinc (v := (x4 + (1 : Int32))) (lv' := [(4, .int (x4 + (1 : Int32))), (0, .ref (lo + x0)), (1, .long x1), (3, .int x3)]) hx hb d_Aliases_indexOf_38 hl (k := 3) rfl rfl (by decide) rfl (fun ls hl => ?_)
  refine lv_goto (tgt := 3) hx hb d_Aliases_indexOf_41 (by decide) ?_
  exact hk3 x0 x1 x3 (x4 + (1 : Int32)) w hsh H locs ls hH (lv_sub hl [1, 2, 3, 0] rfl)
def sh_Aliases_indexOf_3 (F : Nat) : Nat → Nat → Int64 → Int32 → Int32 → im_W → Option (Int32 × im_W)
  | 0, _, _, _, _, _ => none
  | f + 1, x0, x1, x3, x4, w => (im_gI w 0 x0 3).bind fun f1 => (if f1 ≤ x4 then some ((-1 : Int32), w) else (im_gR w 0 x0 0).bind fun f3 => (im_lL w 1 f3 x4).bind fun e5 => (if (lg_cmp e5 x1) = 0 then (im_gR w 0 x0 2).bind fun f7 => (im_lI w 3 f7 x4).bind fun e9 => (if e9 = x3 then some (x4, w) else sh_Aliases_indexOf_38 F (sh_Aliases_indexOf_3 F f) x0 x1 x3 x4 w) else sh_Aliases_indexOf_38 F (sh_Aliases_indexOf_3 F f) x0 x1 x3 x4 w))
set_option maxHeartbeats 4000000 in
set_option maxRecDepth 100000 in
theorem bk_Aliases_indexOf_3 {F : Nat} {r : Int32 × im_W} (X : im_X D vwCl tA lo im_NW c_Aliases_indexOf 5 (some .int) RC_Aliases im_T p s m args meth c) : ∀ (f : Nat) (x0 : Nat) (x1 : Int64) (x3 : Int32) (x4 : Int32) (w : im_W), sh_Aliases_indexOf_3 F f x0 x1 x3 x4 w = some r → im_WW D vwCl tA lo 5 p l e (im_rm 0 0) s m args below meth c 0 0 (MQ below (im_Post D vwCl tA lo (some (.int r.1)) r.2) args s 0 0 (fun q => lo ≤ q)) 3 [(0, .ref (lo + x0)), (1, .long x1), (3, .int x3), (4, .int x4)] [] w := by
  obtain ⟨hx, hb, hr, hts, hown, hlk, hml, hK, hN⟩ := id X
  intro f
  induction f with
  | zero =>
    intro x0 x1 x3 x4 w hsh
    cases hsh
  | succ f ih =>
    intro x0 x1 x3 x4 w hsh H locs ls hH hl
    unfold sh_Aliases_indexOf_3 at hsh
    refine lv_iload hx hb d_Aliases_indexOf_3 (lv_at hl 3 rfl) ?_
    refine lv_aload_n hx hb d_Aliases_indexOf_5 rfl (lv_at hl 0 rfl) ?_
    obtain ⟨f1, h2, hsh⟩ := im_bd hsh
    refine im_getI hx hb hts inC_Aliases hown hK hH (ci := 0) rfl 3 (by decide) (hts _ wd_61) rfl h2 d_Aliases_indexOf_6 ?_
    refine lv_icmp_ge (tgt := 44) hx hb d_Aliases_indexOf_9 (by decide) (fun cc => ?_) (fun cc => ?_)
    · have hsh := im_it hsh cc
      refine lv_iconst (v := -1) hx hb d_Aliases_indexOf_44 (by decide) ?_
      obtain rfl := Option.some.inj hsh
      exact im_iret hx hb hr hlk hH d_Aliases_indexOf_45
    · have hsh := im_if hsh cc
      refine lv_aload_n hx hb d_Aliases_indexOf_12 rfl (lv_at hl 0 rfl) ?_
      obtain ⟨f3, h4, hsh⟩ := im_bd hsh
      refine im_getR hx hb hts inC_Aliases hown hK hH (ci := 0) rfl 0 (by decide) (hts _ wd_58) rfl h4 d_Aliases_indexOf_13 ?_
      refine lv_iload hx hb d_Aliases_indexOf_16 (lv_at hl 3 rfl) ?_
      obtain ⟨e5, h6, hsh⟩ := im_bd hsh
      refine im_lald hx hb hK hH h6 d_Aliases_indexOf_18 ?_
      refine lv_lload_n hx hb d_Aliases_indexOf_19 rfl (lv_at hl 1 rfl) ?_
      refine W.lcmp hx hb d_Aliases_indexOf_20 ?_
      refine lv_if_ne (tgt := 38) hx hb d_Aliases_indexOf_21 (by decide) (fun cc => ?_) (fun cc => ?_)
      · have hsh := im_if hsh cc
        exact bk_Aliases_indexOf_38 X ih x0 x1 x3 x4 w hsh H locs ls hH (lv_sub hl [0, 1, 2, 3] rfl)
      · have hsh := im_it hsh cc
        refine lv_aload_n hx hb d_Aliases_indexOf_24 rfl (lv_at hl 0 rfl) ?_
        obtain ⟨f7, h8, hsh⟩ := im_bd hsh
        refine im_getR hx hb hts inC_Aliases hown hK hH (ci := 0) rfl 2 (by decide) (hts _ wd_60) rfl h8 d_Aliases_indexOf_25 ?_
        refine lv_iload hx hb d_Aliases_indexOf_28 (lv_at hl 3 rfl) ?_
        obtain ⟨e9, h10, hsh⟩ := im_bd hsh
        refine im_zald hx hb hK hH h10 d_Aliases_indexOf_30 ?_
        refine lv_iload_n hx hb d_Aliases_indexOf_31 rfl (lv_at hl 2 rfl) ?_
        refine lv_icmp_ne (tgt := 38) hx hb d_Aliases_indexOf_32 (by decide) (fun cc => ?_) (fun cc => ?_)
        · have hsh := im_if hsh cc
          exact bk_Aliases_indexOf_38 X ih x0 x1 x3 x4 w hsh H locs ls hH (lv_sub hl [0, 1, 2, 3] rfl)
        · have hsh := im_it hsh cc
          refine lv_iload hx hb d_Aliases_indexOf_35 (lv_at hl 3 rfl) ?_
          obtain rfl := Option.some.inj hsh
          exact im_iret hx hb hr hlk hH d_Aliases_indexOf_37
def sh_Aliases_indexOf (F : Nat) (x0 : Nat) (x1 : Int64) (x3 : Int32) (w : im_W) : Option (Int32 × im_W) :=
  sh_Aliases_indexOf_3 F F x0 x1 x3 (0 : Int32) w
set_option maxHeartbeats 4000000 in
set_option maxRecDepth 100000 in
theorem met_Aliases_indexOf {F : Nat} {x0 : Nat} {x1 : Int64} {x3 : Int32} {w : im_W} {r : Int32 × im_W} (hsh : sh_Aliases_indexOf F x0 x1 x3 w = some r) : Met l y_Aliases_indexOf (Cond.code y_Aliases_indexOf c_Aliases_indexOf 5 (some .int) :: im_T) (im_rm 0 0) (im_Pre D vwCl tA lo im_NW [.ref (lo + x0), .long x1, .int x3] w) (im_Post D vwCl tA lo (some (.int r.1)) r.2) 0 0 (fun q => lo ≤ q) := by
  refine im_ofW (cc := c_Aliases_indexOf) (nL := 5) (ret := (some .int)) (by decide) (Nat.le_of_ble_eq_true rfl) ?_
  intro p e s m args below meth c X H locs ls hH hl
  obtain ⟨hx, hb, hr, hts, hown, hlk, hml, hK, hN⟩ := id X
  have hl : lv_has ls 5 [(0, .ref (lo + x0)), (1, .long x1), (3, .int x3)] := hl
  unfold sh_Aliases_indexOf at hsh
  refine lv_iconst (v := 0) hx hb d_Aliases_indexOf_0 (by decide) ?_
  refine lv_istore (lv' := [(4, .int (0 : Int32)), (0, .ref (lo + x0)), (1, .long x1), (3, .int x3)]) hx hb d_Aliases_indexOf_1 hl (by decide) rfl (fun ls hl => ?_)
  exact bk_Aliases_indexOf_3 X F x0 x1 x3 (0 : Int32) w hsh H locs ls hH (lv_sub hl [1, 2, 3, 0] rfl)
theorem wd_307 : (Jvm.Cond.instanceMethod ({ cls := "LanguageTags$Aliases", name := "indexOf", desc := "(JZ)I" } : Jvm.MethodName)) ∈ im_T := im_memT (i := 307) (by decide +kernel) (by decide +kernel)
theorem wd_308 : (Jvm.Cond.selects "LanguageTags$Aliases" ({ cls := "LanguageTags$Aliases", name := "indexOf", desc := "(JZ)I" } : Jvm.MethodName) ({ cls := "LanguageTags$Aliases", name := "indexOf", desc := "(JZ)I" } : Jvm.MethodName)) ∈ im_T := im_memT (i := 308) (by decide +kernel) (by decide +kernel)
theorem wd_309 : (Jvm.Cond.code ({ cls := "LanguageTags$Aliases", name := "indexOf", desc := "(JZ)I" } : Jvm.MethodName) prog_2_method_5_code (5 : Nat) (Option.some Jvm.ClassFile.FieldType.int)) ∈ im_T := im_memT (i := 309) (by decide +kernel) (by decide +kernel)
theorem wd_314 : (Jvm.Cond.methodLink "LanguageTags$Aliases" (30 : Nat) ({ cls := "LanguageTags$Aliases", name := "indexOf", desc := "(JZ)I" } : Jvm.MethodName)) ∈ im_T := im_memT (i := 314) (by decide +kernel) (by decide +kernel)
theorem d_Aliases_replaced_0 : decode c_Aliases_replaced 0 = .ok (.lload_n 1, 1) := by decide +kernel
theorem d_Aliases_replaced_1 : decode c_Aliases_replaced 1 = .ok (.lstore 4, 2) := by decide +kernel
theorem d_Aliases_replaced_3 : decode c_Aliases_replaced 3 = .ok (.iconst 0, 1) := by decide +kernel
theorem d_Aliases_replaced_4 : decode c_Aliases_replaced 4 = .ok (.istore 6, 2) := by decide +kernel
theorem d_Aliases_replaced_6 : decode c_Aliases_replaced 6 = .ok (.iload 6, 2) := by decide +kernel
theorem d_Aliases_replaced_8 : decode c_Aliases_replaced 8 = .ok (.aload_n 0, 1) := by decide +kernel
theorem d_Aliases_replaced_9 : decode c_Aliases_replaced 9 = .ok (.getfield 22, 3) := by decide +kernel
theorem d_Aliases_replaced_12 : decode c_Aliases_replaced 12 = .ok (.if_icmp .ge (35), 3) := by decide +kernel
theorem d_Aliases_replaced_15 : decode c_Aliases_replaced 15 = .ok (.aload_n 0, 1) := by decide +kernel
theorem d_Aliases_replaced_16 : decode c_Aliases_replaced 16 = .ok (.lload 4, 2) := by decide +kernel
theorem d_Aliases_replaced_18 : decode c_Aliases_replaced 18 = .ok (.iload_n 3, 1) := by decide +kernel
theorem d_Aliases_replaced_19 : decode c_Aliases_replaced 19 = .ok (.invokevirtual 30, 3) := by decide +kernel
theorem d_Aliases_replaced_22 : decode c_Aliases_replaced 22 = .ok (.istore 7, 2) := by decide +kernel
theorem d_Aliases_replaced_24 : decode c_Aliases_replaced 24 = .ok (.iload 7, 2) := by decide +kernel
theorem d_Aliases_replaced_26 : decode c_Aliases_replaced 26 = .ok (.ifCond .ge (6), 3) := by decide +kernel
theorem d_Aliases_replaced_29 : decode c_Aliases_replaced 29 = .ok (.lload 4, 2) := by decide +kernel
theorem d_Aliases_replaced_31 : decode c_Aliases_replaced 31 = .ok (.lreturn, 1) := by decide +kernel
theorem d_Aliases_replaced_32 : decode c_Aliases_replaced 32 = .ok (.aload_n 0, 1) := by decide +kernel
theorem d_Aliases_replaced_33 : decode c_Aliases_replaced 33 = .ok (.getfield 15, 3) := by decide +kernel
theorem d_Aliases_replaced_36 : decode c_Aliases_replaced 36 = .ok (.iload 7, 2) := by decide +kernel
theorem d_Aliases_replaced_38 : decode c_Aliases_replaced 38 = .ok (.laload, 1) := by decide +kernel
theorem d_Aliases_replaced_39 : decode c_Aliases_replaced 39 = .ok (.lstore 4, 2) := by decide +kernel
theorem d_Aliases_replaced_41 : decode c_Aliases_replaced 41 = .ok (.iinc 6 (1), 3) := by decide +kernel
theorem d_Aliases_replaced_44 : decode c_Aliases_replaced 44 = .ok (.goto (-38), 3) := by decide +kernel
theorem d_Aliases_replaced_47 : decode c_Aliases_replaced 47 = .ok (.lload 4, 2) := by decide +kernel
theorem d_Aliases_replaced_49 : decode c_Aliases_replaced 49 = .ok (.lreturn, 1) := by decide +kernel
def sh_Aliases_replaced_6 (F : Nat) : Nat → Nat → Int32 → Int64 → Int32 → im_W → Option (Int64 × im_W)
  | 0, _, _, _, _, _ => none
  | f + 1, x0, x3, x4, x6, w => (im_gI w 0 x0 3).bind fun f1 => (if f1 ≤ x6 then some (x4, w) else (im_is w 0 x0).bind fun u3 => im_b2 (sh_Aliases_indexOf F x0 x4 x3 w) fun v9 w7 => (if 0 ≤ v9 then (im_gR w7 0 x0 1).bind fun f10 => (im_lL w7 1 f10 v9).bind fun e12 => (sh_Aliases_replaced_6 F f) x0 x3 e12 (x6 + (1 : Int32)) w7 else some (x4, w7)))
set_option maxHeartbeats 4000000 in
set_option maxRecDepth 100000 in
theorem bk_Aliases_replaced_6 {F : Nat} {r : Int64 × im_W} (X : im_X D vwCl tA lo im_NW c_Aliases_replaced 8 (some .long) RC_Aliases im_T p s m args meth c) : ∀ (f : Nat) (x0 : Nat) (x3 : Int32) (x4 : Int64) (x6 : Int32) (w : im_W), sh_Aliases_replaced_6 F f x0 x3 x4 x6 w = some r → im_WW D vwCl tA lo 8 p l e (im_rm 1 24) s m args below meth c 0 0 (MQ below (im_Post D vwCl tA lo (some (.long r.1)) r.2) args s 0 0 (fun q => lo ≤ q)) 6 [(0, .ref (lo + x0)), (3, .int x3), (4, .long x4), (6, .int x6)] [] w := by
  obtain ⟨hx, hb, hr, hts, hown, hlk, hml, hK, hN⟩ := id X
  intro f
  induction f with
  | zero =>
    intro x0 x3 x4 x6 w hsh
    cases hsh
  | succ f ih =>
    intro x0 x3 x4 x6 w hsh H locs ls hH hl
    unfold sh_Aliases_replaced_6 at hsh
    refine lv_iload hx hb d_Aliases_replaced_6 (lv_at hl 3 rfl) ?_
    refine lv_aload_n hx hb d_Aliases_replaced_8 rfl (lv_at hl 0 rfl) ?_
    obtain ⟨f1, h2, hsh⟩ := im_bd hsh
    refine im_getI hx hb hts inC_Aliases hown hK hH (ci := 0) rfl 3 (by decide) (hts _ wd_61) rfl h2 d_Aliases_replaced_9 ?_
    refine lv_icmp_ge (tgt := 47) hx hb d_Aliases_replaced_12 (by decide) (fun cc => ?_) (fun cc => ?_)
    · have hsh := im_it hsh cc
      refine lv_lload hx hb d_Aliases_replaced_47 (lv_at hl 2 rfl) ?_
      obtain rfl := Option.some.inj hsh
      exact im_lret hx hb hr hlk hH d_Aliases_replaced_49
    · have hsh := im_if hsh cc
      refine lv_aload_n hx hb d_Aliases_replaced_15 rfl (lv_at hl 0 rfl) ?_
      refine lv_lload hx hb d_Aliases_replaced_16 (lv_at hl 2 rfl) ?_
      refine lv_iload_n hx hb d_Aliases_replaced_18 rfl (lv_at hl 1 rfl) ?_
      obtain ⟨u3, h4, hsh⟩ := im_bd hsh
      obtain ⟨g5, h6⟩ := im_is_s h4
      obtain ⟨v9, w7, h8, hsh⟩ := im_bd2 hsh
      refine im_afterI (va_runV (As := [.long x4, .int x3]) (rest := []) (C := RC_Aliases) ⟨hx, hb, hml, hown, hts⟩ (met_Aliases_indexOf h8) ⟨(callB_of 2 hts (im_good wd_309) rfl rfl rfl (hts _ wd_4) (hts _ wd_314) (by decide +kernel) ⟨Nat.le_of_ble_eq_true rfl, Nat.le_of_ble_eq_true rfl⟩), hts _ wd_307, hts _ wd_308⟩ (im_preV im_NW_ok hK hN hH (ci := 0) rfl rfl h6 _) rfl rfl hl.1 rfl (lv_room (Nat.le_of_ble_eq_true rfl)) d_Aliases_replaced_19 ⟨Nat.le_of_ble_eq_true rfl, Nat.le_of_ble_eq_true rfl⟩) hH (fun H locs hH => ?_)
      refine lv_istore (lv' := [(7, .int v9), (0, .ref (lo + x0)), (3, .int x3), (4, .long x4), (6, .int x6)]) hx hb d_Aliases_replaced_22 hl (by decide) rfl (fun ls hl => ?_)
      refine lv_iload hx hb d_Aliases_replaced_24 (lv_at hl 0 rfl) ?_
      refine lv_if_ge (tgt := 32) hx hb d_Aliases_replaced_26 (by decide) (fun cc => ?_) (fun cc => ?_)
      · have hsh := im_it hsh cc
        refine lv_aload_n hx hb d_Aliases_replaced_32 rfl (lv_at hl 1 rfl) ?_
        obtain ⟨f10, h11, hsh⟩ := im_bd hsh
        refine im_getR hx hb hts inC_Aliases hown hK hH (ci := 0) rfl 1 (by decide) (hts _ wd_59) rfl h11 d_Aliases_replaced_33 ?_
        refine lv_iload hx hb d_Aliases_replaced_36 (lv_at hl 0 rfl) ?_
        obtain ⟨e12, h13, hsh⟩ := im_bd hsh
        refine im_lald hx hb hK hH h13 d_Aliases_replaced_38 ?_
        refine lv_lstore (lv' := [(4, .long e12), (7, .int v9), (0, .ref (lo + x0)), (3, .int x3), (6, .int x6)]) hx hb d_Aliases_replaced_39 hl (by decide) rfl (fun ls hl => ?_)
        refine lv_iinc (v := (x6 + (1 : Int32))) (lv' := [(6, .int (x6 + (1 : Int32))), (4, .long e12), (7, .int v9), (0, .ref (lo + x0)), (3, .int x3)]) hx hb d_Aliases_replaced_41 hl (k := 4) rfl rfl (by decide) rfl (fun ls hl => ?_)
        refine lv_goto (tgt := 6) hx hb d_Aliases_replaced_44 (by decide) ?_
        exact ih x0 x3 e12 (x6 + (1 : Int32)) w7 hsh H locs ls hH (lv_sub hl [3, 4, 1, 0] rfl)
      · have hsh := im_if hsh cc
        refine lv_lload hx hb d_Aliases_replaced_29 (lv_at hl 3 rfl) ?_
        obtain rfl := Option.some.inj hsh
        exact im_lret hx hb hr hlk hH d_Aliases_replaced_31
def sh_Aliases_replaced (F : Nat) (x0 : Nat) (x1 : Int64) (x3 : Int32) (w : im_W) : Option (Int64 × im_W) :=
  sh_Aliases_replaced_6 F F x0 x3 x1 (0 : Int32) w
set_option maxHeartbeats 4000000 in
set_option maxRecDepth 100000 in
theorem met_Aliases_replaced {F : Nat} {x0 : Nat} {x1 : Int64} {x3 : Int32} {w : im_W} {r : Int64 × im_W} (hsh : sh_Aliases_replaced F x0 x1 x3 w = some r) : Met l y_Aliases_replaced (Cond.code y_Aliases_replaced c_Aliases_replaced 8 (some .long) :: im_T) (im_rm 1 24) (im_Pre D vwCl tA lo im_NW [.ref (lo + x0), .long x1, .int x3] w) (im_Post D vwCl tA lo (some (.long r.1)) r.2) 0 0 (fun q => lo ≤ q) := by
  refine im_ofW (cc := c_Aliases_replaced) (nL := 8) (ret := (some .long)) (by decide) (Nat.le_of_ble_eq_true rfl) ?_
  intro p e s m args below meth c X H locs ls hH hl
  obtain ⟨hx, hb, hr, hts, hown, hlk, hml, hK, hN⟩ := id X
  have hl : lv_has ls 8 [(0, .ref (lo + x0)), (1, .long x1), (3, .int x3)] := hl
  unfold sh_Aliases_replaced at hsh
  refine lv_lload_n hx hb d_Aliases_replaced_0 rfl (lv_at hl 1 rfl) ?_
  refine lv_lstore (lv' := [(4, .long x1), (0, .ref (lo + x0)), (1, .long x1), (3, .int x3)]) hx hb d_Aliases_replaced_1 hl (by decide) rfl (fun ls hl => ?_)
  refine lv_iconst (v := 0) hx hb d_Aliases_replaced_3 (by decide) ?_
  refine lv_istore (lv' := [(6, .int (0 : Int32)), (4, .long x1), (0, .ref (lo + x0)), (1, .long x1), (3, .int x3)]) hx hb d_Aliases_replaced_4 hl (by decide) rfl (fun ls hl => ?_)
  exact bk_Aliases_replaced_6 X F x0 x3 x1 (0 : Int32) w hsh H locs ls hH (lv_sub hl [2, 4, 1, 0] rfl)
theorem wd_91 : (Jvm.Cond.fieldLink "LanguageTags$Core" (9 : Nat) "LanguageTags$Core" "language" "J") ∈ im_T := im_memT (i := 91) (by decide +kernel) (by decide +kernel)
theorem wd_93 : (Jvm.Cond.fieldLink "LanguageTags$Core" (15 : Nat) "LanguageTags$Core" "script" "J") ∈ im_T := im_memT (i := 93) (by decide +kernel) (by decide +kernel)
theorem wd_95 : (Jvm.Cond.fieldLink "LanguageTags$Core" (18 : Nat) "LanguageTags$Core" "region" "J") ∈ im_T := im_memT (i := 95) (by decide +kernel) (by decide +kernel)
theorem d_Core_assign_0 : decode c_Core_assign 0 = .ok (.aload_n 0, 1) := by decide +kernel
theorem d_Core_assign_1 : decode c_Core_assign 1 = .ok (.lload_n 1, 1) := by decide +kernel
theorem d_Core_assign_2 : decode c_Core_assign 2 = .ok (.putfield 9, 3) := by decide +kernel
theorem d_Core_assign_5 : decode c_Core_assign 5 = .ok (.aload_n 0, 1) := by decide +kernel
theorem d_Core_assign_6 : decode c_Core_assign 6 = .ok (.lload_n 3, 1) := by decide +kernel
theorem d_Core_assign_7 : decode c_Core_assign 7 = .ok (.putfield 15, 3) := by decide +kernel
theorem d_Core_assign_10 : decode c_Core_assign 10 = .ok (.aload_n 0, 1) := by decide +kernel
theorem d_Core_assign_11 : decode c_Core_assign 11 = .ok (.lload 5, 2) := by decide +kernel
theorem d_Core_assign_13 : decode c_Core_assign 13 = .ok (.putfield 18, 3) := by decide +kernel
theorem d_Core_assign_16 : decode c_Core_assign 16 = .ok (.return_, 1) := by decide +kernel
def sh_Core_assign (F : Nat) (x0 : Nat) (x1 : Int64) (x3 : Int64) (x5 : Int64) (w : im_W) : Option (im_W) :=
  (im_pV w 1 x0 0 (.long x1)).bind fun w1 => (im_pV w1 1 x0 1 (.long x3)).bind fun w3 => (im_pV w3 1 x0 2 (.long x5)).bind fun w5 => some w5
set_option maxHeartbeats 4000000 in
set_option maxRecDepth 100000 in
theorem met_Core_assign {F : Nat} {x0 : Nat} {x1 : Int64} {x3 : Int64} {x5 : Int64} {w : im_W} {r : im_W} (hsh : sh_Core_assign F x0 x1 x3 x5 w = some r) : Met l y_Core_assign (Cond.code y_Core_assign c_Core_assign 7 none :: im_T) (im_rm 0 0) (im_Pre D vwCl tA lo im_NW [.ref (lo + x0), .long x1, .long x3, .long x5] w) (im_Post D vwCl tA lo none r) 0 0 (fun q => lo ≤ q) := by
  refine im_ofW (cc := c_Core_assign) (nL := 7) (ret := none) (by decide) (Nat.le_of_ble_eq_true rfl) ?_
  intro p e s m args below meth c X H locs ls hH hl
  obtain ⟨hx, hb, hr, hts, hown, hlk, hml, hK, hN⟩ := id X
  have hl : lv_has ls 7 [(0, .ref (lo + x0)), (1, .long x1), (3, .long x3), (5, .long x5)] := hl
  unfold sh_Core_assign at hsh
  refine lv_aload_n hx hb d_Core_assign_0 rfl (lv_at hl 0 rfl) ?_
  refine lv_lload_n hx hb d_Core_assign_1 rfl (lv_at hl 1 rfl) ?_
  obtain ⟨w1, h2, hsh⟩ := im_bd hsh
  refine im_put (v := .long x1) hx hb hts inC_Core tyC_Core tyC_Core_ok nmC_Core hown hK hH (ci := 1) rfl 0 (by decide) (hts _ wd_91) rfl rfl rfl rfl h2 d_Core_assign_2 (fun H locs hH => ?_)
  refine lv_aload_n hx hb d_Core_assign_5 rfl (lv_at hl 0 rfl) ?_
  refine lv_lload_n hx hb d_Core_assign_6 rfl (lv_at hl 2 rfl) ?_
  obtain ⟨w3, h4, hsh⟩ := im_bd hsh
  refine im_put (v := .long x3) hx hb hts inC_Core tyC_Core tyC_Core_ok nmC_Core hown hK hH (ci := 1) rfl 1 (by decide) (hts _ wd_93) rfl rfl rfl rfl h4 d_Core_assign_7 (fun H locs hH => ?_)
  refine lv_aload_n hx hb d_Core_assign_10 rfl (lv_at hl 0 rfl) ?_
  refine lv_lload hx hb d_Core_assign_11 (lv_at hl 3 rfl) ?_
  obtain ⟨w5, h6, hsh⟩ := im_bd hsh
  refine im_put (v := .long x5) hx hb hts inC_Core tyC_Core tyC_Core_ok nmC_Core hown hK hH (ci := 1) rfl 2 (by decide) (hts _ wd_95) rfl rfl rfl rfl h6 d_Core_assign_13 (fun H locs hH => ?_)
  obtain rfl := Option.some.inj hsh
  exact im_vret hx hb hr hlk hH d_Core_assign_16
theorem wd_7 : (Jvm.Cond.initialized "LanguageTags$Core") ∈ im_T := im_memT (i := 7) (by decide +kernel) (by decide +kernel)
theorem wd_389 : (Jvm.Cond.instanceMethod ({ cls := "LanguageTags$Core", name := "assign", desc := "(JJJ)V" } : Jvm.MethodName)) ∈ im_T := im_memT (i := 389) (by decide +kernel) (by decide +kernel)
theorem wd_390 : (Jvm.Cond.selects "LanguageTags$Core" ({ cls := "LanguageTags$Core", name := "assign", desc := "(JJJ)V" } : Jvm.MethodName) ({ cls := "LanguageTags$Core", name := "assign", desc := "(JJJ)V" } : Jvm.MethodName)) ∈ im_T := im_memT (i := 390) (by decide +kernel) (by decide +kernel)
theorem wd_391 : (Jvm.Cond.code ({ cls := "LanguageTags$Core", name := "assign", desc := "(JJJ)V" } : Jvm.MethodName) prog_3_method_2_code (7 : Nat) (Option.none : Option Jvm.ClassFile.FieldType)) ∈ im_T := im_memT (i := 391) (by decide +kernel) (by decide +kernel)
theorem wd_446 : (Jvm.Cond.methodLink "LanguageTags$Core" (21 : Nat) ({ cls := "LanguageTags$Core", name := "assign", desc := "(JJJ)V" } : Jvm.MethodName)) ∈ im_T := im_memT (i := 446) (by decide +kernel) (by decide +kernel)
theorem d_Core_copyFrom_0 : decode c_Core_copyFrom 0 = .ok (.aload_n 0, 1) := by decide +kernel
theorem d_Core_copyFrom_1 : decode c_Core_copyFrom 1 = .ok (.aload_n 1, 1) := by decide +kernel
theorem d_Core_copyFrom_2 : decode c_Core_copyFrom 2 = .ok (.getfield 9, 3) := by decide +kernel
theorem d_Core_copyFrom_5 : decode c_Core_copyFrom 5 = .ok (.aload_n 1, 1) := by decide +kernel
theorem d_Core_copyFrom_6 : decode c_Core_copyFrom 6 = .ok (.getfield 15, 3) := by decide +kernel
theorem d_Core_copyFrom_9 : decode c_Core_copyFrom 9 = .ok (.aload_n 1, 1) := by decide +kernel
theorem d_Core_copyFrom_10 : decode c_Core_copyFrom 10 = .ok (.getfield 18, 3) := by decide +kernel
theorem d_Core_copyFrom_13 : decode c_Core_copyFrom 13 = .ok (.invokevirtual 21, 3) := by decide +kernel
theorem d_Core_copyFrom_16 : decode c_Core_copyFrom 16 = .ok (.return_, 1) := by decide +kernel
def sh_Core_copyFrom (F : Nat) (x0 : Nat) (x1 : Nat) (w : im_W) : Option (im_W) :=
  (im_gL w 1 x1 0).bind fun f1 => (im_gL w 1 x1 1).bind fun f3 => (im_gL w 1 x1 2).bind fun f5 => (im_is w 1 x0).bind fun u7 => (sh_Core_assign F x0 f1 f3 f5 w).bind fun w11 => some w11
set_option maxHeartbeats 4000000 in
set_option maxRecDepth 100000 in
theorem met_Core_copyFrom {F : Nat} {x0 : Nat} {x1 : Nat} {w : im_W} {r : im_W} (hsh : sh_Core_copyFrom F x0 x1 w = some r) : Met l y_Core_copyFrom (Cond.code y_Core_copyFrom c_Core_copyFrom 2 none :: im_T) (im_rm 1 26) (im_Pre D vwCl tA lo im_NW [.ref (lo + x0), .ref (lo + x1)] w) (im_Post D vwCl tA lo none r) 0 0 (fun q => lo ≤ q) := by
  refine im_ofW (cc := c_Core_copyFrom) (nL := 2) (ret := none) (by decide) (Nat.le_of_ble_eq_true rfl) ?_
  intro p e s m args below meth c X H locs ls hH hl
  obtain ⟨hx, hb, hr, hts, hown, hlk, hml, hK, hN⟩ := id X
  have hl : lv_has ls 2 [(0, .ref (lo + x0)), (1, .ref (lo + x1))] := hl
  unfold sh_Core_copyFrom at hsh
  refine lv_aload_n hx hb d_Core_copyFrom_0 rfl (lv_at hl 0 rfl) ?_
  refine lv_aload_n hx hb d_Core_copyFrom_1 rfl (lv_at hl 1 rfl) ?_
  obtain ⟨f1, h2, hsh⟩ := im_bd hsh
  refine im_getL hx hb hts inC_Core hown hK hH (ci := 1) rfl 0 (by decide) (hts _ wd_91) rfl h2 d_Core_copyFrom_2 ?_
  refine lv_aload_n hx hb d_Core_copyFrom_5 rfl (lv_at hl 1 rfl) ?_
  obtain ⟨f3, h4, hsh⟩ := im_bd hsh
  refine im_getL hx hb hts inC_Core hown hK hH (ci := 1) rfl 1 (by decide) (hts _ wd_93) rfl h4 d_Core_copyFrom_6 ?_
  refine lv_aload_n hx hb d_Core_copyFrom_9 rfl (lv_at hl 1 rfl) ?_
  obtain ⟨f5, h6, hsh⟩ := im_bd hsh
  refine im_getL hx hb hts inC_Core hown hK hH (ci := 1) rfl 2 (by decide) (hts _ wd_95) rfl h6 d_Core_copyFrom_10 ?_
  obtain ⟨u7, h8, hsh⟩ := im_bd hsh
  obtain ⟨g9, h10⟩ := im_is_s h8
  obtain ⟨w11, h12, hsh⟩ := im_bd hsh
  refine im_afterV (va_runV (As := [.long f1, .long f3, .long f5]) (rest := []) (C := RC_Core) ⟨hx, hb, hml, hown, hts⟩ (met_Core_assign h12) ⟨(callB_of 3 hts (im_good wd_391) rfl rfl rfl (hts _ wd_7) (hts _ wd_446) (by decide +kernel) ⟨Nat.le_of_ble_eq_true rfl, Nat.le_of_ble_eq_true rfl⟩), hts _ wd_389, hts _ wd_390⟩ (im_preV im_NW_ok hK hN hH (ci := 1) rfl rfl h10 _) rfl rfl hl.1 rfl (lv_room (Nat.le_of_ble_eq_true rfl)) d_Core_copyFrom_13 ⟨Nat.le_of_ble_eq_true rfl, Nat.le_of_ble_eq_true rfl⟩) hH (fun H locs hH => ?_)
  obtain rfl := Option.some.inj hsh
  exact im_vret hx hb hr hlk hH d_Core_copyFrom_16
theorem d_Core_hasScript_0 : decode c_Core_hasScript 0 = .ok (.aload_n 0, 1) := by decide +kernel
theorem d_Core_hasScript_1 : decode c_Core_hasScript 1 = .ok (.getfield 15, 3) := by decide +kernel
theorem d_Core_hasScript_4 : decode c_Core_hasScript 4 = .ok (.lconst 0, 1) := by decide +kernel
theorem d_Core_hasScript_5 : decode c_Core_hasScript 5 = .ok (.lcmp, 1) := by decide +kernel
theorem d_Core_hasScript_6 : decode c_Core_hasScript 6 = .ok (.ifCond .eq (7), 3) := by decide +kernel
theorem d_Core_hasScript_9 : decode c_Core_hasScript 9 = .ok (.iconst 1, 1) := by decide +kernel
theorem d_Core_hasScript_10 : decode c_Core_hasScript 10 = .ok (.goto (4), 3) := by decide +kernel
theorem d_Core_hasScript_13 : decode c_Core_hasScript 13 = .ok (.iconst 0, 1) := by decide +kernel
theorem d_Core_hasScript_14 : decode c_Core_hasScript 14 = .ok (.ireturn, 1) := by decide +kernel
def sh_Core_hasScript_14 (F : Nat) (y0 : Int32) (w : im_W) : Option (Int32 × im_W) :=
  im_rz y0 w
set_option maxHeartbeats 4000000 in
set_option maxRecDepth 100000 in
theorem bk_Core_hasScript_14 {F : Nat} {r : Int32 × im_W} (X : im_X D vwCl tA lo im_NW c_Core_hasScript 1 (some .boolean) RC_Core im_T p s m args meth c) (y0 : Int32) (w : im_W) (hsh : sh_Core_hasScript_14 F y0 w = some r) : im_WW D vwCl tA lo 1 p l e (im_rm 0 0) s m args below meth c 0 0 (MQ below (im_Post D vwCl tA lo (some (.int r.1)) r.2) args s 0 0 (fun q => lo ≤ q)) 14 [] [.int y0] w := by
  obtain ⟨hx, hb, hr, hts, hown, hlk, hml, hK, hN⟩ := id X
  intro H locs ls hH hl
  unfold sh_Core_hasScript_14 at hsh
  obtain ⟨rfl, hn⟩ := im_rz_s hsh
  exact im_zret hx hb hr hlk hn hH d_Core_hasScript_14
def sh_Core_hasScript (F : Nat) (x0 : Nat) (w : im_W) : Option (Int32 × im_W) :=
  (im_gL w 1 x0 1).bind fun f1 => (if (lg_cmp f1 (0 : Int64)) = 0 then sh_Core_hasScript_14 F (0 : Int32) w else sh_Core_hasScript_14 F (1 : Int32) w)
set_option maxHeartbeats 4000000 in
set_option maxRecDepth 100000 in
theorem met_Core_hasScript {F : Nat} {x0 : Nat} {w : im_W} {r : Int32 × im_W} (hsh : sh_Core_hasScript F x0 w = some r) : Met l y_Core_hasScript (Cond.code y_Core_hasScript c_Core_hasScript 1 (some .boolean) :: im_T) (im_rm 0 0) (im_Pre D vwCl tA lo im_NW [.ref (lo + x0)] w) (im_Post D vwCl tA lo (some (.int r.1)) r.2) 0 0 (fun q => lo ≤ q) := by
  refine im_ofW (cc := c_Core_hasScript) (nL := 1) (ret := (some .boolean)) (by decide) (Nat.le_of_ble_eq_true rfl) ?_
  intro p e s m args below meth c X H locs ls hH hl
  obtain ⟨hx, hb, hr, hts, hown, hlk, hml, hK, hN⟩ := id X
  have hl : lv_has ls 1 [(0, .ref (lo + x0))] := hl
  unfold sh_Core_hasScript at hsh
  refine lv_aload_n hx hb d_Core_hasScript_0 rfl (lv_at hl 0 rfl) ?_
  obtain ⟨f1, h2, hsh⟩ := im_bd hsh
  refine im_getL hx hb hts inC_Core hown hK hH (ci := 1) rfl 1 (by decide) (hts _ wd_93) rfl h2 d_Core_hasScript_1 ?_
  refine lv_lconst (v := 0) hx hb d_Core_hasScript_4 (by decide) ?_
  refine W.lcmp hx hb d_Core_hasScript_5 ?_
  refine lv_if_eq (tgt := 13) hx hb d_Core_hasScript_6 (by decide) (fun cc => ?_) (fun cc => ?_)
  · have hsh := im_it hsh cc
    refine lv_iconst (v := 0) hx hb d_Core_hasScript_13 (by decide) ?_
    exact bk_Core_hasScript_14 X (0 : Int32) w hsh H locs ls hH (lv_sub hl [] rfl)
  · have hsh := im_if hsh cc
    refine lv_iconst (v := 1) hx hb d_Core_hasScript_9 (by decide) ?_
    refine lv_goto (tgt := 14) hx hb d_Core_hasScript_10 (by decide) ?_
    exact bk_Core_hasScript_14 X (1 : Int32) w hsh H locs ls hH (lv_sub hl [] rfl)
theorem d_Core_hasRegion_0 : decode c_Core_hasRegion 0 = .ok (.aload_n 0, 1) := by decide +kernel
theorem d_Core_hasRegion_1 : decode c_Core_hasRegion 1 = .ok (.getfield 18, 3) := by decide +kernel
theorem d_Core_hasRegion_4 : decode c_Core_hasRegion 4 = .ok (.lconst 0, 1) := by decide +kernel
theorem d_Core_hasRegion_5 : decode c_Core_hasRegion 5 = .ok (.lcmp, 1) := by decide +kernel
theorem d_Core_hasRegion_6 : decode c_Core_hasRegion 6 = .ok (.ifCond .eq (7), 3) := by decide +kernel
theorem d_Core_hasRegion_9 : decode c_Core_hasRegion 9 = .ok (.iconst 1, 1) := by decide +kernel
theorem d_Core_hasRegion_10 : decode c_Core_hasRegion 10 = .ok (.goto (4), 3) := by decide +kernel
theorem d_Core_hasRegion_13 : decode c_Core_hasRegion 13 = .ok (.iconst 0, 1) := by decide +kernel
theorem d_Core_hasRegion_14 : decode c_Core_hasRegion 14 = .ok (.ireturn, 1) := by decide +kernel
def sh_Core_hasRegion_14 (F : Nat) (y0 : Int32) (w : im_W) : Option (Int32 × im_W) :=
  im_rz y0 w
set_option maxHeartbeats 4000000 in
set_option maxRecDepth 100000 in
theorem bk_Core_hasRegion_14 {F : Nat} {r : Int32 × im_W} (X : im_X D vwCl tA lo im_NW c_Core_hasRegion 1 (some .boolean) RC_Core im_T p s m args meth c) (y0 : Int32) (w : im_W) (hsh : sh_Core_hasRegion_14 F y0 w = some r) : im_WW D vwCl tA lo 1 p l e (im_rm 0 0) s m args below meth c 0 0 (MQ below (im_Post D vwCl tA lo (some (.int r.1)) r.2) args s 0 0 (fun q => lo ≤ q)) 14 [] [.int y0] w := by
  obtain ⟨hx, hb, hr, hts, hown, hlk, hml, hK, hN⟩ := id X
  intro H locs ls hH hl
  unfold sh_Core_hasRegion_14 at hsh
  obtain ⟨rfl, hn⟩ := im_rz_s hsh
  exact im_zret hx hb hr hlk hn hH d_Core_hasRegion_14
def sh_Core_hasRegion (F : Nat) (x0 : Nat) (w : im_W) : Option (Int32 × im_W) :=
  (im_gL w 1 x0 2).bind fun f1 => (if (lg_cmp f1 (0 : Int64)) = 0 then sh_Core_hasRegion_14 F (0 : Int32) w else sh_Core_hasRegion_14 F (1 : Int32) w)
set_option maxHeartbeats 4000000 in
set_option maxRecDepth 100000 in
theorem met_Core_hasRegion {F : Nat} {x0 : Nat} {w : im_W} {r : Int32 × im_W} (hsh : sh_Core_hasRegion F x0 w = some r) : Met l y_Core_hasRegion (Cond.code y_Core_hasRegion c_Core_hasRegion 1 (some .boolean) :: im_T) (im_rm 0 0) (im_Pre D vwCl tA lo im_NW [.ref (lo + x0)] w) (im_Post D vwCl tA lo (some (.int r.1)) r.2) 0 0 (fun q => lo ≤ q) := by
  refine im_ofW (cc := c_Core_hasRegion) (nL := 1) (ret := (some .boolean)) (by decide) (Nat.le_of_ble_eq_true rfl) ?_
  intro p e s m args below meth c X H locs ls hH hl
  obtain ⟨hx, hb, hr, hts, hown, hlk, hml, hK, hN⟩ := id X
  have hl : lv_has ls 1 [(0, .ref (lo + x0))] := hl
  unfold sh_Core_hasRegion at hsh
  refine lv_aload_n hx hb d_Core_hasRegion_0 rfl (lv_at hl 0 rfl) ?_
  obtain ⟨f1, h2, hsh⟩ := im_bd hsh
  refine im_getL hx hb hts inC_Core hown hK hH (ci := 1) rfl 2 (by decide) (hts _ wd_95) rfl h2 d_Core_hasRegion_1 ?_
  refine lv_lconst (v := 0) hx hb d_Core_hasRegion_4 (by decide) ?_
  refine W.lcmp hx hb d_Core_hasRegion_5 ?_
  refine lv_if_eq (tgt := 13) hx hb d_Core_hasRegion_6 (by decide) (fun cc => ?_) (fun cc => ?_)
  · have hsh := im_it hsh cc
    refine lv_iconst (v := 0) hx hb d_Core_hasRegion_13 (by decide) ?_
    exact bk_Core_hasRegion_14 X (0 : Int32) w hsh H locs ls hH (lv_sub hl [] rfl)
  · have hsh := im_if hsh cc
    refine lv_iconst (v := 1) hx hb d_Core_hasRegion_9 (by decide) ?_
    refine lv_goto (tgt := 14) hx hb d_Core_hasRegion_10 (by decide) ?_
    exact bk_Core_hasRegion_14 X (1 : Int32) w hsh H locs ls hH (lv_sub hl [] rfl)
theorem wd_517 : (Jvm.Cond.constantLong "LanguageTags$Core" (25 : Nat) (8461810701038518272 : Int64)) ∈ im_T := im_memT (i := 517) (by decide +kernel) (by decide +kernel)
theorem d_Core_isUnd_0 : decode c_Core_isUnd 0 = .ok (.aload_n 0, 1) := by decide +kernel
theorem d_Core_isUnd_1 : decode c_Core_isUnd 1 = .ok (.getfield 9, 3) := by decide +kernel
theorem d_Core_isUnd_4 : decode c_Core_isUnd 4 = .ok (.ldc2_w 25, 3) := by decide +kernel
theorem d_Core_isUnd_7 : decode c_Core_isUnd 7 = .ok (.lcmp, 1) := by decide +kernel
theorem d_Core_isUnd_8 : decode c_Core_isUnd 8 = .ok (.ifCond .ne (7), 3) := by decide +kernel
theorem d_Core_isUnd_11 : decode c_Core_isUnd 11 = .ok (.iconst 1, 1) := by decide +kernel
theorem d_Core_isUnd_12 : decode c_Core_isUnd 12 = .ok (.goto (4), 3) := by decide +kernel
theorem d_Core_isUnd_15 : decode c_Core_isUnd 15 = .ok (.iconst 0, 1) := by decide +kernel
theorem d_Core_isUnd_16 : decode c_Core_isUnd 16 = .ok (.ireturn, 1) := by decide +kernel
def sh_Core_isUnd_16 (F : Nat) (y0 : Int32) (w : im_W) : Option (Int32 × im_W) :=
  im_rz y0 w
set_option maxHeartbeats 4000000 in
set_option maxRecDepth 100000 in
theorem bk_Core_isUnd_16 {F : Nat} {r : Int32 × im_W} (X : im_X D vwCl tA lo im_NW c_Core_isUnd 1 (some .boolean) RC_Core im_T p s m args meth c) (y0 : Int32) (w : im_W) (hsh : sh_Core_isUnd_16 F y0 w = some r) : im_WW D vwCl tA lo 1 p l e (im_rm 0 0) s m args below meth c 0 0 (MQ below (im_Post D vwCl tA lo (some (.int r.1)) r.2) args s 0 0 (fun q => lo ≤ q)) 16 [] [.int y0] w := by
  obtain ⟨hx, hb, hr, hts, hown, hlk, hml, hK, hN⟩ := id X
  intro H locs ls hH hl
  unfold sh_Core_isUnd_16 at hsh
  obtain ⟨rfl, hn⟩ := im_rz_s hsh
  exact im_zret hx hb hr hlk hn hH d_Core_isUnd_16
def sh_Core_isUnd (F : Nat) (x0 : Nat) (w : im_W) : Option (Int32 × im_W) :=
  (im_gL w 1 x0 0).bind fun f1 => (if (lg_cmp f1 (8461810701038518272 : Int64)) = 0 then sh_Core_isUnd_16 F (1 : Int32) w else sh_Core_isUnd_16 F (0 : Int32) w)
set_option maxHeartbeats 4000000 in
set_option maxRecDepth 100000 in
theorem met_Core_isUnd {F : Nat} {x0 : Nat} {w : im_W} {r : Int32 × im_W} (hsh : sh_Core_isUnd F x0 w = some r) : Met l y_Core_isUnd (Cond.code y_Core_isUnd c_Core_isUnd 1 (some .boolean) :: im_T) (im_rm 0 0) (im_Pre D vwCl tA lo im_NW [.ref (lo + x0)] w) (im_Post D vwCl tA lo (some (.int r.1)) r.2) 0 0 (fun q => lo ≤ q) := by
  refine im_ofW (cc := c_Core_isUnd) (nL := 1) (ret := (some .boolean)) (by decide) (Nat.le_of_ble_eq_true rfl) ?_
  intro p e s m args below meth c X H locs ls hH hl
  obtain ⟨hx, hb, hr, hts, hown, hlk, hml, hK, hN⟩ := id X
  have hl : lv_has ls 1 [(0, .ref (lo + x0))] := hl
  unfold sh_Core_isUnd at hsh
  refine lv_aload_n hx hb d_Core_isUnd_0 rfl (lv_at hl 0 rfl) ?_
  obtain ⟨f1, h2, hsh⟩ := im_bd hsh
  refine im_getL hx hb hts inC_Core hown hK hH (ci := 1) rfl 0 (by decide) (hts _ wd_91) rfl h2 d_Core_isUnd_1 ?_
  refine lv_ldc2 (v := 8461810701038518272) hx hb hown (hts _ wd_517) d_Core_isUnd_4 ?_
  refine W.lcmp hx hb d_Core_isUnd_7 ?_
  refine lv_if_ne (tgt := 15) hx hb d_Core_isUnd_8 (by decide) (fun cc => ?_) (fun cc => ?_)
  · have hsh := im_if hsh cc
    refine lv_iconst (v := 0) hx hb d_Core_isUnd_15 (by decide) ?_
    exact bk_Core_isUnd_16 X (0 : Int32) w hsh H locs ls hH (lv_sub hl [] rfl)
  · have hsh := im_it hsh cc
    refine lv_iconst (v := 1) hx hb d_Core_isUnd_11 (by decide) ?_
    refine lv_goto (tgt := 16) hx hb d_Core_isUnd_12 (by decide) ?_
    exact bk_Core_isUnd_16 X (1 : Int32) w hsh H locs ls hH (lv_sub hl [] rfl)
theorem wd_397 : (Jvm.Cond.instanceMethod ({ cls := "LanguageTags$Core", name := "hasScript", desc := "()Z" } : Jvm.MethodName)) ∈ im_T := im_memT (i := 397) (by decide +kernel) (by decide +kernel)
theorem wd_398 : (Jvm.Cond.selects "LanguageTags$Core" ({ cls := "LanguageTags$Core", name := "hasScript", desc := "()Z" } : Jvm.MethodName) ({ cls := "LanguageTags$Core", name := "hasScript", desc := "()Z" } : Jvm.MethodName)) ∈ im_T := im_memT (i := 398) (by decide +kernel) (by decide +kernel)
theorem wd_399 : (Jvm.Cond.code ({ cls := "LanguageTags$Core", name := "hasScript", desc := "()Z" } : Jvm.MethodName) prog_3_method_4_code (1 : Nat) (Option.some Jvm.ClassFile.FieldType.boolean)) ∈ im_T := im_memT (i := 399) (by decide +kernel) (by decide +kernel)
theorem wd_401 : (Jvm.Cond.instanceMethod ({ cls := "LanguageTags$Core", name := "hasRegion", desc := "()Z" } : Jvm.MethodName)) ∈ im_T := im_memT (i := 401) (by decide +kernel) (by decide +kernel)
theorem wd_402 : (Jvm.Cond.selects "LanguageTags$Core" ({ cls := "LanguageTags$Core", name := "hasRegion", desc := "()Z" } : Jvm.MethodName) ({ cls := "LanguageTags$Core", name := "hasRegion", desc := "()Z" } : Jvm.MethodName)) ∈ im_T := im_memT (i := 402) (by decide +kernel) (by decide +kernel)
theorem wd_403 : (Jvm.Cond.code ({ cls := "LanguageTags$Core", name := "hasRegion", desc := "()Z" } : Jvm.MethodName) prog_3_method_5_code (1 : Nat) (Option.some Jvm.ClassFile.FieldType.boolean)) ∈ im_T := im_memT (i := 403) (by decide +kernel) (by decide +kernel)
theorem wd_463 : (Jvm.Cond.methodLink "LanguageTags$Core" (27 : Nat) ({ cls := "LanguageTags$Core", name := "hasScript", desc := "()Z" } : Jvm.MethodName)) ∈ im_T := im_memT (i := 463) (by decide +kernel) (by decide +kernel)
theorem wd_464 : (Jvm.Cond.methodLink "LanguageTags$Core" (31 : Nat) ({ cls := "LanguageTags$Core", name := "hasRegion", desc := "()Z" } : Jvm.MethodName)) ∈ im_T := im_memT (i := 464) (by decide +kernel) (by decide +kernel)
theorem d_Core_count_0 : decode c_Core_count 0 = .ok (.iconst 1, 1) := by decide +kernel
theorem d_Core_count_1 : decode c_Core_count 1 = .ok (.aload_n 0, 1) := by decide +kernel
theorem d_Core_count_2 : decode c_Core_count 2 = .ok (.invokevirtual 27, 3) := by decide +kernel
theorem d_Core_count_5 : decode c_Core_count 5 = .ok (.ifCond .eq (7), 3) := by decide +kernel
theorem d_Core_count_8 : decode c_Core_count 8 = .ok (.iconst 1, 1) := by decide +kernel
theorem d_Core_count_9 : decode c_Core_count 9 = .ok (.goto (4), 3) := by decide +kernel
theorem d_Core_count_12 : decode c_Core_count 12 = .ok (.iconst 0, 1) := by decide +kernel
theorem d_Core_count_13 : decode c_Core_count 13 = .ok (.iadd, 1) := by decide +kernel
theorem d_Core_count_14 : decode c_Core_count 14 = .ok (.aload_n 0, 1) := by decide +kernel
theorem d_Core_count_15 : decode c_Core_count 15 = .ok (.invokevirtual 31, 3) := by decide +kernel
theorem d_Core_count_18 : decode c_Core_count 18 = .ok (.ifCond .eq (7), 3) := by decide +kernel
theorem d_Core_count_21 : decode c_Core_count 21 = .ok (.iconst 1, 1) := by decide +kernel
theorem d_Core_count_22 : decode c_Core_count 22 = .ok (.goto (4), 3) := by decide +kernel
theorem d_Core_count_25 : decode c_Core_count 25 = .ok (.iconst 0, 1) := by decide +kernel
theorem d_Core_count_26 : decode c_Core_count 26 = .ok (.iadd, 1) := by decide +kernel
theorem d_Core_count_27 : decode c_Core_count 27 = .ok (.ireturn, 1) := by decide +kernel
def sh_Core_count_26 (F : Nat) (y0 : Int32) (y1 : Int32) (w : im_W) : Option (Int32 × im_W) :=
  some ((y1 + y0), w)
set_option maxHeartbeats 4000000 in
set_option maxRecDepth 100000 in
theorem bk_Core_count_26 {F : Nat} {r : Int32 × im_W} (X : im_X D vwCl tA lo im_NW c_Core_count 1 (some .int) RC_Core im_T p s m args meth c) (y0 : Int32) (y1 : Int32) (w : im_W) (hsh : sh_Core_count_26 F y0 y1 w = some r) : im_WW D vwCl tA lo 1 p l e (im_rm 1 20) s m args below meth c 0 0 (MQ below (im_Post D vwCl tA lo (some (.int r.1)) r.2) args s 0 0 (fun q => lo ≤ q)) 26 [] [.int y0, .int y1] w := by
  obtain ⟨hx, hb, hr, hts, hown, hlk, hml, hK, hN⟩ := id X
  intro H locs ls hH hl
  unfold sh_Core_count_26 at hsh
  refine lv_iadd hx hb d_Core_count_26 ?_
  obtain rfl := Option.some.inj hsh
  exact im_iret hx hb hr hlk hH d_Core_count_27
def sh_Core_count_13 (F : Nat) (x0 : Nat) (y0 : Int32) (y1 : Int32) (w : im_W) : Option (Int32 × im_W) :=
  (im_is w 1 x0).bind fun u1 => im_b2 (sh_Core_hasRegion F x0 w) fun v7 w5 => (if v7 = 0 then sh_Core_count_26 F (0 : Int32) (y1 + y0) w5 else sh_Core_count_26 F (1 : Int32) (y1 + y0) w5)
set_option maxHeartbeats 4000000 in
set_option maxRecDepth 100000 in
theorem bk_Core_count_13 {F : Nat} {r : Int32 × im_W} (X : im_X D vwCl tA lo im_NW c_Core_count 1 (some .int) RC_Core im_T p s m args meth c) (x0 : Nat) (y0 : Int32) (y1 : Int32) (w : im_W) (hsh : sh_Core_count_13 F x0 y0 y1 w = some r) : im_WW D vwCl tA lo 1 p l e (im_rm 1 20) s m args below meth c 0 0 (MQ below (im_Post D vwCl tA lo (some (.int r.1)) r.2) args s 0 0 (fun q => lo ≤ q)) 13 [(0, .ref (lo + x0))] [.int y0, .int y1] w := by
  obtain ⟨hx, hb, hr, hts, hown, hlk, hml, hK, hN⟩ := id X
  intro H locs ls hH hl
  unfold sh_Core_count_13 at hsh
  refine lv_iadd hx hb d_Core_count_13 ?_
  refine lv_aload_n hx hb d_Core_count_14 rfl (lv_at hl 0 rfl) ?_
  obtain ⟨u1, h2, hsh⟩ := im_bd hsh
  obtain ⟨g3, h4⟩ := im_is_s h2
  obtain ⟨v7, w5, h6, hsh⟩ := im_bd2 hsh
  refine im_afterI (va_runV (As := []) (rest := [.int (y1 + y0)]) (C := RC_Core) ⟨hx, hb, hml, hown, hts⟩ (met_Core_hasRegion h6) ⟨(callB_of 0 hts (im_good wd_403) rfl rfl rfl (hts _ wd_7) (hts _ wd_464) (by decide +kernel) ⟨Nat.le_of_ble_eq_true rfl, Nat.le_of_ble_eq_true rfl⟩), hts _ wd_401, hts _ wd_402⟩ (im_preV im_NW_ok hK hN hH (ci := 1) rfl rfl h4 _) rfl rfl hl.1 rfl (lv_room (Nat.le_of_ble_eq_true rfl)) d_Core_count_15 ⟨Nat.le_of_ble_eq_true rfl, Nat.le_of_ble_eq_true rfl⟩) hH (fun H locs hH => ?_)
  refine lv_if_eq (tgt := 25) hx hb d_Core_count_18 (by decide) (fun cc => ?_) (fun cc => ?_)
  · have hsh := im_it hsh cc
    refine lv_iconst (v := 0) hx hb d_Core_count_25 (by decide) ?_
    exact bk_Core_count_26 X (0 : Int32) (y1 + y0) w5 hsh H locs ls hH (lv_sub hl [] rfl)
  · have hsh := im_if hsh cc
    refine lv_iconst (v := 1) hx hb d_Core_count_21 (by decide) ?_
    refine lv_goto (tgt := 26) hx hb d_Core_count_22 (by decide) ?_
    exact bk_Core_count_26 X (1 : Int32) (y1 + y0) w5 hsh H locs ls hH (lv_sub hl [] rfl)
def sh_Core_count (F : Nat) (x0 : Nat) (w : im_W) : Option (Int32 × im_W) :=
  (im_is w 1 x0).bind fun u1 => im_b2 (sh_Core_hasScript F x0 w) fun v7 w5 => (if v7 = 0 then sh_Core_count_13 F x0 (0 : Int32) (1 : Int32) w5 else sh_Core_count_13 F x0 (1 : Int32) (1 : Int32) w5)
set_option maxHeartbeats 4000000 in
set_option maxRecDepth 100000 in
theorem met_Core_count {F : Nat} {x0 : Nat} {w : im_W} {r : Int32 × im_W} (hsh : sh_Core_count F x0 w = some r) : Met l y_Core_count (Cond.code y_Core_count c_Core_count 1 (some .int) :: im_T) (im_rm 1 20) (im_Pre D vwCl tA lo im_NW [.ref (lo + x0)] w) (im_Post D vwCl tA lo (some (.int r.1)) r.2) 0 0 (fun q => lo ≤ q) := by
  refine im_ofW (cc := c_Core_count) (nL := 1) (ret := (some .int)) (by decide) (Nat.le_of_ble_eq_true rfl) ?_
  intro p e s m args below meth c X H locs ls hH hl
  obtain ⟨hx, hb, hr, hts, hown, hlk, hml, hK, hN⟩ := id X
  have hl : lv_has ls 1 [(0, .ref (lo + x0))] := hl
  unfold sh_Core_count at hsh
  refine lv_iconst (v := 1) hx hb d_Core_count_0 (by decide) ?_
  refine lv_aload_n hx hb d_Core_count_1 rfl (lv_at hl 0 rfl) ?_
  obtain ⟨u1, h2, hsh⟩ := im_bd hsh
  obtain ⟨g3, h4⟩ := im_is_s h2
  obtain ⟨v7, w5, h6, hsh⟩ := im_bd2 hsh
  refine im_afterI (va_runV (As := []) (rest := [.int (1 : Int32)]) (C := RC_Core) ⟨hx, hb, hml, hown, hts⟩ (met_Core_hasScript h6) ⟨(callB_of 0 hts (im_good wd_399) rfl rfl rfl (hts _ wd_7) (hts _ wd_463) (by decide +kernel) ⟨Nat.le_of_ble_eq_true rfl, Nat.le_of_ble_eq_true rfl⟩), hts _ wd_397, hts _ wd_398⟩ (im_preV im_NW_ok hK hN hH (ci := 1) rfl rfl h4 _) rfl rfl hl.1 rfl (lv_room (Nat.le_of_ble_eq_true rfl)) d_Core_count_2 ⟨Nat.le_of_ble_eq_true rfl, Nat.le_of_ble_eq_true rfl⟩) hH (fun H locs hH => ?_)
  refine lv_if_eq (tgt := 12) hx hb d_Core_count_5 (by decide) (fun cc => ?_) (fun cc => ?_)
  · have hsh := im_it hsh cc
    refine lv_iconst (v := 0) hx hb d_Core_count_12 (by decide) ?_
    exact bk_Core_count_13 X x0 (0 : Int32) (1 : Int32) w5 hsh H locs ls hH (lv_sub hl [0] rfl)
  · have hsh := im_if hsh cc
    refine lv_iconst (v := 1) hx hb d_Core_count_8 (by decide) ?_
    refine lv_goto (tgt := 13) hx hb d_Core_count_9 (by decide) ?_
    exact bk_Core_count_13 X x0 (1 : Int32) (1 : Int32) w5 hsh H locs ls hH (lv_sub hl [0] rfl)
theorem d_Core_isMadeOf_0 : decode c_Core_isMadeOf 0 = .ok (.aload_n 0, 1) := by decide +kernel
theorem d_Core_isMadeOf_1 : decode c_Core_isMadeOf 1 = .ok (.getfield 9, 3) := by decide +kernel
theorem d_Core_isMadeOf_4 : decode c_Core_isMadeOf 4 = .ok (.lload_n 1, 1) := by decide +kernel
theorem d_Core_isMadeOf_5 : decode c_Core_isMadeOf 5 = .ok (.lcmp, 1) := by decide +kernel
theorem d_Core_isMadeOf_6 : decode c_Core_isMadeOf 6 = .ok (.ifCond .ne (26), 3) := by decide +kernel
theorem d_Core_isMadeOf_9 : decode c_Core_isMadeOf 9 = .ok (.aload_n 0, 1) := by decide +kernel
theorem d_Core_isMadeOf_10 : decode c_Core_isMadeOf 10 = .ok (.getfield 15, 3) := by decide +kernel
theorem d_Core_isMadeOf_13 : decode c_Core_isMadeOf 13 = .ok (.lload_n 3, 1) := by decide +kernel
theorem d_Core_isMadeOf_14 : decode c_Core_isMadeOf 14 = .ok (.lcmp, 1) := by decide +kernel
theorem d_Core_isMadeOf_15 : decode c_Core_isMadeOf 15 = .ok (.ifCond .ne (17), 3) := by decide +kernel
theorem d_Core_isMadeOf_18 : decode c_Core_isMadeOf 18 = .ok (.aload_n 0, 1) := by decide +kernel
theorem d_Core_isMadeOf_19 : decode c_Core_isMadeOf 19 = .ok (.getfield 18, 3) := by decide +kernel
theorem d_Core_isMadeOf_22 : decode c_Core_isMadeOf 22 = .ok (.lload 5, 2) := by decide +kernel
theorem d_Core_isMadeOf_24 : decode c_Core_isMadeOf 24 = .ok (.lcmp, 1) := by decide +kernel
theorem d_Core_isMadeOf_25 : decode c_Core_isMadeOf 25 = .ok (.ifCond .ne (7), 3) := by decide +kernel
theorem d_Core_isMadeOf_28 : decode c_Core_isMadeOf 28 = .ok (.iconst 1, 1) := by decide +kernel
theorem d_Core_isMadeOf_29 : decode c_Core_isMadeOf 29 = .ok (.goto (4), 3) := by decide +kernel
theorem d_Core_isMadeOf_32 : decode c_Core_isMadeOf 32 = .ok (.iconst 0, 1) := by decide +kernel
theorem d_Core_isMadeOf_33 : decode c_Core_isMadeOf 33 = .ok (.ireturn, 1) := by decide +kernel
def sh_Core_isMadeOf_33 (F : Nat) (y0 : Int32) (w : im_W) : Option (Int32 × im_W) :=
  im_rz y0 w
set_option maxHeartbeats 4000000 in
set_option maxRecDepth 100000 in
theorem bk_Core_isMadeOf_33 {F : Nat} {r : Int32 × im_W} (X : im_X D vwCl tA lo im_NW c_Core_isMadeOf 7 (some .boolean) RC_Core im_T p s m args meth c) (y0 : Int32) (w : im_W) (hsh : sh_Core_isMadeOf_33 F y0 w = some r) : im_WW D vwCl tA lo 7 p l e (im_rm 0 0) s m args below meth c 0 0 (MQ below (im_Post D vwCl tA lo (some (.int r.1)) r.2) args s 0 0 (fun q => lo ≤ q)) 33 [] [.int y0] w := by
  obtain ⟨hx, hb, hr, hts, hown, hlk, hml, hK, hN⟩ := id X
  intro H locs ls hH hl
  unfold sh_Core_isMadeOf_33 at hsh
  obtain ⟨rfl, hn⟩ := im_rz_s hsh
  exact im_zret hx hb hr hlk hn hH d_Core_isMadeOf_33
def sh_Core_isMadeOf_32 (F : Nat)  (w : im_W) : Option (Int32 × im_W) :=
  sh_Core_isMadeOf_33 F (0 : Int32) w
set_option maxHeartbeats 4000000 in
set_option maxRecDepth 100000 in
theorem bk_Core_isMadeOf_32 {F : Nat} {r : Int32 × im_W} (X : im_X D vwCl tA lo im_NW c_Core_isMadeOf 7 (some .boolean) RC_Core im_T p s m args meth c)  (w : im_W) (hsh : sh_Core_isMadeOf_32 F w = some r) : im_WW D vwCl tA lo 7 p l e (im_rm 0 0) s m args below meth c 0 0 (MQ below (im_Post D vwCl tA lo (some (.int r.1)) r.2) args s 0 0 (fun q => lo ≤ q)) 32 [] [] w := by
  obtain ⟨hx, hb, hr, hts, hown, hlk, hml, hK, hN⟩ := id X
  intro H locs ls hH hl
  unfold sh_Core_isMadeOf_32 at hsh
  refine lv_iconst (v := 0) hx hb d_Core_isMadeOf_32 (by decide) ?_
  exact bk_Core_isMadeOf_33 X (0 : Int32) w hsh H locs ls hH (lv_sub hl [] rfl)
def sh_Core_isMadeOf (F : Nat) (x0 : Nat) (x1 : Int64) (x3 : Int64) (x5 : Int64) (w : im_W) : Option (Int32 × im_W) :=
  (im_gL w 1 x0 0).bind fun f1 => (if (lg_cmp f1 x1) = 0 then (im_gL w 1 x0 1).bind fun f3 => (if (lg_cmp f3 x3) = 0 then (im_gL w 1 x0 2).bind fun f5 => (if (lg_cmp f5 x5) = 0 then sh_Core_isMadeOf_33 F (1 : Int32) w else sh_Core_isMadeOf_32 F w) else sh_Core_isMadeOf_32 F w) else sh_Core_isMadeOf_32 F w)
set_option maxHeartbeats 4000000 in
set_option maxRecDepth 100000 in
theorem met_Core_isMadeOf {F : Nat} {x0 : Nat} {x1 : Int64} {x3 : Int64} {x5 : Int64} {w : im_W} {r : Int32 × im_W} (hsh : sh_Core_isMadeOf F x0 x1 x3 x5 w = some r) : Met l y_Core_isMadeOf (Cond.code y_Core_isMadeOf c_Core_isMadeOf 7 (some .boolean) :: im_T) (im_rm 0 0) (im_Pre D vwCl tA lo im_NW [.ref (lo + x0), .long x1, .long x3, .long x5] w) (im_Post D vwCl tA lo (some (.int r.1)) r.2) 0 0 (fun q => lo ≤ q) := by
  refine im_ofW (cc := c_Core_isMadeOf) (nL := 7) (ret := (some .boolean)) (by decide) (Nat.le_of_ble_eq_true rfl) ?_
  intro p e s m args below meth c X H locs ls hH hl
  obtain ⟨hx, hb, hr, hts, hown, hlk, hml, hK, hN⟩ := id X
  have hl : lv_has ls 7 [(0, .ref (lo + x0)), (1, .long x1), (3, .long x3), (5, .long x5)] := hl
  unfold sh_Core_isMadeOf at hsh
  refine lv_aload_n hx hb d_Core_isMadeOf_0 rfl (lv_at hl 0 rfl) ?_
  obtain ⟨f1, h2, hsh⟩ := im_bd hsh
  refine im_getL hx hb hts inC_Core hown hK hH (ci := 1) rfl 0 (by decide) (hts _ wd_91) rfl h2 d_Core_isMadeOf_1 ?_
  refine lv_lload_n hx hb d_Core_isMadeOf_4 rfl (lv_at hl 1 rfl) ?_
  refine W.lcmp hx hb d_Core_isMadeOf_5 ?_
  refine lv_if_ne (tgt := 32) hx hb d_Core_isMadeOf_6 (by decide) (fun cc => ?_) (fun cc => ?_)
  · have hsh := im_if hsh cc
    exact bk_Core_isMadeOf_32 X w hsh H locs ls hH (lv_sub hl [] rfl)
  · have hsh := im_it hsh cc
    refine lv_aload_n hx hb d_Core_isMadeOf_9 rfl (lv_at hl 0 rfl) ?_
    obtain ⟨f3, h4, hsh⟩ := im_bd hsh
    refine im_getL hx hb hts inC_Core hown hK hH (ci := 1) rfl 1 (by decide) (hts _ wd_93) rfl h4 d_Core_isMadeOf_10 ?_
    refine lv_lload_n hx hb d_Core_isMadeOf_13 rfl (lv_at hl 2 rfl) ?_
    refine W.lcmp hx hb d_Core_isMadeOf_14 ?_
    refine lv_if_ne (tgt := 32) hx hb d_Core_isMadeOf_15 (by decide) (fun cc => ?_) (fun cc => ?_)
    · have hsh := im_if hsh cc
      exact bk_Core_isMadeOf_32 X w hsh H locs ls hH (lv_sub hl [] rfl)
    · have hsh := im_it hsh cc
      refine lv_aload_n hx hb d_Core_isMadeOf_18 rfl (lv_at hl 0 rfl) ?_
      obtain ⟨f5, h6, hsh⟩ := im_bd hsh
      refine im_getL hx hb hts inC_Core hown hK hH (ci := 1) rfl 2 (by decide) (hts _ wd_95) rfl h6 d_Core_isMadeOf_19 ?_
      refine lv_lload hx hb d_Core_isMadeOf_22 (lv_at hl 3 rfl) ?_
      refine W.lcmp hx hb d_Core_isMadeOf_24 ?_
      refine lv_if_ne (tgt := 32) hx hb d_Core_isMadeOf_25 (by decide) (fun cc => ?_) (fun cc => ?_)
      · have hsh := im_if hsh cc
        exact bk_Core_isMadeOf_32 X w hsh H locs ls hH (lv_sub hl [] rfl)
      · have hsh := im_it hsh cc
        refine lv_iconst (v := 1) hx hb d_Core_isMadeOf_28 (by decide) ?_
        refine lv_goto (tgt := 33) hx hb d_Core_isMadeOf_29 (by decide) ?_
        exact bk_Core_isMadeOf_33 X (1 : Int32) w hsh H locs ls hH (lv_sub hl [] rfl)
theorem wd_527 : (Jvm.Cond.instanceMethod ({ cls := "LanguageTags$Core", name := "isMadeOf", desc := "(JJJ)Z" } : Jvm.MethodName)) ∈ im_T := im_memT (i := 527) (by decide +kernel) (by decide +kernel)
theorem wd_528 : (Jvm.Cond.selects "LanguageTags$Core" ({ cls := "LanguageTags$Core", name := "isMadeOf", desc := "(JJJ)Z" } : Jvm.MethodName) ({ cls := "LanguageTags$Core", name := "isMadeOf", desc := "(JJJ)Z" } : Jvm.MethodName)) ∈ im_T := im_memT (i := 528) (by decide +kernel) (by decide +kernel)
theorem wd_529 : (Jvm.Cond.code ({ cls := "LanguageTags$Core", name := "isMadeOf", desc := "(JJJ)Z" } : Jvm.MethodName) prog_3_method_8_code (7 : Nat) (Option.some Jvm.ClassFile.FieldType.boolean)) ∈ im_T := im_memT (i := 529) (by decide +kernel) (by decide +kernel)
theorem wd_550 : (Jvm.Cond.methodLink "LanguageTags$Core" (34 : Nat) ({ cls := "LanguageTags$Core", name := "isMadeOf", desc := "(JJJ)Z" } : Jvm.MethodName)) ∈ im_T := im_memT (i := 550) (by decide +kernel) (by decide +kernel)
theorem d_Core_isSame_0 : decode c_Core_isSame 0 = .ok (.aload_n 0, 1) := by decide +kernel
theorem d_Core_isSame_1 : decode c_Core_isSame 1 = .ok (.aload_n 1, 1) := by decide +kernel
theorem d_Core_isSame_2 : decode c_Core_isSame 2 = .ok (.getfield 9, 3) := by decide +kernel
theorem d_Core_isSame_5 : decode c_Core_isSame 5 = .ok (.aload_n 1, 1) := by decide +kernel
theorem d_Core_isSame_6 : decode c_Core_isSame 6 = .ok (.getfield 15, 3) := by decide +kernel
theorem d_Core_isSame_9 : decode c_Core_isSame 9 = .ok (.aload_n 1, 1) := by decide +kernel
theorem d_Core_isSame_10 : decode c_Core_isSame 10 = .ok (.getfield 18, 3) := by decide +kernel
theorem d_Core_isSame_13 : decode c_Core_isSame 13 = .ok (.invokevirtual 34, 3) := by decide +kernel
theorem d_Core_isSame_16 : decode c_Core_isSame 16 = .ok (.ireturn, 1) := by decide +kernel
def sh_Core_isSame (F : Nat) (x0 : Nat) (x1 : Nat) (w : im_W) : Option (Int32 × im_W) :=
  (im_gL w 1 x1 0).bind fun f1 => (im_gL w 1 x1 1).bind fun f3 => (im_gL w 1 x1 2).bind fun f5 => (im_is w 1 x0).bind fun u7 => im_b2 (sh_Core_isMadeOf F x0 f1 f3 f5 w) fun v13 w11 => im_rz v13 w11
set_option maxHeartbeats 4000000 in
set_option maxRecDepth 100000 in
theorem met_Core_isSame {F : Nat} {x0 : Nat} {x1 : Nat} {w : im_W} {r : Int32 × im_W} (hsh : sh_Core_isSame F x0 x1 w = some r) : Met l y_Core_isSame (Cond.code y_Core_isSame c_Core_isSame 2 (some .boolean) :: im_T) (im_rm 1 26) (im_Pre D vwCl tA lo im_NW [.ref (lo + x0), .ref (lo + x1)] w) (im_Post D vwCl tA lo (some (.int r.1)) r.2) 0 0 (fun q => lo ≤ q) := by
  refine im_ofW (cc := c_Core_isSame) (nL := 2) (ret := (some .boolean)) (by decide) (Nat.le_of_ble_eq_true rfl) ?_
  intro p e s m args below meth c X H locs ls hH hl
  obtain ⟨hx, hb, hr, hts, hown, hlk, hml, hK, hN⟩ := id X
  have hl : lv_has ls 2 [(0, .ref (lo + x0)), (1, .ref (lo + x1))] := hl
  unfold sh_Core_isSame at hsh
  refine lv_aload_n hx hb d_Core_isSame_0 rfl (lv_at hl 0 rfl) ?_
  refine lv_aload_n hx hb d_Core_isSame_1 rfl (lv_at hl 1 rfl) ?_
  obtain ⟨f1, h2, hsh⟩ := im_bd hsh
  refine im_getL hx hb hts inC_Core hown hK hH (ci := 1) rfl 0 (by decide) (hts _ wd_91) rfl h2 d_Core_isSame_2 ?_
  refine lv_aload_n hx hb d_Core_isSame_5 rfl (lv_at hl 1 rfl) ?_
  obtain ⟨f3, h4, hsh⟩ := im_bd hsh
  refine im_getL hx hb hts inC_Core hown hK hH (ci := 1) rfl 1 (by decide) (hts _ wd_93) rfl h4 d_Core_isSame_6 ?_
  refine lv_aload_n hx hb d_Core_isSame_9 rfl (lv_at hl 1 rfl) ?_
  obtain ⟨f5, h6, hsh⟩ := im_bd hsh
  refine im_getL hx hb hts inC_Core hown hK hH (ci := 1) rfl 2 (by decide) (hts _ wd_95) rfl h6 d_Core_isSame_10 ?_
  obtain ⟨u7, h8, hsh⟩ := im_bd hsh
  obtain ⟨g9, h10⟩ := im_is_s h8
  obtain ⟨v13, w11, h12, hsh⟩ := im_bd2 hsh
  refine im_afterI (va_runV (As := [.long f1, .long f3, .long f5]) (rest := []) (C := RC_Core) ⟨hx, hb, hml, hown, hts⟩ (met_Core_isMadeOf h12) ⟨(callB_of 3 hts (im_good wd_529) rfl rfl rfl (hts _ wd_7) (hts _ wd_550) (by decide +kernel) ⟨Nat.le_of_ble_eq_true rfl, Nat.le_of_ble_eq_true rfl⟩), hts _ wd_527, hts _ wd_528⟩ (im_preV im_NW_ok hK hN hH (ci := 1) rfl rfl h10 _) rfl rfl hl.1 rfl (lv_room (Nat.le_of_ble_eq_true rfl)) d_Core_isSame_13 ⟨Nat.le_of_ble_eq_true rfl, Nat.le_of_ble_eq_true rfl⟩) hH (fun H locs hH => ?_)
  obtain ⟨rfl, hn⟩ := im_rz_s hsh
  exact im_zret hx hb hr hlk hn hH d_Core_isSame_16
theorem wd_514 : (Jvm.Cond.instanceMethod ({ cls := "LanguageTags$Core", name := "isUnd", desc := "()Z" } : Jvm.MethodName)) ∈ im_T := im_memT (i := 514) (by decide +kernel) (by decide +kernel)
theorem wd_515 : (Jvm.Cond.selects "LanguageTags$Core" ({ cls := "LanguageTags$Core", name := "isUnd", desc := "()Z" } : Jvm.MethodName) ({ cls := "LanguageTags$Core", name := "isUnd", desc := "()Z" } : Jvm.MethodName)) ∈ im_T := im_memT (i := 515) (by decide +kernel) (by decide +kernel)
theorem wd_516 : (Jvm.Cond.code ({ cls := "LanguageTags$Core", name := "isUnd", desc := "()Z" } : Jvm.MethodName) prog_3_method_6_code (1 : Nat) (Option.some Jvm.ClassFile.FieldType.boolean)) ∈ im_T := im_memT (i := 516) (by decide +kernel) (by decide +kernel)
theorem wd_535 : (Jvm.Cond.methodLink "LanguageTags$Core" (38 : Nat) ({ cls := "LanguageTags$Core", name := "isUnd", desc := "()Z" } : Jvm.MethodName)) ∈ im_T := im_memT (i := 535) (by decide +kernel) (by decide +kernel)
theorem d_Core_fillFrom_0 : decode c_Core_fillFrom 0 = .ok (.aload_n 0, 1) := by decide +kernel
theorem d_Core_fillFrom_1 : decode c_Core_fillFrom 1 = .ok (.aload_n 0, 1) := by decide +kernel
theorem d_Core_fillFrom_2 : decode c_Core_fillFrom 2 = .ok (.invokevirtual 38, 3) := by decide +kernel
theorem d_Core_fillFrom_5 : decode c_Core_fillFrom 5 = .ok (.ifCond .eq (10), 3) := by decide +kernel
theorem d_Core_fillFrom_8 : decode c_Core_fillFrom 8 = .ok (.aload_n 1, 1) := by decide +kernel
theorem d_Core_fillFrom_9 : decode c_Core_fillFrom 9 = .ok (.getfield 9, 3) := by decide +kernel
theorem d_Core_fillFrom_12 : decode c_Core_fillFrom 12 = .ok (.goto (7), 3) := by decide +kernel
theorem d_Core_fillFrom_15 : decode c_Core_fillFrom 15 = .ok (.aload_n 0, 1) := by decide +kernel
theorem d_Core_fillFrom_16 : decode c_Core_fillFrom 16 = .ok (.getfield 9, 3) := by decide +kernel
theorem d_Core_fillFrom_19 : decode c_Core_fillFrom 19 = .ok (.aload_n 0, 1) := by decide +kernel
theorem d_Core_fillFrom_20 : decode c_Core_fillFrom 20 = .ok (.invokevirtual 27, 3) := by decide +kernel
theorem d_Core_fillFrom_23 : decode c_Core_fillFrom 23 = .ok (.ifCond .eq (10), 3) := by decide +kernel
theorem d_Core_fillFrom_26 : decode c_Core_fillFrom 26 = .ok (.aload_n 0, 1) := by decide +kernel
theorem d_Core_fillFrom_27 : decode c_Core_fillFrom 27 = .ok (.getfield 15, 3) := by decide +kernel
theorem d_Core_fillFrom_30 : decode c_Core_fillFrom 30 = .ok (.goto (7), 3) := by decide +kernel
theorem d_Core_fillFrom_33 : decode c_Core_fillFrom 33 = .ok (.aload_n 1, 1) := by decide +kernel
theorem d_Core_fillFrom_34 : decode c_Core_fillFrom 34 = .ok (.getfield 15, 3) := by decide +kernel
theorem d_Core_fillFrom_37 : decode c_Core_fillFrom 37 = .ok (.aload_n 0, 1) := by decide +kernel
theorem d_Core_fillFrom_38 : decode c_Core_fillFrom 38 = .ok (.invokevirtual 31, 3) := by decide +kernel
theorem d_Core_fillFrom_41 : decode c_Core_fillFrom 41 = .ok (.ifCond .eq (10), 3) := by decide +kernel
theorem d_Core_fillFrom_44 : decode c_Core_fillFrom 44 = .ok (.aload_n 0, 1) := by decide +kernel
theorem d_Core_fillFrom_45 : decode c_Core_fillFrom 45 = .ok (.getfield 18, 3) := by decide +kernel
theorem d_Core_fillFrom_48 : decode c_Core_fillFrom 48 = .ok (.goto (7), 3) := by decide +kernel
theorem d_Core_fillFrom_51 : decode c_Core_fillFrom 51 = .ok (.aload_n 1, 1) := by decide +kernel
theorem d_Core_fillFrom_52 : decode c_Core_fillFrom 52 = .ok (.getfield 18, 3) := by decide +kernel
theorem d_Core_fillFrom_55 : decode c_Core_fillFrom 55 = .ok (.invokevirtual 21, 3) := by decide +kernel
theorem d_Core_fillFrom_58 : decode c_Core_fillFrom 58 = .ok (.return_, 1) := by decide +kernel
def sh_Core_fillFrom_55 (F : Nat) (y0 : Int64) (y1 : Int64) (y2 : Int64) (y3 : Nat) (w : im_W) : Option (im_W) :=
  (im_is w 1 y3).bind fun u1 => (sh_Core_assign F y3 y2 y1 y0 w).bind fun w5 => some w5
set_option maxHeartbeats 4000000 in
set_option maxRecDepth 100000 in
theorem bk_Core_fillFrom_55 {F : Nat} {r : im_W} (X : im_X D vwCl tA lo im_NW c_Core_fillFrom 2 none RC_Core im_T p s m args meth c) (y0 : Int64) (y1 : Int64) (y2 : Int64) (y3 : Nat) (w : im_W) (hsh : sh_Core_fillFrom_55 F y0 y1 y2 y3 w = some r) : im_WW D vwCl tA lo 2 p l e (im_rm 1 26) s m args below meth c 0 0 (MQ below (im_Post D vwCl tA lo none r) args s 0 0 (fun q => lo ≤ q)) 55 [] [.long y0, .long y1, .long y2, .ref (lo + y3)] w := by
  obtain ⟨hx, hb, hr, hts, hown, hlk, hml, hK, hN⟩ := id X
  intro H locs ls hH hl
  unfold sh_Core_fillFrom_55 at hsh
  obtain ⟨u1, h2, hsh⟩ := im_bd hsh
  obtain ⟨g3, h4⟩ := im_is_s h2
  obtain ⟨w5, h6, hsh⟩ := im_bd hsh
  refine im_afterV (va_runV (As := [.long y2, .long y1, .long y0]) (rest := []) (C := RC_Core) ⟨hx, hb, hml, hown, hts⟩ (met_Core_assign h6) ⟨(callB_of 3 hts (im_good wd_391) rfl rfl rfl (hts _ wd_7) (hts _ wd_446) (by decide +kernel) ⟨Nat.le_of_ble_eq_true rfl, Nat.le_of_ble_eq_true rfl⟩), hts _ wd_389, hts _ wd_390⟩ (im_preV im_NW_ok hK hN hH (ci := 1) rfl rfl h4 _) rfl rfl hl.1 rfl (lv_room (Nat.le_of_ble_eq_true rfl)) d_Core_fillFrom_55 ⟨Nat.le_of_ble_eq_true rfl, Nat.le_of_ble_eq_true rfl⟩) hH (fun H locs hH => ?_)
  obtain rfl := Option.some.inj hsh
  exact im_vret hx hb hr hlk hH d_Core_fillFrom_58
def sh_Core_fillFrom_37 (F : Nat) (x0 : Nat) (x1 : Nat) (y0 : Int64) (y1 : Int64) (y2 : Nat) (w : im_W) : Option (im_W) :=
  (im_is w 1 x0).bind fun u1 => im_b2 (sh_Core_hasRegion F x0 w) fun v7 w5 => (if v7 = 0 then (im_gL w5 1 x1 2).bind fun f8 => sh_Core_fillFrom_55 F f8 y0 y1 y2 w5 else (im_gL w5 1 x0 2).bind fun f10 => sh_Core_fillFrom_55 F f10 y0 y1 y2 w5)
set_option maxHeartbeats 4000000 in
set_option maxRecDepth 100000 in
theorem bk_Core_fillFrom_37 {F : Nat} {r : im_W} (X : im_X D vwCl tA lo im_NW c_Core_fillFrom 2 none RC_Core im_T p s m args meth c) (x0 : Nat) (x1 : Nat) (y0 : Int64) (y1 : Int64) (y2 : Nat) (w : im_W) (hsh : sh_Core_fillFrom_37 F x0 x1 y0 y1 y2 w = some r) : im_WW D vwCl tA lo 2 p l e (im_rm 1 26) s m args below meth c 0 0 (MQ below (im_Post D vwCl tA lo none r) args s 0 0 (fun q => lo ≤ q)) 37 [(0, .ref (lo + x0)), (1, .ref (lo + x1))] [.long y0, .long y1, .ref (lo + y2)] w := by
  obtain ⟨hx, hb, hr, hts, hown, hlk, hml, hK, hN⟩ := id X
  intro H locs ls hH hl
  unfold sh_Core_fillFrom_37 at hsh
  refine lv_aload_n hx hb d_Core_fillFrom_37 rfl (lv_at hl 0 rfl) ?_
  obtain ⟨u1, h2, hsh⟩ := im_bd hsh
  obtain ⟨g3, h4⟩ := im_is_s h2
  obtain ⟨v7, w5, h6, hsh⟩ := im_bd2 hsh
  refine im_afterI (va_runV (As := []) (rest := [.long y0, .long y1, .ref (lo + y2)]) (C := RC_Core) ⟨hx, hb, hml, hown, hts⟩ (met_Core_hasRegion h6) ⟨(callB_of 0 hts (im_good wd_403) rfl rfl rfl (hts _ wd_7) (hts _ wd_464) (by decide +kernel) ⟨Nat.le_of_ble_eq_true rfl, Nat.le_of_ble_eq_true rfl⟩), hts _ wd_401, hts _ wd_402⟩ (im_preV im_NW_ok hK hN hH (ci := 1) rfl rfl h4 _) rfl rfl hl.1 rfl (lv_room (Nat.le_of_ble_eq_true rfl)) d_Core_fillFrom_38 ⟨Nat.le_of_ble_eq_true rfl, Nat.le_of_ble_eq_true rfl⟩) hH (fun H locs hH => ?_)
  refine lv_if_eq (tgt := 51) hx hb d_Core_fillFrom_41 (by decide) (fun cc => ?_) (fun cc => ?_)
  · have hsh := im_it hsh cc
    refine lv_aload_n hx hb d_Core_fillFrom_51 rfl (lv_at hl 1 rfl) ?_
    obtain ⟨f8, h9, hsh⟩ := im_bd hsh
    refine im_getL hx hb hts inC_Core hown hK hH (ci := 1) rfl 2 (by decide) (hts _ wd_95) rfl h9 d_Core_fillFrom_52 ?_
    exact bk_Core_fillFrom_55 X f8 y0 y1 y2 w5 hsh H locs ls hH (lv_sub hl [] rfl)
  · have hsh := im_if hsh cc
    refine lv_aload_n hx hb d_Core_fillFrom_44 rfl (lv_at hl 0 rfl) ?_
    obtain ⟨f10, h11, hsh⟩ := im_bd hsh
    refine im_getL hx hb hts inC_Core hown hK hH (ci := 1) rfl 2 (by decide) (hts _ wd_95) rfl h11 d_Core_fillFrom_45 ?_
    refine lv_goto (tgt := 55) hx hb d_Core_fillFrom_48 (by decide) ?_
    exact bk_Core_fillFrom_55 X f10 y0 y1 y2 w5 hsh H locs ls hH (lv_sub hl [] rfl)
def sh_Core_fillFrom_19 (F : Nat) (x0 : Nat) (x1 : Nat) (y0 : Int64) (y1 : Nat) (w : im_W) : Option (im_W) :=
  (im_is w 1 x0).bind fun u1 => im_b2 (sh_Core_hasScript F x0 w) fun v7 w5 => (if v7 = 0 then (im_gL w5 1 x1 1).bind fun f8 => sh_Core_fillFrom_37 F x0 x1 f8 y0 y1 w5 else (im_gL w5 1 x0 1).bind fun f10 => sh_Core_fillFrom_37 F x0 x1 f10 y0 y1 w5)
set_option maxHeartbeats 4000000 in
set_option maxRecDepth 100000 in
theorem bk_Core_fillFrom_19 {F : Nat} {r : im_W} (X : im_X D vwCl tA lo im_NW c_Core_fillFrom 2 none RC_Core im_T p s m args meth c) (x0 : Nat) (x1 : Nat) (y0 : Int64) (y1 : Nat) (w : im_W) (hsh : sh_Core_fillFrom_19 F x0 x1 y0 y1 w = some r) : im_WW D vwCl tA lo 2 p l e (im_rm 1 26) s m args below meth c 0 0 (MQ below (im_Post D vwCl tA lo none r) args s 0 0 (fun q => lo ≤ q)) 19 [(0, .ref (lo + x0)), (1, .ref (lo + x1))] [.long y0, .ref (lo + y1)] w := by
  obtain ⟨hx, hb, hr, hts, hown, hlk, hml, hK, hN⟩ := id X
  intro H locs ls hH hl
  unfold sh_Core_fillFrom_19 at hsh
  refine lv_aload_n hx hb d_Core_fillFrom_19 rfl (lv_at hl 0 rfl) ?_
  obtain ⟨u1, h2, hsh⟩ := im_bd hsh
  obtain ⟨g3, h4⟩ := im_is_s h2
  obtain ⟨v7, w5, h6, hsh⟩ := im_bd2 hsh
  refine im_afterI (va_runV (As := []) (rest := [.long y0, .ref (lo + y1)]) (C := RC_Core) ⟨hx, hb, hml, hown, hts⟩ (met_Core_hasScript h6) ⟨(callB_of 0 hts (im_good wd_399) rfl rfl rfl (hts _ wd_7) (hts _ wd_463) (by decide +kernel) ⟨Nat.le_of_ble_eq_true rfl, Nat.le_of_ble_eq_true rfl⟩), hts _ wd_397, hts _ wd_398⟩ (im_preV im_NW_ok hK hN hH (ci := 1) rfl rfl h4 _) rfl rfl hl.1 rfl (lv_room (Nat.le_of_ble_eq_true rfl)) d_Core_fillFrom_20 ⟨Nat.le_of_ble_eq_true rfl, Nat.le_of_ble_eq_true rfl⟩) hH (fun H locs hH => ?_)
  refine lv_if_eq (tgt := 33) hx hb d_Core_fillFrom_23 (by decide) (fun cc => ?_) (fun cc => ?_)
  · have hsh := im_it hsh cc
    refine lv_aload_n hx hb d_Core_fillFrom_33 rfl (lv_at hl 1 rfl) ?_
    obtain ⟨f8, h9, hsh⟩ := im_bd hsh
    refine im_getL hx hb hts inC_Core hown hK hH (ci := 1) rfl 1 (by decide) (hts _ wd_93) rfl h9 d_Core_fillFrom_34 ?_
    exact bk_Core_fillFrom_37 X x0 x1 f8 y0 y1 w5 hsh H locs ls hH (lv_sub hl [0, 1] rfl)
  · have hsh := im_if hsh cc
    refine lv_aload_n hx hb d_Core_fillFrom_26 rfl (lv_at hl 0 rfl) ?_
    obtain ⟨f10, h11, hsh⟩ := im_bd hsh
    refine im_getL hx hb hts inC_Core hown hK hH (ci := 1) rfl 1 (by decide) (hts _ wd_93) rfl h11 d_Core_fillFrom_27 ?_
    refine lv_goto (tgt := 37) hx hb d_Core_fillFrom_30 (by decide) ?_
    exact bk_Core_fillFrom_37 X x0 x1 f10 y0 y1 w5 hsh H locs ls hH (lv_sub hl [0, 1] rfl)
def sh_Core_fillFrom (F : Nat) (x0 : Nat) (x1 : Nat) (w : im_W) : Option (im_W) :=
  (im_is w 1 x0).bind fun u1 => im_b2 (sh_Core_isUnd F x0 w) fun v7 w5 => (if v7 = 0 then (im_gL w5 1 x0 0).bind fun f8 => sh_Core_fillFrom_19 F x0 x1 f8 x0 w5 else (im_gL w5 1 x1 0).bind fun f10 => sh_Core_fillFrom_19 F x0 x1 f10 x0 w5)
set_option maxHeartbeats 4000000 in
set_option maxRecDepth 100000 in
theorem met_Core_fillFrom {F : Nat} {x0 : Nat} {x1 : Nat} {w : im_W} {r : im_W} (hsh : sh_Core_fillFrom F x0 x1 w = some r) : Met l y_Core_fillFrom (Cond.code y_Core_fillFrom c_Core_fillFrom 2 none :: im_T) (im_rm 1 26) (im_Pre D vwCl tA lo im_NW [.ref (lo + x0), .ref (lo + x1)] w) (im_Post D vwCl tA lo none r) 0 0 (fun q => lo ≤ q) := by
  refine im_ofW (cc := c_Core_fillFrom) (nL := 2) (ret := none) (by decide) (Nat.le_of_ble_eq_true rfl) ?_
  intro p e s m args below meth c X H locs ls hH hl
  obtain ⟨hx, hb, hr, hts, hown, hlk, hml, hK, hN⟩ := id X
  have hl : lv_has ls 2 [(0, .ref (lo + x0)), (1, .ref (lo + x1))] := hl
  unfold sh_Core_fillFrom at hsh
  refine lv_aload_n hx hb d_Core_fillFrom_0 rfl (lv_at hl 0 rfl) ?_
  refine lv_aload_n hx hb d_Core_fillFrom_1 rfl (lv_at hl 0 rfl) ?_
  obtain ⟨u1, h2, hsh⟩ := im_bd hsh
  obtain ⟨g3, h4⟩ := im_is_s h2
  obtain ⟨v7, w5, h6, hsh⟩ := im_bd2 hsh
  refine im_afterI (va_runV (As := []) (rest := [.ref (lo + x0)]) (C := RC_Core) ⟨hx, hb, hml, hown, hts⟩ (met_Core_isUnd h6) ⟨(callB_of 0 hts (im_good wd_516) rfl rfl rfl (hts _ wd_7) (hts _ wd_535) (by decide +kernel) ⟨Nat.le_of_ble_eq_true rfl, Nat.le_of_ble_eq_true rfl⟩), hts _ wd_514, hts _ wd_515⟩ (im_preV im_NW_ok hK hN hH (ci := 1) rfl rfl h4 _) rfl rfl hl.1 rfl (lv_room (Nat.le_of_ble_eq_true rfl)) d_Core_fillFrom_2 ⟨Nat.le_of_ble_eq_true rfl, Nat.le_of_ble_eq_true rfl⟩) hH (fun H locs hH => ?_)
  refine lv_if_eq (tgt := 15) hx hb d_Core_fillFrom_5 (by decide) (fun cc => ?_) (fun cc => ?_)
  · have hsh := im_it hsh cc
    refine lv_aload_n hx hb d_Core_fillFrom_15 rfl (lv_at hl 0 rfl) ?_
    obtain ⟨f8, h9, hsh⟩ := im_bd hsh
    refine im_getL hx hb hts inC_Core hown hK hH (ci := 1) rfl 0 (by decide) (hts _ wd_91) rfl h9 d_Core_fillFrom_16 ?_
    exact bk_Core_fillFrom_19 X x0 x1 f8 x0 w5 hsh H locs ls hH (lv_sub hl [0, 1] rfl)
  · have hsh := im_if hsh cc
    refine lv_aload_n hx hb d_Core_fillFrom_8 rfl (lv_at hl 1 rfl) ?_
    obtain ⟨f10, h11, hsh⟩ := im_bd hsh
    refine im_getL hx hb hts inC_Core hown hK hH (ci := 1) rfl 0 (by decide) (hts _ wd_91) rfl h11 d_Core_fillFrom_9 ?_
    refine lv_goto (tgt := 19) hx hb d_Core_fillFrom_12 (by decide) ?_
    exact bk_Core_fillFrom_19 X x0 x1 f10 x0 w5 hsh H locs ls hH (lv_sub hl [0, 1] rfl)
theorem d_Core_apartFrom_0 : decode c_Core_apartFrom 0 = .ok (.aload_n 0, 1) := by decide +kernel
theorem d_Core_apartFrom_1 : decode c_Core_apartFrom 1 = .ok (.getfield 9, 3) := by decide +kernel
theorem d_Core_apartFrom_4 : decode c_Core_apartFrom 4 = .ok (.aload_n 1, 1) := by decide +kernel
theorem d_Core_apartFrom_5 : decode c_Core_apartFrom 5 = .ok (.getfield 9, 3) := by decide +kernel
theorem d_Core_apartFrom_8 : decode c_Core_apartFrom 8 = .ok (.lcmp, 1) := by decide +kernel
theorem d_Core_apartFrom_9 : decode c_Core_apartFrom 9 = .ok (.ifCond .ne (7), 3) := by decide +kernel
theorem d_Core_apartFrom_12 : decode c_Core_apartFrom 12 = .ok (.iconst 0, 1) := by decide +kernel
theorem d_Core_apartFrom_13 : decode c_Core_apartFrom 13 = .ok (.goto (5), 3) := by decide +kernel
theorem d_Core_apartFrom_16 : decode c_Core_apartFrom 16 = .ok (.bipush (80), 2) := by decide +kernel
theorem d_Core_apartFrom_18 : decode c_Core_apartFrom 18 = .ok (.istore_n 2, 1) := by decide +kernel
theorem d_Core_apartFrom_19 : decode c_Core_apartFrom 19 = .ok (.aload_n 0, 1) := by decide +kernel
theorem d_Core_apartFrom_20 : decode c_Core_apartFrom 20 = .ok (.getfield 15, 3) := by decide +kernel
theorem d_Core_apartFrom_23 : decode c_Core_apartFrom 23 = .ok (.aload_n 1, 1) := by decide +kernel
theorem d_Core_apartFrom_24 : decode c_Core_apartFrom 24 = .ok (.getfield 15, 3) := by decide +kernel
theorem d_Core_apartFrom_27 : decode c_Core_apartFrom 27 = .ok (.lcmp, 1) := by decide +kernel
theorem d_Core_apartFrom_28 : decode c_Core_apartFrom 28 = .ok (.ifCond .eq (6), 3) := by decide +kernel
theorem d_Core_apartFrom_31 : decode c_Core_apartFrom 31 = .ok (.iinc 2 (40), 3) := by decide +kernel
theorem d_Core_apartFrom_34 : decode c_Core_apartFrom 34 = .ok (.aload_n 0, 1) := by decide +kernel
theorem d_Core_apartFrom_35 : decode c_Core_apartFrom 35 = .ok (.getfield 18, 3) := by decide +kernel
theorem d_Core_apartFrom_38 : decode c_Core_apartFrom 38 = .ok (.aload_n 1, 1) := by decide +kernel
theorem d_Core_apartFrom_39 : decode c_Core_apartFrom 39 = .ok (.getfield 18, 3) := by decide +kernel
theorem d_Core_apartFrom_42 : decode c_Core_apartFrom 42 = .ok (.lcmp, 1) := by decide +kernel
theorem d_Core_apartFrom_43 : decode c_Core_apartFrom 43 = .ok (.ifCond .eq (25), 3) := by decide +kernel
theorem d_Core_apartFrom_46 : decode c_Core_apartFrom 46 = .ok (.iload_n 2, 1) := by decide +kernel
theorem d_Core_apartFrom_47 : decode c_Core_apartFrom 47 = .ok (.aload_n 0, 1) := by decide +kernel
theorem d_Core_apartFrom_48 : decode c_Core_apartFrom 48 = .ok (.invokevirtual 31, 3) := by decide +kernel
theorem d_Core_apartFrom_51 : decode c_Core_apartFrom 51 = .ok (.ifCond .eq (14), 3) := by decide +kernel
theorem d_Core_apartFrom_54 : decode c_Core_apartFrom 54 = .ok (.aload_n 1, 1) := by decide +kernel
theorem d_Core_apartFrom_55 : decode c_Core_apartFrom 55 = .ok (.invokevirtual 31, 3) := by decide +kernel
theorem d_Core_apartFrom_58 : decode c_Core_apartFrom 58 = .ok (.ifCond .eq (7), 3) := by decide +kernel
theorem d_Core_apartFrom_61 : decode c_Core_apartFrom 61 = .ok (.iconst 5, 1) := by decide +kernel
theorem d_Core_apartFrom_62 : decode c_Core_apartFrom 62 = .ok (.goto (4), 3) := by decide +kernel
theorem d_Core_apartFrom_65 : decode c_Core_apartFrom 65 = .ok (.iconst 2, 1) := by decide +kernel
theorem d_Core_apartFrom_66 : decode c_Core_apartFrom 66 = .ok (.iadd, 1) := by decide +kernel
theorem d_Core_apartFrom_67 : decode c_Core_apartFrom 67 = .ok (.istore_n 2, 1) := by decide +kernel
theorem d_Core_apartFrom_68 : decode c_Core_apartFrom 68 = .ok (.iload_n 2, 1) := by decide +kernel
theorem d_Core_apartFrom_69 : decode c_Core_apartFrom 69 = .ok (.ireturn, 1) := by decide +kernel
def sh_Core_apartFrom_68 (F : Nat) (x2 : Int32) (w : im_W) : Option (Int32 × im_W) :=
  some (x2, w)
set_option maxHeartbeats 4000000 in
set_option maxRecDepth 100000 in
theorem bk_Core_apartFrom_68 {F : Nat} {r : Int32 × im_W} (X : im_X D vwCl tA lo im_NW c_Core_apartFrom 3 (some .int) RC_Core im_T p s m args meth c) (x2 : Int32) (w : im_W) (hsh : sh_Core_apartFrom_68 F x2 w = some r) : im_WW D vwCl tA lo 3 p l e (im_rm 1 20) s m args below meth c 0 0 (MQ below (im_Post D vwCl tA lo (some (.int r.1)) r.2) args s 0 0 (fun q => lo ≤ q)) 68 [(2, .int x2)] [] w := by
  obtain ⟨hx, hb, hr, hts, hown, hlk, hml, hK, hN⟩ := id X
  intro H locs ls hH hl
  unfold sh_Core_apartFrom_68 at hsh
  refine lv_iload_n hx hb d_Core_apartFrom_68 rfl (lv_at hl 0 rfl) ?_
  obtain rfl := Option.some.inj hsh
  exact im_iret hx hb hr hlk hH d_Core_apartFrom_69
def sh_Core_apartFrom_66 (F : Nat) (y0 : Int32) (y1 : Int32) (w : im_W) : Option (Int32 × im_W) :=
  sh_Core_apartFrom_68 F (y1 + y0) w
set_option maxHeartbeats 4000000 in
set_option maxRecDepth 100000 in
theorem bk_Core_apartFrom_66 {F : Nat} {r : Int32 × im_W} (X : im_X D vwCl tA lo im_NW c_Core_apartFrom 3 (some .int) RC_Core im_T p s m args meth c) (y0 : Int32) (y1 : Int32) (w : im_W) (hsh : sh_Core_apartFrom_66 F y0 y1 w = some r) : im_WW D vwCl tA lo 3 p l e (im_rm 1 20) s m args below meth c 0 0 (MQ below (im_Post D vwCl tA lo (some (.int r.1)) r.2) args s 0 0 (fun q => lo ≤ q)) 66 [] [.int y0, .int y1] w := by
  obtain ⟨hx, hb, hr, hts, hown, hlk, hml, hK, hN⟩ := id X
  intro H locs ls hH hl
  unfold sh_Core_apartFrom_66 at hsh
  refine lv_iadd hx hb d_Core_apartFrom_66 ?_
  refine lv_istore_n (lv' := [(2, .int (y1 + y0))]) hx hb d_Core_apartFrom_67 rfl hl (by decide) rfl (fun ls hl => ?_)
  exact bk_Core_apartFrom_68 X (y1 + y0) w hsh H locs ls hH (lv_sub hl [0] rfl)
def sh_Core_apartFrom_65 (F : Nat) (y0 : Int32) (w : im_W) : Option (Int32 × im_W) :=
  sh_Core_apartFrom_66 F (2 : Int32) y0 w
set_option maxHeartbeats 4000000 in
set_option maxRecDepth 100000 in
theorem bk_Core_apartFrom_65 {F : Nat} {r : Int32 × im_W} (X : im_X D vwCl tA lo im_NW c_Core_apartFrom 3 (some .int) RC_Core im_T p s m args meth c) (y0 : Int32) (w : im_W) (hsh : sh_Core_apartFrom_65 F y0 w = some r) : im_WW D vwCl tA lo 3 p l e (im_rm 1 20) s m args below meth c 0 0 (MQ below (im_Post D vwCl tA lo (some (.int r.1)) r.2) args s 0 0 (fun q => lo ≤ q)) 65 [] [.int y0] w := by
  obtain ⟨hx, hb, hr, hts, hown, hlk, hml, hK, hN⟩ := id X
  intro H locs ls hH hl
  unfold sh_Core_apartFrom_65 at hsh
  refine lv_iconst (v := 2) hx hb d_Core_apartFrom_65 (by decide) ?_
  exact bk_Core_apartFrom_66 X (2 : Int32) y0 w hsh H locs ls hH (lv_sub hl [] rfl)
def sh_Core_apartFrom_34 (F : Nat) (x0 : Nat) (x1 : Nat) (x2 : Int32) (w : im_W) : Option (Int32 × im_W) :=
  (im_gL w 1 x0 2).bind fun f1 => (im_gL w 1 x1 2).bind fun f3 => (if (lg_cmp f1 f3) = 0 then sh_Core_apartFrom_68 F x2 w else (im_is w 1 x0).bind fun u5 => im_b2 (sh_Core_hasRegion F x0 w) fun v11 w9 => (if v11 = 0 then sh_Core_apartFrom_65 F x2 w9 else (im_is w9 1 x1).bind fun u12 => im_b2 (sh_Core_hasRegion F x1 w9) fun v18 w16 => (if v18 = 0 then sh_Core_apartFrom_65 F x2 w16 else sh_Core_apartFrom_66 F (5 : Int32) x2 w16)))
set_option maxHeartbeats 4000000 in
set_option maxRecDepth 100000 in
theorem bk_Core_apartFrom_34 {F : Nat} {r : Int32 × im_W} (X : im_X D vwCl tA lo im_NW c_Core_apartFrom 3 (some .int) RC_Core im_T p s m args meth c) (x0 : Nat) (x1 : Nat) (x2 : Int32) (w : im_W) (hsh : sh_Core_apartFrom_34 F x0 x1 x2 w = some r) : im_WW D vwCl tA lo 3 p l e (im_rm 1 20) s m args below meth c 0 0 (MQ below (im_Post D vwCl tA lo (some (.int r.1)) r.2) args s 0 0 (fun q => lo ≤ q)) 34 [(0, .ref (lo + x0)), (1, .ref (lo + x1)), (2, .int x2)] [] w := by
  obtain ⟨hx, hb, hr, hts, hown, hlk, hml, hK, hN⟩ := id X
  intro H locs ls hH hl
  unfold sh_Core_apartFrom_34 at hsh
  refine lv_aload_n hx hb d_Core_apartFrom_34 rfl (lv_at hl 0 rfl) ?_
  obtain ⟨f1, h2, hsh⟩ := im_bd hsh
  refine im_getL hx hb hts inC_Core hown hK hH (ci := 1) rfl 2 (by decide) (hts _ wd_95) rfl h2 d_Core_apartFrom_35 ?_
  refine lv_aload_n hx hb d_Core_apartFrom_38 rfl (lv_at hl 1 rfl) ?_
  obtain ⟨f3, h4, hsh⟩ := im_bd hsh
  refine im_getL hx hb hts inC_Core hown hK hH (ci := 1) rfl 2 (by decide) (hts _ wd_95) rfl h4 d_Core_apartFrom_39 ?_
  refine W.lcmp hx hb d_Core_apartFrom_42 ?_
  refine lv_if_eq (tgt := 68) hx hb d_Core_apartFrom_43 (by decide) (fun cc => ?_) (fun cc => ?_)
  · have hsh := im_it hsh cc
    exact bk_Core_apartFrom_68 X x2 w hsh H locs ls hH (lv_sub hl [2] rfl)
  · have hsh := im_if hsh cc
    refine lv_iload_n hx hb d_Core_apartFrom_46 rfl (lv_at hl 2 rfl) ?_
    refine lv_aload_n hx hb d_Core_apartFrom_47 rfl (lv_at hl 0 rfl) ?_
    obtain ⟨u5, h6, hsh⟩ := im_bd hsh
    obtain ⟨g7, h8⟩ := im_is_s h6
    obtain ⟨v11, w9, h10, hsh⟩ := im_bd2 hsh
    refine im_afterI (va_runV (As := []) (rest := [.int x2]) (C := RC_Core) ⟨hx, hb, hml, hown, hts⟩ (met_Core_hasRegion h10) ⟨(callB_of 0 hts (im_good wd_403) rfl rfl rfl (hts _ wd_7) (hts _ wd_464) (by decide +kernel) ⟨Nat.le_of_ble_eq_true rfl, Nat.le_of_ble_eq_true rfl⟩), hts _ wd_401, hts _ wd_402⟩ (im_preV im_NW_ok hK hN hH (ci := 1) rfl rfl h8 _) rfl rfl hl.1 rfl (lv_room (Nat.le_of_ble_eq_true rfl)) d_Core_apartFrom_48 ⟨Nat.le_of_ble_eq_true rfl, Nat.le_of_ble_eq_true rfl⟩) hH (fun H locs hH => ?_)
    refine lv_if_eq (tgt := 65) hx hb d_Core_apartFrom_51 (by decide) (fun cc => ?_) (fun cc => ?_)
    · have hsh := im_it hsh cc
      exact bk_Core_apartFrom_65 X x2 w9 hsh H locs ls hH (lv_sub hl [] rfl)
    · have hsh := im_if hsh cc
      refine lv_aload_n hx hb d_Core_apartFrom_54 rfl (lv_at hl 1 rfl) ?_
      obtain ⟨u12, h13, hsh⟩ := im_bd hsh
      obtain ⟨g14, h15⟩ := im_is_s h13
      obtain ⟨v18, w16, h17, hsh⟩ := im_bd2 hsh
      refine im_afterI (va_runV (As := []) (rest := [.int x2]) (C := RC_Core) ⟨hx, hb, hml, hown, hts⟩ (met_Core_hasRegion h17) ⟨(callB_of 0 hts (im_good wd_403) rfl rfl rfl (hts _ wd_7) (hts _ wd_464) (by decide +kernel) ⟨Nat.le_of_ble_eq_true rfl, Nat.le_of_ble_eq_true rfl⟩), hts _ wd_401, hts _ wd_402⟩ (im_preV im_NW_ok hK hN hH (ci := 1) rfl rfl h15 _) rfl rfl hl.1 rfl (lv_room (Nat.le_of_ble_eq_true rfl)) d_Core_apartFrom_55 ⟨Nat.le_of_ble_eq_true rfl, Nat.le_of_ble_eq_true rfl⟩) hH (fun H locs hH => ?_)
      refine lv_if_eq (tgt := 65) hx hb d_Core_apartFrom_58 (by decide) (fun cc => ?_) (fun cc => ?_)
      · have hsh := im_it hsh cc
        exact bk_Core_apartFrom_65 X x2 w16 hsh H locs ls hH (lv_sub hl [] rfl)
      · have hsh := im_if hsh cc
        refine lv_iconst (v := 5) hx hb d_Core_apartFrom_61 (by decide) ?_
        refine lv_goto (tgt := 66) hx hb d_Core_apartFrom_62 (by decide) ?_
        exact bk_Core_apartFrom_66 X (5 : Int32) x2 w16 hsh H locs ls hH (lv_sub hl [] rfl)
def sh_Core_apartFrom_18 (F : Nat) (x0 : Nat) (x1 : Nat) (y0 : Int32) (w : im_W) : Option (Int32 × im_W) :=
  (im_gL w 1 x0 1).bind fun f1 => (im_gL w 1 x1 1).bind fun f3 => (if (lg_cmp f1 f3) = 0 then sh_Core_apartFrom_34 F x0 x1 y0 w else sh_Core_apartFrom_34 F x0 x1 (y0 + (40 : Int32)) w)
set_option maxHeartbeats 4000000 in
set_option maxRecDepth 100000 in
theorem bk_Core_apartFrom_18 {F : Nat} {r : Int32 × im_W} (X : im_X D vwCl tA lo im_NW c_Core_apartFrom 3 (some .int) RC_Core im_T p s m args meth c) (x0 : Nat) (x1 : Nat) (y0 : Int32) (w : im_W) (hsh : sh_Core_apartFrom_18 F x0 x1 y0 w = some r) : im_WW D vwCl tA lo 3 p l e (im_rm 1 20) s m args below meth c 0 0 (MQ below (im_Post D vwCl tA lo (some (.int r.1)) r.2) args s 0 0 (fun q => lo ≤ q)) 18 [(0, .ref (lo + x0)), (1, .ref (lo + x1))] [.int y0] w := by
  obtain ⟨hx, hb, hr, hts, hown, hlk, hml, hK, hN⟩ := id X
  intro H locs ls hH hl
  unfold sh_Core_apartFrom_18 at hsh
  refine lv_istore_n (lv' := [(2, .int y0), (0, .ref (lo + x0)), (1, .ref (lo + x1))]) hx hb d_Core_apartFrom_18 rfl hl (by decide) rfl (fun ls hl => ?_)
  refine lv_aload_n hx hb d_Core_apartFrom_19 rfl (lv_at hl 1 rfl) ?_
  obtain ⟨f1, h2, hsh⟩ := im_bd hsh
  refine im_getL hx hb hts inC_Core hown hK hH (ci := 1) rfl 1 (by decide) (hts _ wd_93) rfl h2 d_Core_apartFrom_20 ?_
  refine lv_aload_n hx hb d_Core_apartFrom_23 rfl (lv_at hl 2 rfl) ?_
  obtain ⟨f3, h4, hsh⟩ := im_bd hsh
  refine im_getL hx hb hts inC_Core hown hK hH (ci := 1) rfl 1 (by decide) (hts _ wd_93) rfl h4 d_Core_apartFrom_24 ?_
  refine W.lcmp hx hb d_Core_apartFrom_27 ?_
  refine lv_if_eq (tgt := 34) hx hb d_Core_apartFrom_28 (by decide) (fun cc => ?_) (fun cc => ?_)
  · have hsh := im_it hsh cc
    exact bk_Core_apartFrom_34 X x0 x1 y0 w hsh H locs ls hH (lv_sub hl [1, 2, 0] rfl)
  · have hsh := im_if hsh cc
    refine lv_iinc (v := (y0 + (40 : Int32))) (lv' := [(2, .int (y0 + (40 : Int32))), (0, .ref (lo + x0)), (1, .ref (lo + x1))]) hx hb d_Core_apartFrom_31 hl (k := 0) rfl rfl (by decide) rfl (fun ls hl => ?_)
    exact bk_Core_apartFrom_34 X x0 x1 (y0 + (40 : Int32)) w hsh H locs ls hH (lv_sub hl [1, 2, 0] rfl)
def sh_Core_apartFrom (F : Nat) (x0 : Nat) (x1 : Nat) (w : im_W) : Option (Int32 × im_W) :=
  (im_gL w 1 x0 0).bind fun f1 => (im_gL w 1 x1 0).bind fun f3 => (if (lg_cmp f1 f3) = 0 then sh_Core_apartFrom_18 F x0 x1 (0 : Int32) w else sh_Core_apartFrom_18 F x0 x1 (80 : Int32) w)
set_option maxHeartbeats 4000000 in
set_option maxRecDepth 100000 in
theorem met_Core_apartFrom {F : Nat} {x0 : Nat} {x1 : Nat} {w : im_W} {r : Int32 × im_W} (hsh : sh_Core_apartFrom F x0 x1 w = some r) : Met l y_Core_apartFrom (Cond.code y_Core_apartFrom c_Core_apartFrom 3 (some .int) :: im_T) (im_rm 1 20) (im_Pre D vwCl tA lo im_NW [.ref (lo + x0), .ref (lo + x1)] w) (im_Post D vwCl tA lo (some (.int r.1)) r.2) 0 0 (fun q => lo ≤ q) := by
  refine im_ofW (cc := c_Core_apartFrom) (nL := 3) (ret := (some .int)) (by decide) (Nat.le_of_ble_eq_true rfl) ?_
  intro p e s m args below meth c X H locs ls hH hl
  obtain ⟨hx, hb, hr, hts, hown, hlk, hml, hK, hN⟩ := id X
  have hl : lv_has ls 3 [(0, .ref (lo + x0)), (1, .ref (lo + x1))] := hl
  unfold sh_Core_apartFrom at hsh
  refine lv_aload_n hx hb d_Core_apartFrom_0 rfl (lv_at hl 0 rfl) ?_
  obtain ⟨f1, h2, hsh⟩ := im_bd hsh
  refine im_getL hx hb hts inC_Core hown hK hH (ci := 1) rfl 0 (by decide) (hts _ wd_91) rfl h2 d_Core_apartFrom_1 ?_
  refine lv_aload_n hx hb d_Core_apartFrom_4 rfl (lv_at hl 1 rfl) ?_
  obtain ⟨f3, h4, hsh⟩ := im_bd hsh
  refine im_getL hx hb hts inC_Core hown hK hH (ci := 1) rfl 0 (by decide) (hts _ wd_91) rfl h4 d_Core_apartFrom_5 ?_
  refine W.lcmp hx hb d_Core_apartFrom_8 ?_
  refine lv_if_ne (tgt := 16) hx hb d_Core_apartFrom_9 (by decide) (fun cc => ?_) (fun cc => ?_)
  · have hsh := im_if hsh cc
    refine lv_bipush (v := 80) hx hb d_Core_apartFrom_16 (by decide) ?_
    exact bk_Core_apartFrom_18 X x0 x1 (80 : Int32) w hsh H locs ls hH (lv_sub hl [0, 1] rfl)
  · have hsh := im_it hsh cc
    refine lv_iconst (v := 0) hx hb d_Core_apartFrom_12 (by decide) ?_
    refine lv_goto (tgt := 18) hx hb d_Core_apartFrom_13 (by decide) ?_
    exact bk_Core_apartFrom_18 X x0 x1 (0 : Int32) w hsh H locs ls hH (lv_sub hl [0, 1] rfl)
theorem wd_495 : (Jvm.Cond.instanceMethod ({ cls := "LanguageTags$Text", name := "appendSubtag", desc := "(J)V" } : Jvm.MethodName)) ∈ im_T := im_memT (i := 495) (by decide +kernel) (by decide +kernel)
theorem wd_496 : (Jvm.Cond.selects "LanguageTags$Text" ({ cls := "LanguageTags$Text", name := "appendSubtag", desc := "(J)V" } : Jvm.MethodName) ({ cls := "LanguageTags$Text", name := "appendSubtag", desc := "(J)V" } : Jvm.MethodName)) ∈ im_T := im_memT (i := 496) (by decide +kernel) (by decide +kernel)
theorem wd_497 : (Jvm.Cond.code ({ cls := "LanguageTags$Text", name := "appendSubtag", desc := "(J)V" } : Jvm.MethodName) prog_10_method_6_code (5 : Nat) (Option.none : Option Jvm.ClassFile.FieldType)) ∈ im_T := im_memT (i := 497) (by decide +kernel) (by decide +kernel)
theorem wd_505 : (Jvm.Cond.methodLink "LanguageTags$Core" (41 : Nat) ({ cls := "LanguageTags$Text", name := "appendSubtag", desc := "(J)V" } : Jvm.MethodName)) ∈ im_T := im_memT (i := 505) (by decide +kernel) (by decide +kernel)
theorem d_Core_writeTo_0 : decode c_Core_writeTo 0 = .ok (.aload_n 1, 1) := by decide +kernel
theorem d_Core_writeTo_1 : decode c_Core_writeTo 1 = .ok (.aload_n 0, 1) := by decide +kernel
theorem d_Core_writeTo_2 : decode c_Core_writeTo 2 = .ok (.getfield 9, 3) := by decide +kernel
theorem d_Core_writeTo_5 : decode c_Core_writeTo 5 = .ok (.invokevirtual 41, 3) := by decide +kernel
theorem d_Core_writeTo_8 : decode c_Core_writeTo 8 = .ok (.aload_n 0, 1) := by decide +kernel
theorem d_Core_writeTo_9 : decode c_Core_writeTo 9 = .ok (.invokevirtual 27, 3) := by decide +kernel
theorem d_Core_writeTo_12 : decode c_Core_writeTo 12 = .ok (.ifCond .eq (11), 3) := by decide +kernel
theorem d_Core_writeTo_15 : decode c_Core_writeTo 15 = .ok (.aload_n 1, 1) := by decide +kernel
theorem d_Core_writeTo_16 : decode c_Core_writeTo 16 = .ok (.aload_n 0, 1) := by decide +kernel
theorem d_Core_writeTo_17 : decode c_Core_writeTo 17 = .ok (.getfield 15, 3) := by decide +kernel
theorem d_Core_writeTo_20 : decode c_Core_writeTo 20 = .ok (.invokevirtual 41, 3) := by decide +kernel
theorem d_Core_writeTo_23 : decode c_Core_writeTo 23 = .ok (.aload_n 0, 1) := by decide +kernel
theorem d_Core_writeTo_24 : decode c_Core_writeTo 24 = .ok (.invokevirtual 31, 3) := by decide +kernel
theorem d_Core_writeTo_27 : decode c_Core_writeTo 27 = .ok (.ifCond .eq (11), 3) := by decide +kernel
theorem d_Core_writeTo_30 : decode c_Core_writeTo 30 = .ok (.aload_n 1, 1) := by decide +kernel
theorem d_Core_writeTo_31 : decode c_Core_writeTo 31 = .ok (.aload_n 0, 1) := by decide +kernel
theorem d_Core_writeTo_32 : decode c_Core_writeTo 32 = .ok (.getfield 18, 3) := by decide +kernel
theorem d_Core_writeTo_35 : decode c_Core_writeTo 35 = .ok (.invokevirtual 41, 3) := by decide +kernel
theorem d_Core_writeTo_38 : decode c_Core_writeTo 38 = .ok (.return_, 1) := by decide +kernel
def sh_Core_writeTo_38 (F : Nat)  (w : im_W) : Option (im_W) :=
  some w
set_option maxHeartbeats 4000000 in
set_option maxRecDepth 100000 in
theorem bk_Core_writeTo_38 {F : Nat} {r : im_W} (X : im_X D vwCl tA lo im_NW c_Core_writeTo 2 none RC_Core im_T p s m args meth c)  (w : im_W) (hsh : sh_Core_writeTo_38 F w = some r) : im_WW D vwCl tA lo 2 p l e (im_rm 3 69) s m args below meth c 0 0 (MQ below (im_Post D vwCl tA lo none r) args s 0 0 (fun q => lo ≤ q)) 38 [] [] w := by
  obtain ⟨hx, hb, hr, hts, hown, hlk, hml, hK, hN⟩ := id X
  intro H locs ls hH hl
  unfold sh_Core_writeTo_38 at hsh
  obtain rfl := Option.some.inj hsh
  exact im_vret hx hb hr hlk hH d_Core_writeTo_38
def sh_Core_writeTo_23 (F : Nat) (x0 : Nat) (x1 : Nat) (w : im_W) : Option (im_W) :=
  (im_is w 1 x0).bind fun u1 => im_b2 (sh_Core_hasRegion F x0 w) fun v7 w5 => (if v7 = 0 then sh_Core_writeTo_38 F w5 else (im_gL w5 1 x0 2).bind fun f8 => (im_is w5 7 x1).bind fun u10 => (sh_Text_appendSubtag F x1 f8 w5).bind fun w14 => sh_Core_writeTo_38 F w14)
set_option maxHeartbeats 4000000 in
set_option maxRecDepth 100000 in
theorem bk_Core_writeTo_23 {F : Nat} {r : im_W} (X : im_X D vwCl tA lo im_NW c_Core_writeTo 2 none RC_Core im_T p s m args meth c) (x0 : Nat) (x1 : Nat) (w : im_W) (hsh : sh_Core_writeTo_23 F x0 x1 w = some r) : im_WW D vwCl tA lo 2 p l e (im_rm 3 69) s m args below meth c 0 0 (MQ below (im_Post D vwCl tA lo none r) args s 0 0 (fun q => lo ≤ q)) 23 [(0, .ref (lo + x0)), (1, .ref (lo + x1))] [] w := by
  obtain ⟨hx, hb, hr, hts, hown, hlk, hml, hK, hN⟩ := id X
  intro H locs ls hH hl
  unfold sh_Core_writeTo_23 at hsh
  refine lv_aload_n hx hb d_Core_writeTo_23 rfl (lv_at hl 0 rfl) ?_
  obtain ⟨u1, h2, hsh⟩ := im_bd hsh
  obtain ⟨g3, h4⟩ := im_is_s h2
  obtain ⟨v7, w5, h6, hsh⟩ := im_bd2 hsh
  refine im_afterI (va_runV (As := []) (rest := []) (C := RC_Core) ⟨hx, hb, hml, hown, hts⟩ (met_Core_hasRegion h6) ⟨(callB_of 0 hts (im_good wd_403) rfl rfl rfl (hts _ wd_7) (hts _ wd_464) (by decide +kernel) ⟨Nat.le_of_ble_eq_true rfl, Nat.le_of_ble_eq_true rfl⟩), hts _ wd_401, hts _ wd_402⟩ (im_preV im_NW_ok hK hN hH (ci := 1) rfl rfl h4 _) rfl rfl hl.1 rfl (lv_room (Nat.le_of_ble_eq_true rfl)) d_Core_writeTo_24 ⟨Nat.le_of_ble_eq_true rfl, Nat.le_of_ble_eq_true rfl⟩) hH (fun H locs hH => ?_)
  refine lv_if_eq (tgt := 38) hx hb d_Core_writeTo_27 (by decide) (fun cc => ?_) (fun cc => ?_)
  · have hsh := im_it hsh cc
    exact bk_Core_writeTo_38 X w5 hsh H locs ls hH (lv_sub hl [] rfl)
  · have hsh := im_if hsh cc
    refine lv_aload_n hx hb d_Core_writeTo_30 rfl (lv_at hl 1 rfl) ?_
    refine lv_aload_n hx hb d_Core_writeTo_31 rfl (lv_at hl 0 rfl) ?_
    obtain ⟨f8, h9, hsh⟩ := im_bd hsh
    refine im_getL hx hb hts inC_Core hown hK hH (ci := 1) rfl 2 (by decide) (hts _ wd_95) rfl h9 d_Core_writeTo_32 ?_
    obtain ⟨u10, h11, hsh⟩ := im_bd hsh
    obtain ⟨g12, h13⟩ := im_is_s h11
    obtain ⟨w14, h15, hsh⟩ := im_bd hsh
    refine im_afterV (va_runV (As := [.long f8]) (rest := []) (C := RC_Text) ⟨hx, hb, hml, hown, hts⟩ (met_Text_appendSubtag h15) ⟨(callB_of 1 hts (im_good wd_497) rfl rfl rfl (hts _ wd_2) (hts _ wd_505) (by decide +kernel) ⟨Nat.le_of_ble_eq_true rfl, Nat.le_of_ble_eq_true rfl⟩), hts _ wd_495, hts _ wd_496⟩ (im_preV im_NW_ok hK hN hH (ci := 7) rfl rfl h13 _) rfl rfl hl.1 rfl (lv_room (Nat.le_of_ble_eq_true rfl)) d_Core_writeTo_35 ⟨Nat.le_of_ble_eq_true rfl, Nat.le_of_ble_eq_true rfl⟩) hH (fun H locs hH => ?_)
    exact bk_Core_writeTo_38 X w14 hsh H locs ls hH (lv_sub hl [] rfl)
def sh_Core_writeTo (F : Nat) (x0 : Nat) (x1 : Nat) (w : im_W) : Option (im_W) :=
  (im_gL w 1 x0 0).bind fun f1 => (im_is w 7 x1).bind fun u3 => (sh_Text_appendSubtag F x1 f1 w).bind fun w7 => (im_is w7 1 x0).bind fun u9 => im_b2 (sh_Core_hasScript F x0 w7) fun v15 w13 => (if v15 = 0 then sh_Core_writeTo_23 F x0 x1 w13 else (im_gL w13 1 x0 1).bind fun f16 => (im_is w13 7 x1).bind fun u18 => (sh_Text_appendSubtag F x1 f16 w13).bind fun w22 => sh_Core_writeTo_23 F x0 x1 w22)
set_option maxHeartbeats 4000000 in
set_option maxRecDepth 100000 in
theorem met_Core_writeTo {F : Nat} {x0 : Nat} {x1 : Nat} {w : im_W} {r : im_W} (hsh : sh_Core_writeTo F x0 x1 w = some r) : Met l y_Core_writeTo (Cond.code y_Core_writeTo c_Core_writeTo 2 none :: im_T) (im_rm 3 69) (im_Pre D vwCl tA lo im_NW [.ref (lo + x0), .ref (lo + x1)] w) (im_Post D vwCl tA lo none r) 0 0 (fun q => lo ≤ q) := by
  refine im_ofW (cc := c_Core_writeTo) (nL := 2) (ret := none) (by decide) (Nat.le_of_ble_eq_true rfl) ?_
  intro p e s m args below meth c X H locs ls hH hl
  obtain ⟨hx, hb, hr, hts, hown, hlk, hml, hK, hN⟩ := id X
  have hl : lv_has ls 2 [(0, .ref (lo + x0)), (1, .ref (lo + x1))] := hl
  unfold sh_Core_writeTo at hsh
  refine lv_aload_n hx hb d_Core_writeTo_0 rfl (lv_at hl 1 rfl) ?_
  refine lv_aload_n hx hb d_Core_writeTo_1 rfl (lv_at hl 0 rfl) ?_
  obtain ⟨f1, h2, hsh⟩ := im_bd hsh
  refine im_getL hx hb hts inC_Core hown hK hH (ci := 1) rfl 0 (by decide) (hts _ wd_91) rfl h2 d_Core_writeTo_2 ?_
  obtain ⟨u3, h4, hsh⟩ := im_bd hsh
  obtain ⟨g5, h6⟩ := im_is_s h4
  obtain ⟨w7, h8, hsh⟩ := im_bd hsh
  refine im_afterV (va_runV (As := [.long f1]) (rest := []) (C := RC_Text) ⟨hx, hb, hml, hown, hts⟩ (met_Text_appendSubtag h8) ⟨(callB_of 1 hts (im_good wd_497) rfl rfl rfl (hts _ wd_2) (hts _ wd_505) (by decide +kernel) ⟨Nat.le_of_ble_eq_true rfl, Nat.le_of_ble_eq_true rfl⟩), hts _ wd_495, hts _ wd_496⟩ (im_preV im_NW_ok hK hN hH (ci := 7) rfl rfl h6 _) rfl rfl hl.1 rfl (lv_room (Nat.le_of_ble_eq_true rfl)) d_Core_writeTo_5 ⟨Nat.le_of_ble_eq_true rfl, Nat.le_of_ble_eq_true rfl⟩) hH (fun H locs hH => ?_)
  refine lv_aload_n hx hb d_Core_writeTo_8 rfl (lv_at hl 0 rfl) ?_
  obtain ⟨u9, h10, hsh⟩ := im_bd hsh
  obtain ⟨g11, h12⟩ := im_is_s h10
  obtain ⟨v15, w13, h14, hsh⟩ := im_bd2 hsh
  refine im_afterI (va_runV (As := []) (rest := []) (C := RC_Core) ⟨hx, hb, hml, hown, hts⟩ (met_Core_hasScript h14) ⟨(callB_of 0 hts (im_good wd_399) rfl rfl rfl (hts _ wd_7) (hts _ wd_463) (by decide +kernel) ⟨Nat.le_of_ble_eq_true rfl, Nat.le_of_ble_eq_true rfl⟩), hts _ wd_397, hts _ wd_398⟩ (im_preV im_NW_ok hK hN hH (ci := 1) rfl rfl h12 _) rfl rfl hl.1 rfl (lv_room (Nat.le_of_ble_eq_true rfl)) d_Core_writeTo_9 ⟨Nat.le_of_ble_eq_true rfl, Nat.le_of_ble_eq_true rfl⟩) hH (fun H locs hH => ?_)
  refine lv_if_eq (tgt := 23) hx hb d_Core_writeTo_12 (by decide) (fun cc => ?_) (fun cc => ?_)
  · have hsh := im_it hsh cc
    exact bk_Core_writeTo_23 X x0 x1 w13 hsh H locs ls hH (lv_sub hl [0, 1] rfl)
  · have hsh := im_if hsh cc
    refine lv_aload_n hx hb d_Core_writeTo_15 rfl (lv_at hl 1 rfl) ?_
    refine lv_aload_n hx hb d_Core_writeTo_16 rfl (lv_at hl 0 rfl) ?_
    obtain ⟨f16, h17, hsh⟩ := im_bd hsh
    refine im_getL hx hb hts inC_Core hown hK hH (ci := 1) rfl 1 (by decide) (hts _ wd_93) rfl h17 d_Core_writeTo_17 ?_
    obtain ⟨u18, h19, hsh⟩ := im_bd hsh
    obtain ⟨g20, h21⟩ := im_is_s h19
    obtain ⟨w22, h23, hsh⟩ := im_bd hsh
    refine im_afterV (va_runV (As := [.long f16]) (rest := []) (C := RC_Text) ⟨hx, hb, hml, hown, hts⟩ (met_Text_appendSubtag h23) ⟨(callB_of 1 hts (im_good wd_497) rfl rfl rfl (hts _ wd_2) (hts _ wd_505) (by decide +kernel) ⟨Nat.le_of_ble_eq_true rfl, Nat.le_of_ble_eq_true rfl⟩), hts _ wd_495, hts _ wd_496⟩ (im_preV im_NW_ok hK hN hH (ci := 7) rfl rfl h21 _) rfl rfl hl.1 rfl (lv_room (Nat.le_of_ble_eq_true rfl)) d_Core_writeTo_20 ⟨Nat.le_of_ble_eq_true rfl, Nat.le_of_ble_eq_true rfl⟩) hH (fun H locs hH => ?_)
    exact bk_Core_writeTo_23 X x0 x1 w22 hsh H locs ls hH (lv_sub hl [0, 1] rfl)
end GEN
