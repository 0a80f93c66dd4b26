section GEN
variable {l : Launch} {D : va_G} {tA : Nat → ClassId} {lo : Nat} {p : Program} {e : Env} {s : State} {m : MethodId} {args : Array Value} {below : List Frame} {meth : Method} {c : Code}
theorem wd_108 : (Jvm.Cond.fieldLink "LanguageTags$Form" (20 : Nat) "LanguageTags$Form" "count" "I") ∈ im_T := im_memT (i := 108) (by decide +kernel) (by decide +kernel)
theorem d_Form_count_0 : decode c_Form_count 0 = .ok (.aload_n 0, 1) := by decide +kernel
theorem d_Form_count_1 : decode c_Form_count 1 = .ok (.getfield 20, 3) := by decide +kernel
theorem d_Form_count_4 : decode c_Form_count 4 = .ok (.ireturn, 1) := by decide +kernel
def sh_Form_count (F : Nat) (x0 : Nat) (w : im_W) : Option (Int32 × im_W) :=
  (im_gI w 2 x0 2).bind fun f1 => some (f1, w)
set_option maxHeartbeats 4000000 in
set_option maxRecDepth 100000 in
theorem met_Form_count {F : Nat} {x0 : Nat} {w : im_W} {r : Int32 × im_W} (hsh : sh_Form_count F x0 w = some r) : Met l y_Form_count (Cond.code y_Form_count c_Form_count 1 (some .int) :: im_T) (im_rm 0 0) (im_Pre D vwCl tA lo im_NW [.ref (lo + x0)] w) (im_Post D vwCl tA lo (some (.int r.1)) r.2) 0 0 (fun q => lo ≤ q) := by
  refine im_ofW (cc := c_Form_count) (nL := 1) (ret := (some .int)) (by decide) (Nat.le_of_ble_eq_true rfl) ?_
  intro p e s m args below meth c X H locs ls hH hl
  obtain ⟨hx, hb, hr, hts, hown, hlk, hml, hK, hN⟩ := id X
  have hl : lv_has ls 1 [(0, .ref (lo + x0))] := hl
  unfold sh_Form_count at hsh
  refine lv_aload_n hx hb d_Form_count_0 rfl (lv_at hl 0 rfl) ?_
  obtain ⟨f1, h2, hsh⟩ := im_bd hsh
  refine im_getI hx hb hts inC_Form hown hK hH (ci := 2) rfl 2 (by decide) (hts _ wd_108) rfl h2 d_Form_count_1 ?_
  obtain rfl := Option.some.inj hsh
  exact im_iret hx hb hr hlk hH d_Form_count_4
theorem wd_107 : (Jvm.Cond.fieldLink "LanguageTags$Form" (16 : Nat) "LanguageTags$Form" "parts" "[J") ∈ im_T := im_memT (i := 107) (by decide +kernel) (by decide +kernel)
theorem d_Form_at_0 : decode c_Form_at 0 = .ok (.iload_n 1, 1) := by decide +kernel
theorem d_Form_at_1 : decode c_Form_at 1 = .ok (.ifCond .lt (11), 3) := by decide +kernel
theorem d_Form_at_4 : decode c_Form_at 4 = .ok (.iload_n 1, 1) := by decide +kernel
theorem d_Form_at_5 : decode c_Form_at 5 = .ok (.aload_n 0, 1) := by decide +kernel
theorem d_Form_at_6 : decode c_Form_at 6 = .ok (.getfield 20, 3) := by decide +kernel
theorem d_Form_at_9 : decode c_Form_at 9 = .ok (.if_icmp .lt (7), 3) := by decide +kernel
theorem d_Form_at_12 : decode c_Form_at 12 = .ok (.lconst 0, 1) := by decide +kernel
theorem d_Form_at_13 : decode c_Form_at 13 = .ok (.goto (9), 3) := by decide +kernel
theorem d_Form_at_16 : decode c_Form_at 16 = .ok (.aload_n 0, 1) := by decide +kernel
theorem d_Form_at_17 : decode c_Form_at 17 = .ok (.getfield 16, 3) := by decide +kernel
theorem d_Form_at_20 : decode c_Form_at 20 = .ok (.iload_n 1, 1) := by decide +kernel
theorem d_Form_at_21 : decode c_Form_at 21 = .ok (.laload, 1) := by decide +kernel
theorem d_Form_at_22 : decode c_Form_at 22 = .ok (.lreturn, 1) := by decide +kernel
def sh_Form_at_22 (F : Nat) (y0 : Int64) (w : im_W) : Option (Int64 × im_W) :=
  some (y0, w)
set_option maxHeartbeats 4000000 in
set_option maxRecDepth 100000 in
theorem bk_Form_at_22 {F : Nat} {r : Int64 × im_W} (X : im_X D vwCl tA lo im_NW c_Form_at 2 (some .long) RC_Form im_T p s m args meth c) (y0 : Int64) (w : im_W) (hsh : sh_Form_at_22 F y0 w = some r) : im_WW D vwCl tA lo 2 p l e (im_rm 0 0) s m args below meth c 0 0 (MQ below (im_Post D vwCl tA lo (some (.long r.1)) r.2) args s 0 0 (fun q => lo ≤ q)) 22 [] [.long y0] w := by
  obtain ⟨hx, hb, hr, hts, hown, hlk, hml, hK, hN⟩ := id X
  intro H locs ls hH hl
  unfold sh_Form_at_22 at hsh
  obtain rfl := Option.some.inj hsh
  exact im_lret hx hb hr hlk hH d_Form_at_22
def sh_Form_at_12 (F : Nat)  (w : im_W) : Option (Int64 × im_W) :=
  sh_Form_at_22 F (0 : Int64) w
set_option maxHeartbeats 4000000 in
set_option maxRecDepth 100000 in
theorem bk_Form_at_12 {F : Nat} {r : Int64 × im_W} (X : im_X D vwCl tA lo im_NW c_Form_at 2 (some .long) RC_Form im_T p s m args meth c)  (w : im_W) (hsh : sh_Form_at_12 F w = some r) : im_WW D vwCl tA lo 2 p l e (im_rm 0 0) s m args below meth c 0 0 (MQ below (im_Post D vwCl tA lo (some (.long r.1)) r.2) args s 0 0 (fun q => lo ≤ q)) 12 [] [] w := by
  obtain ⟨hx, hb, hr, hts, hown, hlk, hml, hK, hN⟩ := id X
  intro H locs ls hH hl
  unfold sh_Form_at_12 at hsh
  refine lv_lconst (v := 0) hx hb d_Form_at_12 (by decide) ?_
  refine lv_goto (tgt := 22) hx hb d_Form_at_13 (by decide) ?_
  exact bk_Form_at_22 X (0 : Int64) w hsh H locs ls hH (lv_sub hl [] rfl)
def sh_Form_at (F : Nat) (x0 : Nat) (x1 : Int32) (w : im_W) : Option (Int64 × im_W) :=
  (if x1 < 0 then sh_Form_at_12 F w else (im_gI w 2 x0 2).bind fun f1 => (if x1 < f1 then (im_gR w 2 x0 1).bind fun f3 => (im_lL w 1 f3 x1).bind fun e5 => sh_Form_at_22 F e5 w else sh_Form_at_12 F w))
set_option maxHeartbeats 4000000 in
set_option maxRecDepth 100000 in
theorem met_Form_at {F : Nat} {x0 : Nat} {x1 : Int32} {w : im_W} {r : Int64 × im_W} (hsh : sh_Form_at F x0 x1 w = some r) : Met l y_Form_at (Cond.code y_Form_at c_Form_at 2 (some .long) :: im_T) (im_rm 0 0) (im_Pre D vwCl tA lo im_NW [.ref (lo + x0), .int x1] w) (im_Post D vwCl tA lo (some (.long r.1)) r.2) 0 0 (fun q => lo ≤ q) := by
  refine im_ofW (cc := c_Form_at) (nL := 2) (ret := (some .long)) (by decide) (Nat.le_of_ble_eq_true rfl) ?_
  intro p e s m args below meth c X H locs ls hH hl
  obtain ⟨hx, hb, hr, hts, hown, hlk, hml, hK, hN⟩ := id X
  have hl : lv_has ls 2 [(0, .ref (lo + x0)), (1, .int x1)] := hl
  unfold sh_Form_at at hsh
  refine lv_iload_n hx hb d_Form_at_0 rfl (lv_at hl 1 rfl) ?_
  refine lv_if_lt (tgt := 12) hx hb d_Form_at_1 (by decide) (fun cc => ?_) (fun cc => ?_)
  · have hsh := im_it hsh cc
    exact bk_Form_at_12 X w hsh H locs ls hH (lv_sub hl [] rfl)
  · have hsh := im_if hsh cc
    refine lv_iload_n hx hb d_Form_at_4 rfl (lv_at hl 1 rfl) ?_
    refine lv_aload_n hx hb d_Form_at_5 rfl (lv_at hl 0 rfl) ?_
    obtain ⟨f1, h2, hsh⟩ := im_bd hsh
    refine im_getI hx hb hts inC_Form hown hK hH (ci := 2) rfl 2 (by decide) (hts _ wd_108) rfl h2 d_Form_at_6 ?_
    refine lv_icmp_lt (tgt := 16) hx hb d_Form_at_9 (by decide) (fun cc => ?_) (fun cc => ?_)
    · have hsh := im_it hsh cc
      refine lv_aload_n hx hb d_Form_at_16 rfl (lv_at hl 0 rfl) ?_
      obtain ⟨f3, h4, hsh⟩ := im_bd hsh
      refine im_getR hx hb hts inC_Form hown hK hH (ci := 2) rfl 1 (by decide) (hts _ wd_107) rfl h4 d_Form_at_17 ?_
      refine lv_iload_n hx hb d_Form_at_20 rfl (lv_at hl 1 rfl) ?_
      obtain ⟨e5, h6, hsh⟩ := im_bd hsh
      refine im_lald hx hb hK hH h6 d_Form_at_21 ?_
      exact bk_Form_at_22 X e5 w hsh H locs ls hH (lv_sub hl [] rfl)
    · have hsh := im_if hsh cc
      exact bk_Form_at_12 X w hsh H locs ls hH (lv_sub hl [] rfl)
theorem wd_104 : (Jvm.Cond.fieldLink "LanguageTags$Form" (10 : Nat) "LanguageTags$Form" "core" "LLanguageTags$Core;") ∈ im_T := im_memT (i := 104) (by decide +kernel) (by decide +kernel)
theorem wd_459 : (Jvm.Cond.methodLink "LanguageTags$Form" (26 : Nat) ({ cls := "LanguageTags$Core", name := "count", desc := "()I" } : Jvm.MethodName)) ∈ im_T := im_memT (i := 459) (by decide +kernel) (by decide +kernel)
theorem wd_460 : (Jvm.Cond.instanceMethod ({ cls := "LanguageTags$Core", name := "count", desc := "()I" } : Jvm.MethodName)) ∈ im_T := im_memT (i := 460) (by decide +kernel) (by decide +kernel)
theorem wd_461 : (Jvm.Cond.selects "LanguageTags$Core" ({ cls := "LanguageTags$Core", name := "count", desc := "()I" } : Jvm.MethodName) ({ cls := "LanguageTags$Core", name := "count", desc := "()I" } : Jvm.MethodName)) ∈ im_T := im_memT (i := 461) (by decide +kernel) (by decide +kernel)
theorem wd_462 : (Jvm.Cond.code ({ cls := "LanguageTags$Core", name := "count", desc := "()I" } : Jvm.MethodName) prog_3_method_7_code (1 : Nat) (Option.some Jvm.ClassFile.FieldType.int)) ∈ im_T := im_memT (i := 462) (by decide +kernel) (by decide +kernel)
theorem d_Form_isPlain_0 : decode c_Form_isPlain 0 = .ok (.aload_n 0, 1) := by decide +kernel
theorem d_Form_isPlain_1 : decode c_Form_isPlain 1 = .ok (.getfield 20, 3) := by decide +kernel
theorem d_Form_isPlain_4 : decode c_Form_isPlain 4 = .ok (.aload_n 0, 1) := by decide +kernel
theorem d_Form_isPlain_5 : decode c_Form_isPlain 5 = .ok (.getfield 10, 3) := by decide +kernel
theorem d_Form_isPlain_8 : decode c_Form_isPlain 8 = .ok (.invokevirtual 26, 3) := by decide +kernel
theorem d_Form_isPlain_11 : decode c_Form_isPlain 11 = .ok (.if_icmp .ne (7), 3) := by decide +kernel
theorem d_Form_isPlain_14 : decode c_Form_isPlain 14 = .ok (.iconst 1, 1) := by decide +kernel
theorem d_Form_isPlain_15 : decode c_Form_isPlain 15 = .ok (.goto (4), 3) := by decide +kernel
theorem d_Form_isPlain_18 : decode c_Form_isPlain 18 = .ok (.iconst 0, 1) := by decide +kernel
theorem d_Form_isPlain_19 : decode c_Form_isPlain 19 = .ok (.ireturn, 1) := by decide +kernel
def sh_Form_isPlain_19 (F : Nat) (y0 : Int32) (w : im_W) : Option (Int32 × im_W) :=
  im_rz y0 w
set_option maxHeartbeats 4000000 in
set_option maxRecDepth 100000 in
theorem bk_Form_isPlain_19 {F : Nat} {r : Int32 × im_W} (X : im_X D vwCl tA lo im_NW c_Form_isPlain 1 (some .boolean) RC_Form im_T p s m args meth c) (y0 : Int32) (w : im_W) (hsh : sh_Form_isPlain_19 F y0 w = some r) : im_WW D vwCl tA lo 1 p l e (im_rm 2 40) s m args below meth c 0 0 (MQ below (im_Post D vwCl tA lo (some (.int r.1)) r.2) args s 0 0 (fun q => lo ≤ q)) 19 [] [.int y0] w := by
  obtain ⟨hx, hb, hr, hts, hown, hlk, hml, hK, hN⟩ := id X
  intro H locs ls hH hl
  unfold sh_Form_isPlain_19 at hsh
  obtain ⟨rfl, hn⟩ := im_rz_s hsh
  exact im_zret hx hb hr hlk hn hH d_Form_isPlain_19
def sh_Form_isPlain (F : Nat) (x0 : Nat) (w : im_W) : Option (Int32 × im_W) :=
  (im_gI w 2 x0 2).bind fun f1 => (im_gR w 2 x0 0).bind fun f3 => (im_is w 1 f3).bind fun u5 => im_b2 (sh_Core_count F f3 w) fun v11 w9 => (if f1 = v11 then sh_Form_isPlain_19 F (1 : Int32) w9 else sh_Form_isPlain_19 F (0 : Int32) w9)
set_option maxHeartbeats 4000000 in
set_option maxRecDepth 100000 in
theorem met_Form_isPlain {F : Nat} {x0 : Nat} {w : im_W} {r : Int32 × im_W} (hsh : sh_Form_isPlain F x0 w = some r) : Met l y_Form_isPlain (Cond.code y_Form_isPlain c_Form_isPlain 1 (some .boolean) :: im_T) (im_rm 2 40) (im_Pre D vwCl tA lo im_NW [.ref (lo + x0)] w) (im_Post D vwCl tA lo (some (.int r.1)) r.2) 0 0 (fun q => lo ≤ q) := by
  refine im_ofW (cc := c_Form_isPlain) (nL := 1) (ret := (some .boolean)) (by decide) (Nat.le_of_ble_eq_true rfl) ?_
  intro p e s m args below meth c X H locs ls hH hl
  obtain ⟨hx, hb, hr, hts, hown, hlk, hml, hK, hN⟩ := id X
  have hl : lv_has ls 1 [(0, .ref (lo + x0))] := hl
  unfold sh_Form_isPlain at hsh
  refine lv_aload_n hx hb d_Form_isPlain_0 rfl (lv_at hl 0 rfl) ?_
  obtain ⟨f1, h2, hsh⟩ := im_bd hsh
  refine im_getI hx hb hts inC_Form hown hK hH (ci := 2) rfl 2 (by decide) (hts _ wd_108) rfl h2 d_Form_isPlain_1 ?_
  refine lv_aload_n hx hb d_Form_isPlain_4 rfl (lv_at hl 0 rfl) ?_
  obtain ⟨f3, h4, hsh⟩ := im_bd hsh
  refine im_getR hx hb hts inC_Form hown hK hH (ci := 2) rfl 0 (by decide) (hts _ wd_104) rfl h4 d_Form_isPlain_5 ?_
  obtain ⟨u5, h6, hsh⟩ := im_bd hsh
  obtain ⟨g7, h8⟩ := im_is_s h6
  obtain ⟨v11, w9, h10, hsh⟩ := im_bd2 hsh
  refine im_afterI (va_runV (As := []) (rest := [.int f1]) (C := RC_Core) ⟨hx, hb, hml, hown, hts⟩ (met_Core_count h10) ⟨(callB_of 0 hts (im_good wd_462) rfl rfl rfl (hts _ wd_7) (hts _ wd_459) (by decide +kernel) ⟨Nat.le_of_ble_eq_true rfl, Nat.le_of_ble_eq_true rfl⟩), hts _ wd_460, hts _ wd_461⟩ (im_preV im_NW_ok hK hN hH (ci := 1) rfl rfl h8 _) rfl rfl hl.1 rfl (lv_room (Nat.le_of_ble_eq_true rfl)) d_Form_isPlain_8 ⟨Nat.le_of_ble_eq_true rfl, Nat.le_of_ble_eq_true rfl⟩) hH (fun H locs hH => ?_)
  refine lv_icmp_ne (tgt := 18) hx hb d_Form_isPlain_11 (by decide) (fun cc => ?_) (fun cc => ?_)
  · have hsh := im_if hsh cc
    refine lv_iconst (v := 0) hx hb d_Form_isPlain_18 (by decide) ?_
    exact bk_Form_isPlain_19 X (0 : Int32) w9 hsh H locs ls hH (lv_sub hl [] rfl)
  · have hsh := im_it hsh cc
    refine lv_iconst (v := 1) hx hb d_Form_isPlain_14 (by decide) ?_
    refine lv_goto (tgt := 19) hx hb d_Form_isPlain_15 (by decide) ?_
    exact bk_Form_isPlain_19 X (1 : Int32) w9 hsh H locs ls hH (lv_sub hl [] rfl)
theorem d_Form_append_0 : decode c_Form_append 0 = .ok (.aload_n 0, 1) := by decide +kernel
theorem d_Form_append_1 : decode c_Form_append 1 = .ok (.getfield 20, 3) := by decide +kernel
theorem d_Form_append_4 : decode c_Form_append 4 = .ok (.aload_n 0, 1) := by decide +kernel
theorem d_Form_append_5 : decode c_Form_append 5 = .ok (.getfield 16, 3) := by decide +kernel
theorem d_Form_append_8 : decode c_Form_append 8 = .ok (.arraylength, 1) := by decide +kernel
theorem d_Form_append_9 : decode c_Form_append 9 = .ok (.if_icmp .ge (23), 3) := by decide +kernel
theorem d_Form_append_12 : decode c_Form_append 12 = .ok (.aload_n 0, 1) := by decide +kernel
theorem d_Form_append_13 : decode c_Form_append 13 = .ok (.getfield 16, 3) := by decide +kernel
theorem d_Form_append_16 : decode c_Form_append 16 = .ok (.aload_n 0, 1) := by decide +kernel
theorem d_Form_append_17 : decode c_Form_append 17 = .ok (.getfield 20, 3) := by decide +kernel
theorem d_Form_append_20 : decode c_Form_append 20 = .ok (.lload_n 1, 1) := by decide +kernel
theorem d_Form_append_21 : decode c_Form_append 21 = .ok (.lastore, 1) := by decide +kernel
theorem d_Form_append_22 : decode c_Form_append 22 = .ok (.aload_n 0, 1) := by decide +kernel
theorem d_Form_append_23 : decode c_Form_append 23 = .ok (.dup, 1) := by decide +kernel
theorem d_Form_append_24 : decode c_Form_append 24 = .ok (.getfield 20, 3) := by decide +kernel
theorem d_Form_append_27 : decode c_Form_append 27 = .ok (.iconst 1, 1) := by decide +kernel
theorem d_Form_append_28 : decode c_Form_append 28 = .ok (.iadd, 1) := by decide +kernel
theorem d_Form_append_29 : decode c_Form_append 29 = .ok (.putfield 20, 3) := by decide +kernel
theorem d_Form_append_32 : decode c_Form_append 32 = .ok (.return_, 1) := by decide +kernel
def sh_Form_append_32 (F : Nat)  (w : im_W) : Option (im_W) :=
  some w
set_option maxHeartbeats 4000000 in
set_option maxRecDepth 100000 in
theorem bk_Form_append_32 {F : Nat} {r : im_W} (X : im_X D vwCl tA lo im_NW c_Form_append 3 none RC_Form im_T p s m args meth c)  (w : im_W) (hsh : sh_Form_append_32 F w = some r) : im_WW D vwCl tA lo 3 p l e (im_rm 0 0) s m args below meth c 0 0 (MQ below (im_Post D vwCl tA lo none r) args s 0 0 (fun q => lo ≤ q)) 32 [] [] w := by
  obtain ⟨hx, hb, hr, hts, hown, hlk, hml, hK, hN⟩ := id X
  intro H locs ls hH hl
  unfold sh_Form_append_32 at hsh
  obtain rfl := Option.some.inj hsh
  exact im_vret hx hb hr hlk hH d_Form_append_32
def sh_Form_append (F : Nat) (x0 : Nat) (x1 : Int64) (w : im_W) : Option (im_W) :=
  (im_gI w 2 x0 2).bind fun f1 => (im_gR w 2 x0 1).bind fun f3 => (im_len w 1 f3).bind fun n5 => (if n5 ≤ f1 then sh_Form_append_32 F w else (im_gR w 2 x0 1).bind fun f7 => (im_gI w 2 x0 2).bind fun f9 => (im_sL w 1 f7 f9 x1).bind fun w11 => (im_gI w11 2 x0 2).bind fun f13 => (im_pV w11 2 x0 2 (.int (f13 + (1 : Int32)))).bind fun w15 => sh_Form_append_32 F w15)
set_option maxHeartbeats 4000000 in
set_option maxRecDepth 100000 in
theorem met_Form_append {F : Nat} {x0 : Nat} {x1 : Int64} {w : im_W} {r : im_W} (hsh : sh_Form_append F x0 x1 w = some r) : Met l y_Form_append (Cond.code y_Form_append c_Form_append 3 none :: im_T) (im_rm 0 0) (im_Pre D vwCl tA lo im_NW [.ref (lo + x0), .long x1] w) (im_Post D vwCl tA lo none r) 0 0 (fun q => lo ≤ q) := by
  refine im_ofW (cc := c_Form_append) (nL := 3) (ret := none) (by decide) (Nat.le_of_ble_eq_true rfl) ?_
  intro p e s m args below meth c X H locs ls hH hl
  obtain ⟨hx, hb, hr, hts, hown, hlk, hml, hK, hN⟩ := id X
  have hl : lv_has ls 3 [(0, .ref (lo + x0)), (1, .long x1)] := hl
  unfold sh_Form_append at hsh
  refine lv_aload_n hx hb d_Form_append_0 rfl (lv_at hl 0 rfl) ?_
  obtain ⟨f1, h2, hsh⟩ := im_bd hsh
  refine im_getI hx hb hts inC_Form hown hK hH (ci := 2) rfl 2 (by decide) (hts _ wd_108) rfl h2 d_Form_append_1 ?_
  refine lv_aload_n hx hb d_Form_append_4 rfl (lv_at hl 0 rfl) ?_
  obtain ⟨f3, h4, hsh⟩ := im_bd hsh
  refine im_getR hx hb hts inC_Form hown hK hH (ci := 2) rfl 1 (by decide) (hts _ wd_107) rfl h4 d_Form_append_5 ?_
  obtain ⟨n5, h6, hsh⟩ := im_bd hsh
  refine im_alen hx hb hK hH (by decide) h6 d_Form_append_8 ?_
  refine lv_icmp_ge (tgt := 32) hx hb d_Form_append_9 (by decide) (fun cc => ?_) (fun cc => ?_)
  · have hsh := im_it hsh cc
    exact bk_Form_append_32 X w hsh H locs ls hH (lv_sub hl [] rfl)
  · have hsh := im_if hsh cc
    refine lv_aload_n hx hb d_Form_append_12 rfl (lv_at hl 0 rfl) ?_
    obtain ⟨f7, h8, hsh⟩ := im_bd hsh
    refine im_getR hx hb hts inC_Form hown hK hH (ci := 2) rfl 1 (by decide) (hts _ wd_107) rfl h8 d_Form_append_13 ?_
    refine lv_aload_n hx hb d_Form_append_16 rfl (lv_at hl 0 rfl) ?_
    obtain ⟨f9, h10, hsh⟩ := im_bd hsh
    refine im_getI hx hb hts inC_Form hown hK hH (ci := 2) rfl 2 (by decide) (hts _ wd_108) rfl h10 d_Form_append_17 ?_
    refine lv_lload_n hx hb d_Form_append_20 rfl (lv_at hl 1 rfl) ?_
    obtain ⟨w11, h12, hsh⟩ := im_bd hsh
    refine im_last hx hb hK hH h12 d_Form_append_21 (fun H locs hH => ?_)
    refine lv_aload_n hx hb d_Form_append_22 rfl (lv_at hl 0 rfl) ?_
    refine lv_dup hx hb d_Form_append_23 rfl ?_
    obtain ⟨f13, h14, hsh⟩ := im_bd hsh
    refine im_getI hx hb hts inC_Form hown hK hH (ci := 2) rfl 2 (by decide) (hts _ wd_108) rfl h14 d_Form_append_24 ?_
    refine lv_iconst (v := 1) hx hb d_Form_append_27 (by decide) ?_
    refine lv_iadd hx hb d_Form_append_28 ?_
    obtain ⟨w15, h16, hsh⟩ := im_bd hsh
    refine im_put (v := .int (f13 + (1 : Int32))) hx hb hts inC_Form tyC_Form tyC_Form_ok nmC_Form hown hK hH (ci := 2) rfl 2 (by decide) (hts _ wd_108) rfl rfl rfl rfl h16 d_Form_append_29 (fun H locs hH => ?_)
    exact bk_Form_append_32 X w15 hsh H locs ls hH (lv_sub hl [] rfl)
theorem wd_6 : (Jvm.Cond.initialized "LanguageTags$Form") ∈ im_T := im_memT (i := 6) (by decide +kernel) (by decide +kernel)
theorem wd_388 : (Jvm.Cond.methodLink "LanguageTags$Form" (29 : Nat) ({ cls := "LanguageTags$Core", name := "assign", desc := "(JJJ)V" } : Jvm.MethodName)) ∈ im_T := im_memT (i := 388) (by decide +kernel) (by decide +kernel)
theorem wd_392 : (Jvm.Cond.methodLink "LanguageTags$Form" (33 : Nat) ({ cls := "LanguageTags$Form", name := "append", desc := "(J)V" } : Jvm.MethodName)) ∈ im_T := im_memT (i := 392) (by decide +kernel) (by decide +kernel)
theorem wd_393 : (Jvm.Cond.instanceMethod ({ cls := "LanguageTags$Form", name := "append", desc := "(J)V" } : Jvm.MethodName)) ∈ im_T := im_memT (i := 393) (by decide +kernel) (by decide +kernel)
theorem wd_394 : (Jvm.Cond.selects "LanguageTags$Form" ({ cls := "LanguageTags$Form", name := "append", desc := "(J)V" } : Jvm.MethodName) ({ cls := "LanguageTags$Form", name := "append", desc := "(J)V" } : Jvm.MethodName)) ∈ im_T := im_memT (i := 394) (by decide +kernel) (by decide +kernel)
theorem wd_395 : (Jvm.Cond.code ({ cls := "LanguageTags$Form", name := "append", desc := "(J)V" } : Jvm.MethodName) prog_4_method_6_code (3 : Nat) (Option.none : Option Jvm.ClassFile.FieldType)) ∈ im_T := im_memT (i := 395) (by decide +kernel) (by decide +kernel)
theorem wd_396 : (Jvm.Cond.methodLink "LanguageTags$Form" (37 : Nat) ({ cls := "LanguageTags$Core", name := "hasScript", desc := "()Z" } : Jvm.MethodName)) ∈ im_T := im_memT (i := 396) (by decide +kernel) (by decide +kernel)
theorem wd_400 : (Jvm.Cond.methodLink "LanguageTags$Form" (41 : Nat) ({ cls := "LanguageTags$Core", name := "hasRegion", desc := "()Z" } : Jvm.MethodName)) ∈ im_T := im_memT (i := 400) (by decide +kernel) (by decide +kernel)
theorem d_Form_begin_0 : decode c_Form_begin 0 = .ok (.aload_n 0, 1) := by decide +kernel
theorem d_Form_begin_1 : decode c_Form_begin 1 = .ok (.getfield 10, 3) := by decide +kernel
theorem d_Form_begin_4 : decode c_Form_begin 4 = .ok (.lload_n 1, 1) := by decide +kernel
theorem d_Form_begin_5 : decode c_Form_begin 5 = .ok (.lload_n 3, 1) := by decide +kernel
theorem d_Form_begin_6 : decode c_Form_begin 6 = .ok (.lload 5, 2) := by decide +kernel
theorem d_Form_begin_8 : decode c_Form_begin 8 = .ok (.invokevirtual 29, 3) := by decide +kernel
theorem d_Form_begin_11 : decode c_Form_begin 11 = .ok (.aload_n 0, 1) := by decide +kernel
theorem d_Form_begin_12 : decode c_Form_begin 12 = .ok (.iconst 0, 1) := by decide +kernel
theorem d_Form_begin_13 : decode c_Form_begin 13 = .ok (.putfield 20, 3) := by decide +kernel
theorem d_Form_begin_16 : decode c_Form_begin 16 = .ok (.aload_n 0, 1) := by decide +kernel
theorem d_Form_begin_17 : decode c_Form_begin 17 = .ok (.lload_n 1, 1) := by decide +kernel
theorem d_Form_begin_18 : decode c_Form_begin 18 = .ok (.invokevirtual 33, 3) := by decide +kernel
theorem d_Form_begin_21 : decode c_Form_begin 21 = .ok (.aload_n 0, 1) := by decide +kernel
theorem d_Form_begin_22 : decode c_Form_begin 22 = .ok (.getfield 10, 3) := by decide +kernel
theorem d_Form_begin_25 : decode c_Form_begin 25 = .ok (.invokevirtual 37, 3) := by decide +kernel
theorem d_Form_begin_28 : decode c_Form_begin 28 = .ok (.ifCond .eq (8), 3) := by decide +kernel
theorem d_Form_begin_31 : decode c_Form_begin 31 = .ok (.aload_n 0, 1) := by decide +kernel
theorem d_Form_begin_32 : decode c_Form_begin 32 = .ok (.lload_n 3, 1) := by decide +kernel
theorem d_Form_begin_33 : decode c_Form_begin 33 = .ok (.invokevirtual 33, 3) := by decide +kernel
theorem d_Form_begin_36 : decode c_Form_begin 36 = .ok (.aload_n 0, 1) := by decide +kernel
theorem d_Form_begin_37 : decode c_Form_begin 37 = .ok (.getfield 10, 3) := by decide +kernel
theorem d_Form_begin_40 : decode c_Form_begin 40 = .ok (.invokevirtual 41, 3) := by decide +kernel
theorem d_Form_begin_43 : decode c_Form_begin 43 = .ok (.ifCond .eq (9), 3) := by decide +kernel
theorem d_Form_begin_46 : decode c_Form_begin 46 = .ok (.aload_n 0, 1) := by decide +kernel
theorem d_Form_begin_47 : decode c_Form_begin 47 = .ok (.lload 5, 2) := by decide +kernel
theorem d_Form_begin_49 : decode c_Form_begin 49 = .ok (.invokevirtual 33, 3) := by decide +kernel
theorem d_Form_begin_52 : decode c_Form_begin 52 = .ok (.return_, 1) := by decide +kernel
def sh_Form_begin_52 (F : Nat)  (w : im_W) : Option (im_W) :=
  some w
set_option maxHeartbeats 4000000 in
set_option maxRecDepth 100000 in
theorem bk_Form_begin_52 {F : Nat} {r : im_W} (X : im_X D vwCl tA lo im_NW c_Form_begin 7 none RC_Form im_T p s m args meth c)  (w : im_W) (hsh : sh_Form_begin_52 F w = some r) : im_WW D vwCl tA lo 7 p l e (im_rm 1 26) s m args below meth c 0 0 (MQ below (im_Post D vwCl tA lo none r) args s 0 0 (fun q => lo ≤ q)) 52 [] [] w := by
  obtain ⟨hx, hb, hr, hts, hown, hlk, hml, hK, hN⟩ := id X
  intro H locs ls hH hl
  unfold sh_Form_begin_52 at hsh
  obtain rfl := Option.some.inj hsh
  exact im_vret hx hb hr hlk hH d_Form_begin_52
def sh_Form_begin_36 (F : Nat) (x0 : Nat) (x5 : Int64) (w : im_W) : Option (im_W) :=
  (im_gR w 2 x0 0).bind fun f1 => (im_is w 1 f1).bind fun u3 => im_b2 (sh_Core_hasRegion F f1 w) fun v9 w7 => (if v9 = 0 then sh_Form_begin_52 F w7 else (im_is w7 2 x0).bind fun u10 => (sh_Form_append F x0 x5 w7).bind fun w14 => sh_Form_begin_52 F w14)
set_option maxHeartbeats 4000000 in
set_option maxRecDepth 100000 in
theorem bk_Form_begin_36 {F : Nat} {r : im_W} (X : im_X D vwCl tA lo im_NW c_Form_begin 7 none RC_Form im_T p s m args meth c) (x0 : Nat) (x5 : Int64) (w : im_W) (hsh : sh_Form_begin_36 F x0 x5 w = some r) : im_WW D vwCl tA lo 7 p l e (im_rm 1 26) s m args below meth c 0 0 (MQ below (im_Post D vwCl tA lo none r) args s 0 0 (fun q => lo ≤ q)) 36 [(0, .ref (lo + x0)), (5, .long x5)] [] w := by
  obtain ⟨hx, hb, hr, hts, hown, hlk, hml, hK, hN⟩ := id X
  intro H locs ls hH hl
  unfold sh_Form_begin_36 at hsh
  refine lv_aload_n hx hb d_Form_begin_36 rfl (lv_at hl 0 rfl) ?_
  obtain ⟨f1, h2, hsh⟩ := im_bd hsh
  refine im_getR hx hb hts inC_Form hown hK hH (ci := 2) rfl 0 (by decide) (hts _ wd_104) rfl h2 d_Form_begin_37 ?_
  obtain ⟨u3, h4, hsh⟩ := im_bd hsh
  obtain ⟨g5, h6⟩ := im_is_s h4
  obtain ⟨v9, w7, h8, hsh⟩ := im_bd2 hsh
  refine im_afterI (va_runV (As := []) (rest := []) (C := RC_Core) ⟨hx, hb, hml, hown, hts⟩ (met_Core_hasRegion h8) ⟨(callB_of 0 hts (im_good wd_403) rfl rfl rfl (hts _ wd_7) (hts _ wd_400) (by decide +kernel) ⟨Nat.le_of_ble_eq_true rfl, Nat.le_of_ble_eq_true rfl⟩), hts _ wd_401, hts _ wd_402⟩ (im_preV im_NW_ok hK hN hH (ci := 1) rfl rfl h6 _) rfl rfl hl.1 rfl (lv_room (Nat.le_of_ble_eq_true rfl)) d_Form_begin_40 ⟨Nat.le_of_ble_eq_true rfl, Nat.le_of_ble_eq_true rfl⟩) hH (fun H locs hH => ?_)
  refine lv_if_eq (tgt := 52) hx hb d_Form_begin_43 (by decide) (fun cc => ?_) (fun cc => ?_)
  · have hsh := im_it hsh cc
    exact bk_Form_begin_52 X w7 hsh H locs ls hH (lv_sub hl [] rfl)
  · have hsh := im_if hsh cc
    refine lv_aload_n hx hb d_Form_begin_46 rfl (lv_at hl 0 rfl) ?_
    refine lv_lload hx hb d_Form_begin_47 (lv_at hl 1 rfl) ?_
    obtain ⟨u10, h11, hsh⟩ := im_bd hsh
    obtain ⟨g12, h13⟩ := im_is_s h11
    obtain ⟨w14, h15, hsh⟩ := im_bd hsh
    refine im_afterV (va_runV (As := [.long x5]) (rest := []) (C := RC_Form) ⟨hx, hb, hml, hown, hts⟩ (met_Form_append h15) ⟨(callB_of 1 hts (im_good wd_395) rfl rfl rfl (hts _ wd_6) (hts _ wd_392) (by decide +kernel) ⟨Nat.le_of_ble_eq_true rfl, Nat.le_of_ble_eq_true rfl⟩), hts _ wd_393, hts _ wd_394⟩ (im_preV im_NW_ok hK hN hH (ci := 2) rfl rfl h13 _) rfl rfl hl.1 rfl (lv_room (Nat.le_of_ble_eq_true rfl)) d_Form_begin_49 ⟨Nat.le_of_ble_eq_true rfl, Nat.le_of_ble_eq_true rfl⟩) hH (fun H locs hH => ?_)
    exact bk_Form_begin_52 X w14 hsh H locs ls hH (lv_sub hl [] rfl)
def sh_Form_begin (F : Nat) (x0 : Nat) (x1 : Int64) (x3 : Int64) (x5 : Int64) (w : im_W) : Option (im_W) :=
  (im_gR w 2 x0 0).bind fun f1 => (im_is w 1 f1).bind fun u3 => (sh_Core_assign F f1 x1 x3 x5 w).bind fun w7 => (im_pV w7 2 x0 2 (.int (0 : Int32))).bind fun w9 => (im_is w9 2 x0).bind fun u11 => (sh_Form_append F x0 x1 w9).bind fun w15 => (im_gR w15 2 x0 0).bind fun f17 => (im_is w15 1 f17).bind fun u19 => im_b2 (sh_Core_hasScript F f17 w15) fun v25 w23 => (if v25 = 0 then sh_Form_begin_36 F x0 x5 w23 else (im_is w23 2 x0).bind fun u26 => (sh_Form_append F x0 x3 w23).bind fun w30 => sh_Form_begin_36 F x0 x5 w30)
set_option maxHeartbeats 4000000 in
set_option maxRecDepth 100000 in
theorem met_Form_begin {F : Nat} {x0 : Nat} {x1 : Int64} {x3 : Int64} {x5 : Int64} {w : im_W} {r : im_W} (hsh : sh_Form_begin F x0 x1 x3 x5 w = some r) : Met l y_Form_begin (Cond.code y_Form_begin c_Form_begin 7 none :: im_T) (im_rm 1 26) (im_Pre D vwCl tA lo im_NW [.ref (lo + x0), .long x1, .long x3, .long x5] w) (im_Post D vwCl tA lo none r) 0 0 (fun q => lo ≤ q) := by
  refine im_ofW (cc := c_Form_begin) (nL := 7) (ret := none) (by decide) (Nat.le_of_ble_eq_true rfl) ?_
  intro p e s m args below meth c X H locs ls hH hl
  obtain ⟨hx, hb, hr, hts, hown, hlk, hml, hK, hN⟩ := id X
  have hl : lv_has ls 7 [(0, .ref (lo + x0)), (1, .long x1), (3, .long x3), (5, .long x5)] := hl
  unfold sh_Form_begin at hsh
  refine lv_aload_n hx hb d_Form_begin_0 rfl (lv_at hl 0 rfl) ?_
  obtain ⟨f1, h2, hsh⟩ := im_bd hsh
  refine im_getR hx hb hts inC_Form hown hK hH (ci := 2) rfl 0 (by decide) (hts _ wd_104) rfl h2 d_Form_begin_1 ?_
  refine lv_lload_n hx hb d_Form_begin_4 rfl (lv_at hl 1 rfl) ?_
  refine lv_lload_n hx hb d_Form_begin_5 rfl (lv_at hl 2 rfl) ?_
  refine lv_lload hx hb d_Form_begin_6 (lv_at hl 3 rfl) ?_
  obtain ⟨u3, h4, hsh⟩ := im_bd hsh
  obtain ⟨g5, h6⟩ := im_is_s h4
  obtain ⟨w7, h8, hsh⟩ := im_bd hsh
  refine im_afterV (va_runV (As := [.long x1, .long x3, .long x5]) (rest := []) (C := RC_Core) ⟨hx, hb, hml, hown, hts⟩ (met_Core_assign h8) ⟨(callB_of 3 hts (im_good wd_391) rfl rfl rfl (hts _ wd_7) (hts _ wd_388) (by decide +kernel) ⟨Nat.le_of_ble_eq_true rfl, Nat.le_of_ble_eq_true rfl⟩), hts _ wd_389, hts _ wd_390⟩ (im_preV im_NW_ok hK hN hH (ci := 1) rfl rfl h6 _) rfl rfl hl.1 rfl (lv_room (Nat.le_of_ble_eq_true rfl)) d_Form_begin_8 ⟨Nat.le_of_ble_eq_true rfl, Nat.le_of_ble_eq_true rfl⟩) hH (fun H locs hH => ?_)
  refine lv_aload_n hx hb d_Form_begin_11 rfl (lv_at hl 0 rfl) ?_
  refine lv_iconst (v := 0) hx hb d_Form_begin_12 (by decide) ?_
  obtain ⟨w9, h10, hsh⟩ := im_bd hsh
  refine im_put (v := .int (0 : Int32)) hx hb hts inC_Form tyC_Form tyC_Form_ok nmC_Form hown hK hH (ci := 2) rfl 2 (by decide) (hts _ wd_108) rfl rfl rfl rfl h10 d_Form_begin_13 (fun H locs hH => ?_)
  refine lv_aload_n hx hb d_Form_begin_16 rfl (lv_at hl 0 rfl) ?_
  refine lv_lload_n hx hb d_Form_begin_17 rfl (lv_at hl 1 rfl) ?_
  obtain ⟨u11, h12, hsh⟩ := im_bd hsh
  obtain ⟨g13, h14⟩ := im_is_s h12
  obtain ⟨w15, h16, hsh⟩ := im_bd hsh
  refine im_afterV (va_runV (As := [.long x1]) (rest := []) (C := RC_Form) ⟨hx, hb, hml, hown, hts⟩ (met_Form_append h16) ⟨(callB_of 1 hts (im_good wd_395) rfl rfl rfl (hts _ wd_6) (hts _ wd_392) (by decide +kernel) ⟨Nat.le_of_ble_eq_true rfl, Nat.le_of_ble_eq_true rfl⟩), hts _ wd_393, hts _ wd_394⟩ (im_preV im_NW_ok hK hN hH (ci := 2) rfl rfl h14 _) rfl rfl hl.1 rfl (lv_room (Nat.le_of_ble_eq_true rfl)) d_Form_begin_18 ⟨Nat.le_of_ble_eq_true rfl, Nat.le_of_ble_eq_true rfl⟩) hH (fun H locs hH => ?_)
  refine lv_aload_n hx hb d_Form_begin_21 rfl (lv_at hl 0 rfl) ?_
  obtain ⟨f17, h18, hsh⟩ := im_bd hsh
  refine im_getR hx hb hts inC_Form hown hK hH (ci := 2) rfl 0 (by decide) (hts _ wd_104) rfl h18 d_Form_begin_22 ?_
  obtain ⟨u19, h20, hsh⟩ := im_bd hsh
  obtain ⟨g21, h22⟩ := im_is_s h20
  obtain ⟨v25, w23, h24, hsh⟩ := im_bd2 hsh
  refine im_afterI (va_runV (As := []) (rest := []) (C := RC_Core) ⟨hx, hb, hml, hown, hts⟩ (met_Core_hasScript h24) ⟨(callB_of 0 hts (im_good wd_399) rfl rfl rfl (hts _ wd_7) (hts _ wd_396) (by decide +kernel) ⟨Nat.le_of_ble_eq_true rfl, Nat.le_of_ble_eq_true rfl⟩), hts _ wd_397, hts _ wd_398⟩ (im_preV im_NW_ok hK hN hH (ci := 1) rfl rfl h22 _) rfl rfl hl.1 rfl (lv_room (Nat.le_of_ble_eq_true rfl)) d_Form_begin_25 ⟨Nat.le_of_ble_eq_true rfl, Nat.le_of_ble_eq_true rfl⟩) hH (fun H locs hH => ?_)
  refine lv_if_eq (tgt := 36) hx hb d_Form_begin_28 (by decide) (fun cc => ?_) (fun cc => ?_)
  · have hsh := im_it hsh cc
    exact bk_Form_begin_36 X x0 x5 w23 hsh H locs ls hH (lv_sub hl [0, 3] rfl)
  · have hsh := im_if hsh cc
    refine lv_aload_n hx hb d_Form_begin_31 rfl (lv_at hl 0 rfl) ?_
    refine lv_lload_n hx hb d_Form_begin_32 rfl (lv_at hl 2 rfl) ?_
    obtain ⟨u26, h27, hsh⟩ := im_bd hsh
    obtain ⟨g28, h29⟩ := im_is_s h27
    obtain ⟨w30, h31, hsh⟩ := im_bd hsh
    refine im_afterV (va_runV (As := [.long x3]) (rest := []) (C := RC_Form) ⟨hx, hb, hml, hown, hts⟩ (met_Form_append h31) ⟨(callB_of 1 hts (im_good wd_395) rfl rfl rfl (hts _ wd_6) (hts _ wd_392) (by decide +kernel) ⟨Nat.le_of_ble_eq_true rfl, Nat.le_of_ble_eq_true rfl⟩), hts _ wd_393, hts _ wd_394⟩ (im_preV im_NW_ok hK hN hH (ci := 2) rfl rfl h29 _) rfl rfl hl.1 rfl (lv_room (Nat.le_of_ble_eq_true rfl)) d_Form_begin_33 ⟨Nat.le_of_ble_eq_true rfl, Nat.le_of_ble_eq_true rfl⟩) hH (fun H locs hH => ?_)
    exact bk_Form_begin_36 X x0 x5 w30 hsh H locs ls hH (lv_sub hl [0, 3] rfl)
theorem wd_434 : (Jvm.Cond.methodLink "LanguageTags$Form" (48 : Nat) ({ cls := "LanguageTags$Form", name := "at", desc := "(I)J" } : Jvm.MethodName)) ∈ im_T := im_memT (i := 434) (by decide +kernel) (by decide +kernel)
theorem wd_435 : (Jvm.Cond.instanceMethod ({ cls := "LanguageTags$Form", name := "at", desc := "(I)J" } : Jvm.MethodName)) ∈ im_T := im_memT (i := 435) (by decide +kernel) (by decide +kernel)
theorem wd_436 : (Jvm.Cond.selects "LanguageTags$Form" ({ cls := "LanguageTags$Form", name := "at", desc := "(I)J" } : Jvm.MethodName) ({ cls := "LanguageTags$Form", name := "at", desc := "(I)J" } : Jvm.MethodName)) ∈ im_T := im_memT (i := 436) (by decide +kernel) (by decide +kernel)
theorem wd_437 : (Jvm.Cond.code ({ cls := "LanguageTags$Form", name := "at", desc := "(I)J" } : Jvm.MethodName) prog_4_method_3_code (2 : Nat) (Option.some Jvm.ClassFile.FieldType.long)) ∈ im_T := im_memT (i := 437) (by decide +kernel) (by decide +kernel)
theorem wd_442 : (Jvm.Cond.methodLink "LanguageTags$Form" (44 : Nat) ({ cls := "LanguageTags$Core", name := "copyFrom", desc := "(LLanguageTags$Core;)V" } : Jvm.MethodName)) ∈ im_T := im_memT (i := 442) (by decide +kernel) (by decide +kernel)
theorem wd_443 : (Jvm.Cond.instanceMethod ({ cls := "LanguageTags$Core", name := "copyFrom", desc := "(LLanguageTags$Core;)V" } : Jvm.MethodName)) ∈ im_T := im_memT (i := 443) (by decide +kernel) (by decide +kernel)
theorem wd_444 : (Jvm.Cond.selects "LanguageTags$Core" ({ cls := "LanguageTags$Core", name := "copyFrom", desc := "(LLanguageTags$Core;)V" } : Jvm.MethodName) ({ cls := "LanguageTags$Core", name := "copyFrom", desc := "(LLanguageTags$Core;)V" } : Jvm.MethodName)) ∈ im_T := im_memT (i := 444) (by decide +kernel) (by decide +kernel)
theorem wd_445 : (Jvm.Cond.code ({ cls := "LanguageTags$Core", name := "copyFrom", desc := "(LLanguageTags$Core;)V" } : Jvm.MethodName) prog_3_method_3_code (2 : Nat) (Option.none : Option Jvm.ClassFile.FieldType)) ∈ im_T := im_memT (i := 445) (by decide +kernel) (by decide +kernel)
theorem d_Form_copyFrom_0 : decode c_Form_copyFrom 0 = .ok (.aload_n 0, 1) := by decide +kernel
theorem d_Form_copyFrom_1 : decode c_Form_copyFrom 1 = .ok (.getfield 10, 3) := by decide +kernel
theorem d_Form_copyFrom_4 : decode c_Form_copyFrom 4 = .ok (.aload_n 1, 1) := by decide +kernel
theorem d_Form_copyFrom_5 : decode c_Form_copyFrom 5 = .ok (.getfield 10, 3) := by decide +kernel
theorem d_Form_copyFrom_8 : decode c_Form_copyFrom 8 = .ok (.invokevirtual 44, 3) := by decide +kernel
theorem d_Form_copyFrom_11 : decode c_Form_copyFrom 11 = .ok (.aload_n 0, 1) := by decide +kernel
theorem d_Form_copyFrom_12 : decode c_Form_copyFrom 12 = .ok (.iconst 0, 1) := by decide +kernel
theorem d_Form_copyFrom_13 : decode c_Form_copyFrom 13 = .ok (.putfield 20, 3) := by decide +kernel
theorem d_Form_copyFrom_16 : decode c_Form_copyFrom 16 = .ok (.iconst 0, 1) := by decide +kernel
theorem d_Form_copyFrom_17 : decode c_Form_copyFrom 17 = .ok (.istore_n 2, 1) := by decide +kernel
theorem d_Form_copyFrom_18 : decode c_Form_copyFrom 18 = .ok (.iload_n 2, 1) := by decide +kernel
theorem d_Form_copyFrom_19 : decode c_Form_copyFrom 19 = .ok (.aload_n 1, 1) := by decide +kernel
theorem d_Form_copyFrom_20 : decode c_Form_copyFrom 20 = .ok (.getfield 20, 3) := by decide +kernel
theorem d_Form_copyFrom_23 : decode c_Form_copyFrom 23 = .ok (.if_icmp .ge (18), 3) := by decide +kernel
theorem d_Form_copyFrom_26 : decode c_Form_copyFrom 26 = .ok (.aload_n 0, 1) := by decide +kernel
theorem d_Form_copyFrom_27 : decode c_Form_copyFrom 27 = .ok (.aload_n 1, 1) := by decide +kernel
theorem d_Form_copyFrom_28 : decode c_Form_copyFrom 28 = .ok (.iload_n 2, 1) := by decide +kernel
theorem d_Form_copyFrom_29 : decode c_Form_copyFrom 29 = .ok (.invokevirtual 48, 3) := by decide +kernel
theorem d_Form_copyFrom_32 : decode c_Form_copyFrom 32 = .ok (.invokevirtual 33, 3) := by decide +kernel
theorem d_Form_copyFrom_35 : decode c_Form_copyFrom 35 = .ok (.iinc 2 (1), 3) := by decide +kernel
theorem d_Form_copyFrom_38 : decode c_Form_copyFrom 38 = .ok (.goto (-20), 3) := by decide +kernel
theorem d_Form_copyFrom_41 : decode c_Form_copyFrom 41 = .ok (.return_, 1) := by decide +kernel
def sh_Form_copyFrom_18 (F : Nat) : Nat → Nat → Nat → Int32 → im_W → Option (im_W)
  | 0, _, _, _, _ => none
  | f + 1, x0, x1, x2, w => (im_gI w 2 x1 2).bind fun f1 => (if f1 ≤ x2 then some w else (im_is w 2 x1).bind fun u3 => im_b2 (sh_Form_at F x1 x2 w) fun v9 w7 => (im_is w7 2 x0).bind fun u10 => (sh_Form_append F x0 v9 w7).bind fun w14 => (sh_Form_copyFrom_18 F f) x0 x1 (x2 + (1 : Int32)) w14)
set_option maxHeartbeats 4000000 in
set_option maxRecDepth 100000 in
theorem bk_Form_copyFrom_18 {F : Nat} {r : im_W} (X : im_X D vwCl tA lo im_NW c_Form_copyFrom 3 none RC_Form im_T p s m args meth c) : ∀ (f : Nat) (x0 : Nat) (x1 : Nat) (x2 : Int32) (w : im_W), sh_Form_copyFrom_18 F f x0 x1 x2 w = some r → im_WW D vwCl tA lo 3 p l e (im_rm 2 47) s m args below meth c 0 0 (MQ below (im_Post D vwCl tA lo none r) args s 0 0 (fun q => lo ≤ q)) 18 [(0, .ref (lo + x0)), (1, .ref (lo + x1)), (2, .int x2)] [] w := by
  obtain ⟨hx, hb, hr, hts, hown, hlk, hml, hK, hN⟩ := id X
  intro f
  induction f with
  | zero =>
    intro x0 x1 x2 w hsh
    cases hsh
  | succ f ih =>
    intro x0 x1 x2 w hsh H locs ls hH hl
    unfold sh_Form_copyFrom_18 at hsh
    refine lv_iload_n hx hb d_Form_copyFrom_18 rfl (lv_at hl 2 rfl) ?_
    refine lv_aload_n hx hb d_Form_copyFrom_19 rfl (lv_at hl 1 rfl) ?_
    obtain ⟨f1, h2, hsh⟩ := im_bd hsh
    refine im_getI hx hb hts inC_Form hown hK hH (ci := 2) rfl 2 (by decide) (hts _ wd_108) rfl h2 d_Form_copyFrom_20 ?_
    refine lv_icmp_ge (tgt := 41) hx hb d_Form_copyFrom_23 (by decide) (fun cc => ?_) (fun cc => ?_)
    · have hsh := im_it hsh cc
      obtain rfl := Option.some.inj hsh
      exact im_vret hx hb hr hlk hH d_Form_copyFrom_41
    · have hsh := im_if hsh cc
      refine lv_aload_n hx hb d_Form_copyFrom_26 rfl (lv_at hl 0 rfl) ?_
      refine lv_aload_n hx hb d_Form_copyFrom_27 rfl (lv_at hl 1 rfl) ?_
      refine lv_iload_n hx hb d_Form_copyFrom_28 rfl (lv_at hl 2 rfl) ?_
      obtain ⟨u3, h4, hsh⟩ := im_bd hsh
      obtain ⟨g5, h6⟩ := im_is_s h4
      obtain ⟨v9, w7, h8, hsh⟩ := im_bd2 hsh
      refine im_afterL (va_runV (As := [.int x2]) (rest := [.ref (lo + x0)]) (C := RC_Form) ⟨hx, hb, hml, hown, hts⟩ (met_Form_at h8) ⟨(callB_of 1 hts (im_good wd_437) rfl rfl rfl (hts _ wd_6) (hts _ wd_434) (by decide +kernel) ⟨Nat.le_of_ble_eq_true rfl, Nat.le_of_ble_eq_true rfl⟩), hts _ wd_435, hts _ wd_436⟩ (im_preV im_NW_ok hK hN hH (ci := 2) rfl rfl h6 _) rfl rfl hl.1 rfl (lv_room (Nat.le_of_ble_eq_true rfl)) d_Form_copyFrom_29 ⟨Nat.le_of_ble_eq_true rfl, Nat.le_of_ble_eq_true rfl⟩) hH (fun H locs hH => ?_)
      obtain ⟨u10, h11, hsh⟩ := im_bd hsh
      obtain ⟨g12, h13⟩ := im_is_s h11
      obtain ⟨w14, h15, hsh⟩ := im_bd hsh
      refine im_afterV (va_runV (As := [.long v9]) (rest := []) (C := RC_Form) ⟨hx, hb, hml, hown, hts⟩ (met_Form_append h15) ⟨(callB_of 1 hts (im_good wd_395) rfl rfl rfl (hts _ wd_6) (hts _ wd_392) (by decide +kernel) ⟨Nat.le_of_ble_eq_true rfl, Nat.le_of_ble_eq_true rfl⟩), hts _ wd_393, hts _ wd_394⟩ (im_preV im_NW_ok hK hN hH (ci := 2) rfl rfl h13 _) rfl rfl hl.1 rfl (lv_room (Nat.le_of_ble_eq_true rfl)) d_Form_copyFrom_32 ⟨Nat.le_of_ble_eq_true rfl, Nat.le_of_ble_eq_true rfl⟩) hH (fun H locs hH => ?_)
      refine lv_iinc (v := (x2 + (1 : Int32))) (lv' := [(2, .int (x2 + (1 : Int32))), (0, .ref (lo + x0)), (1, .ref (lo + x1))]) hx hb d_Form_copyFrom_35 hl (k := 2) rfl rfl (by decide) rfl (fun ls hl => ?_)
      refine lv_goto (tgt := 18) hx hb d_Form_copyFrom_38 (by decide) ?_
      exact ih x0 x1 (x2 + (1 : Int32)) w14 hsh H locs ls hH (lv_sub hl [1, 2, 0] rfl)
def sh_Form_copyFrom (F : Nat) (x0 : Nat) (x1 : Nat) (w : im_W) : Option (im_W) :=
  (im_gR w 2 x0 0).bind fun f1 => (im_gR w 2 x1 0).bind fun f3 => (im_is w 1 f1).bind fun u5 => (sh_Core_copyFrom F f1 f3 w).bind fun w9 => (im_pV w9 2 x0 2 (.int (0 : Int32))).bind fun w11 => sh_Form_copyFrom_18 F F x0 x1 (0 : Int32) w11
set_option maxHeartbeats 4000000 in
set_option maxRecDepth 100000 in
theorem met_Form_copyFrom {F : Nat} {x0 : Nat} {x1 : Nat} {w : im_W} {r : im_W} (hsh : sh_Form_copyFrom F x0 x1 w = some r) : Met l y_Form_copyFrom (Cond.code y_Form_copyFrom c_Form_copyFrom 3 none :: im_T) (im_rm 2 47) (im_Pre D vwCl tA lo im_NW [.ref (lo + x0), .ref (lo + x1)] w) (im_Post D vwCl tA lo none r) 0 0 (fun q => lo ≤ q) := by
  refine im_ofW (cc := c_Form_copyFrom) (nL := 3) (ret := none) (by decide) (Nat.le_of_ble_eq_true rfl) ?_
  intro p e s m args below meth c X H locs ls hH hl
  obtain ⟨hx, hb, hr, hts, hown, hlk, hml, hK, hN⟩ := id X
  have hl : lv_has ls 3 [(0, .ref (lo + x0)), (1, .ref (lo + x1))] := hl
  unfold sh_Form_copyFrom at hsh
  refine lv_aload_n hx hb d_Form_copyFrom_0 rfl (lv_at hl 0 rfl) ?_
  obtain ⟨f1, h2, hsh⟩ := im_bd hsh
  refine im_getR hx hb hts inC_Form hown hK hH (ci := 2) rfl 0 (by decide) (hts _ wd_104) rfl h2 d_Form_copyFrom_1 ?_
  refine lv_aload_n hx hb d_Form_copyFrom_4 rfl (lv_at hl 1 rfl) ?_
  obtain ⟨f3, h4, hsh⟩ := im_bd hsh
  refine im_getR hx hb hts inC_Form hown hK hH (ci := 2) rfl 0 (by decide) (hts _ wd_104) rfl h4 d_Form_copyFrom_5 ?_
  obtain ⟨u5, h6, hsh⟩ := im_bd hsh
  obtain ⟨g7, h8⟩ := im_is_s h6
  obtain ⟨w9, h10, hsh⟩ := im_bd hsh
  refine im_afterV (va_runV (As := [.ref (lo + f3)]) (rest := []) (C := RC_Core) ⟨hx, hb, hml, hown, hts⟩ (met_Core_copyFrom h10) ⟨(callB_of 1 hts (im_good wd_445) rfl rfl rfl (hts _ wd_7) (hts _ wd_442) (by decide +kernel) ⟨Nat.le_of_ble_eq_true rfl, Nat.le_of_ble_eq_true rfl⟩), hts _ wd_443, hts _ wd_444⟩ (im_preV im_NW_ok hK hN hH (ci := 1) rfl rfl h8 _) rfl rfl hl.1 rfl (lv_room (Nat.le_of_ble_eq_true rfl)) d_Form_copyFrom_8 ⟨Nat.le_of_ble_eq_true rfl, Nat.le_of_ble_eq_true rfl⟩) hH (fun H locs hH => ?_)
  refine lv_aload_n hx hb d_Form_copyFrom_11 rfl (lv_at hl 0 rfl) ?_
  refine lv_iconst (v := 0) hx hb d_Form_copyFrom_12 (by decide) ?_
  obtain ⟨w11, h12, hsh⟩ := im_bd hsh
  refine im_put (v := .int (0 : Int32)) hx hb hts inC_Form tyC_Form tyC_Form_ok nmC_Form hown hK hH (ci := 2) rfl 2 (by decide) (hts _ wd_108) rfl rfl rfl rfl h12 d_Form_copyFrom_13 (fun H locs hH => ?_)
  refine lv_iconst (v := 0) hx hb d_Form_copyFrom_16 (by decide) ?_
  refine lv_istore_n (lv' := [(2, .int (0 : Int32)), (0, .ref (lo + x0)), (1, .ref (lo + x1))]) hx hb d_Form_copyFrom_17 rfl hl (by decide) rfl (fun ls hl => ?_)
  exact bk_Form_copyFrom_18 X F x0 x1 (0 : Int32) w11 hsh H locs ls hH (lv_sub hl [1, 2, 0] rfl)
theorem d_Form_isStartOf_0 : decode c_Form_isStartOf 0 = .ok (.aload_n 0, 1) := by decide +kernel
theorem d_Form_isStartOf_1 : decode c_Form_isStartOf 1 = .ok (.getfield 20, 3) := by decide +kernel
theorem d_Form_isStartOf_4 : decode c_Form_isStartOf 4 = .ok (.iload_n 2, 1) := by decide +kernel
theorem d_Form_isStartOf_5 : decode c_Form_isStartOf 5 = .ok (.if_icmp .eq (5), 3) := by decide +kernel
theorem d_Form_isStartOf_8 : decode c_Form_isStartOf 8 = .ok (.iconst 0, 1) := by decide +kernel
theorem d_Form_isStartOf_9 : decode c_Form_isStartOf 9 = .ok (.ireturn, 1) := by decide +kernel
theorem d_Form_isStartOf_10 : decode c_Form_isStartOf 10 = .ok (.iconst 0, 1) := by decide +kernel
theorem d_Form_isStartOf_11 : decode c_Form_isStartOf 11 = .ok (.istore_n 3, 1) := by decide +kernel
theorem d_Form_isStartOf_12 : decode c_Form_isStartOf 12 = .ok (.iload_n 3, 1) := by decide +kernel
theorem d_Form_isStartOf_13 : decode c_Form_isStartOf 13 = .ok (.aload_n 0, 1) := by decide +kernel
theorem d_Form_isStartOf_14 : decode c_Form_isStartOf 14 = .ok (.getfield 20, 3) := by decide +kernel
theorem d_Form_isStartOf_17 : decode c_Form_isStartOf 17 = .ok (.if_icmp .ge (25), 3) := by decide +kernel
theorem d_Form_isStartOf_20 : decode c_Form_isStartOf 20 = .ok (.aload_n 0, 1) := by decide +kernel
theorem d_Form_isStartOf_21 : decode c_Form_isStartOf 21 = .ok (.iload_n 3, 1) := by decide +kernel
theorem d_Form_isStartOf_22 : decode c_Form_isStartOf 22 = .ok (.invokevirtual 48, 3) := by decide +kernel
theorem d_Form_isStartOf_25 : decode c_Form_isStartOf 25 = .ok (.aload_n 1, 1) := by decide +kernel
theorem d_Form_isStartOf_26 : decode c_Form_isStartOf 26 = .ok (.iload_n 3, 1) := by decide +kernel
theorem d_Form_isStartOf_27 : decode c_Form_isStartOf 27 = .ok (.invokevirtual 48, 3) := by decide +kernel
theorem d_Form_isStartOf_30 : decode c_Form_isStartOf 30 = .ok (.lcmp, 1) := by decide +kernel
theorem d_Form_isStartOf_31 : decode c_Form_isStartOf 31 = .ok (.ifCond .eq (5), 3) := by decide +kernel
theorem d_Form_isStartOf_34 : decode c_Form_isStartOf 34 = .ok (.iconst 0, 1) := by decide +kernel
theorem d_Form_isStartOf_35 : decode c_Form_isStartOf 35 = .ok (.ireturn, 1) := by decide +kernel
theorem d_Form_isStartOf_36 : decode c_Form_isStartOf 36 = .ok (.iinc 3 (1), 3) := by decide +kernel
theorem d_Form_isStartOf_39 : decode c_Form_isStartOf 39 = .ok (.goto (-27), 3) := by decide +kernel
theorem d_Form_isStartOf_42 : decode c_Form_isStartOf 42 = .ok (.iconst 1, 1) := by decide +kernel
theorem d_Form_isStartOf_43 : decode c_Form_isStartOf 43 = .ok (.ireturn, 1) := by decide +kernel
def sh_Form_isStartOf_12 (F : Nat) : Nat → Nat → Nat → Int32 → im_W → Option (Int32 × im_W)
  | 0, _, _, _, _ => none
  | f + 1, x0, x1, x3, w => (im_gI w 2 x0 2).bind fun f1 => (if f1 ≤ x3 then im_rz (1 : Int32) w else (im_is w 2 x0).bind fun u3 => im_b2 (sh_Form_at F x0 x3 w) fun v9 w7 => (im_is w7 2 x1).bind fun u10 => im_b2 (sh_Form_at F x1 x3 w7) fun v16 w14 => (if (lg_cmp v9 v16) = 0 then (sh_Form_isStartOf_12 F f) x0 x1 (x3 + (1 : Int32)) w14 else im_rz (0 : Int32) w14))
set_option maxHeartbeats 4000000 in
set_option maxRecDepth 100000 in
theorem bk_Form_isStartOf_12 {F : Nat} {r : Int32 × im_W} (X : im_X D vwCl tA lo im_NW c_Form_isStartOf 4 (some .boolean) RC_Form im_T p s m args meth c) : ∀ (f : Nat) (x0 : Nat) (x1 : Nat) (x3 : Int32) (w : im_W), sh_Form_isStartOf_12 F f x0 x1 x3 w = some r → im_WW D vwCl tA lo 4 p l e (im_rm 1 21) s m args below meth c 0 0 (MQ below (im_Post D vwCl tA lo (some (.int r.1)) r.2) args s 0 0 (fun q => lo ≤ q)) 12 [(0, .ref (lo + x0)), (1, .ref (lo + x1)), (3, .int x3)] [] w := by
  obtain ⟨hx, hb, hr, hts, hown, hlk, hml, hK, hN⟩ := id X
  intro f
  induction f with
  | zero =>
    intro x0 x1 x3 w hsh
    cases hsh
  | succ f ih =>
    intro x0 x1 x3 w hsh H locs ls hH hl
    unfold sh_Form_isStartOf_12 at hsh
    refine lv_iload_n hx hb d_Form_isStartOf_12 rfl (lv_at hl 2 rfl) ?_
    refine lv_aload_n hx hb d_Form_isStartOf_13 rfl (lv_at hl 0 rfl) ?_
    obtain ⟨f1, h2, hsh⟩ := im_bd hsh
    refine im_getI hx hb hts inC_Form hown hK hH (ci := 2) rfl 2 (by decide) (hts _ wd_108) rfl h2 d_Form_isStartOf_14 ?_
    refine lv_icmp_ge (tgt := 42) hx hb d_Form_isStartOf_17 (by decide) (fun cc => ?_) (fun cc => ?_)
    · have hsh := im_it hsh cc
      refine lv_iconst (v := 1) hx hb d_Form_isStartOf_42 (by decide) ?_
      obtain ⟨rfl, hn⟩ := im_rz_s hsh
      exact im_zret hx hb hr hlk hn hH d_Form_isStartOf_43
    · have hsh := im_if hsh cc
      refine lv_aload_n hx hb d_Form_isStartOf_20 rfl (lv_at hl 0 rfl) ?_
      refine lv_iload_n hx hb d_Form_isStartOf_21 rfl (lv_at hl 2 rfl) ?_
      obtain ⟨u3, h4, hsh⟩ := im_bd hsh
      obtain ⟨g5, h6⟩ := im_is_s h4
      obtain ⟨v9, w7, h8, hsh⟩ := im_bd2 hsh
      refine im_afterL (va_runV (As := [.int x3]) (rest := []) (C := RC_Form) ⟨hx, hb, hml, hown, hts⟩ (met_Form_at h8) ⟨(callB_of 1 hts (im_good wd_437) rfl rfl rfl (hts _ wd_6) (hts _ wd_434) (by decide +kernel) ⟨Nat.le_of_ble_eq_true rfl, Nat.le_of_ble_eq_true rfl⟩), hts _ wd_435, hts _ wd_436⟩ (im_preV im_NW_ok hK hN hH (ci := 2) rfl rfl h6 _) rfl rfl hl.1 rfl (lv_room (Nat.le_of_ble_eq_true rfl)) d_Form_isStartOf_22 ⟨Nat.le_of_ble_eq_true rfl, Nat.le_of_ble_eq_true rfl⟩) hH (fun H locs hH => ?_)
      refine lv_aload_n hx hb d_Form_isStartOf_25 rfl (lv_at hl 1 rfl) ?_
      refine lv_iload_n hx hb d_Form_isStartOf_26 rfl (lv_at hl 2 rfl) ?_
      obtain ⟨u10, h11, hsh⟩ := im_bd hsh
      obtain ⟨g12, h13⟩ := im_is_s h11
      obtain ⟨v16, w14, h15, hsh⟩ := im_bd2 hsh
      refine im_afterL (va_runV (As := [.int x3]) (rest := [.long v9]) (C := RC_Form) ⟨hx, hb, hml, hown, hts⟩ (met_Form_at h15) ⟨(callB_of 1 hts (im_good wd_437) rfl rfl rfl (hts _ wd_6) (hts _ wd_434) (by decide +kernel) ⟨Nat.le_of_ble_eq_true rfl, Nat.le_of_ble_eq_true rfl⟩), hts _ wd_435, hts _ wd_436⟩ (im_preV im_NW_ok hK hN hH (ci := 2) rfl rfl h13 _) rfl rfl hl.1 rfl (lv_room (Nat.le_of_ble_eq_true rfl)) d_Form_isStartOf_27 ⟨Nat.le_of_ble_eq_true rfl, Nat.le_of_ble_eq_true rfl⟩) hH (fun H locs hH => ?_)
      refine W.lcmp hx hb d_Form_isStartOf_30 ?_
      refine lv_if_eq (tgt := 36) hx hb d_Form_isStartOf_31 (by decide) (fun cc => ?_) (fun cc => ?_)
      · have hsh := im_it hsh cc
        refine lv_iinc (v := (x3 + (1 : Int32))) (lv' := [(3, .int (x3 + (1 : Int32))), (0, .ref (lo + x0)), (1, .ref (lo + x1))]) hx hb d_Form_isStartOf_36 hl (k := 2) rfl rfl (by decide) rfl (fun ls hl => ?_)
        refine lv_goto (tgt := 12) hx hb d_Form_isStartOf_39 (by decide) ?_
        exact ih x0 x1 (x3 + (1 : Int32)) w14 hsh H locs ls hH (lv_sub hl [1, 2, 0] rfl)
      · have hsh := im_if hsh cc
        refine lv_iconst (v := 0) hx hb d_Form_isStartOf_34 (by decide) ?_
        obtain ⟨rfl, hn⟩ := im_rz_s hsh
        exact im_zret hx hb hr hlk hn hH d_Form_isStartOf_35
def sh_Form_isStartOf (F : Nat) (x0 : Nat) (x1 : Nat) (x2 : Int32) (w : im_W) : Option (Int32 × im_W) :=
  (im_gI w 2 x0 2).bind fun f1 => (if f1 = x2 then sh_Form_isStartOf_12 F F x0 x1 (0 : Int32) w else im_rz (0 : Int32) w)
set_option maxHeartbeats 4000000 in
set_option maxRecDepth 100000 in
theorem met_Form_isStartOf {F : Nat} {x0 : Nat} {x1 : Nat} {x2 : Int32} {w : im_W} {r : Int32 × im_W} (hsh : sh_Form_isStartOf F x0 x1 x2 w = some r) : Met l y_Form_isStartOf (Cond.code y_Form_isStartOf c_Form_isStartOf 4 (some .boolean) :: im_T) (im_rm 1 21) (im_Pre D vwCl tA lo im_NW [.ref (lo + x0), .ref (lo + x1), .int x2] w) (im_Post D vwCl tA lo (some (.int r.1)) r.2) 0 0 (fun q => lo ≤ q) := by
  refine im_ofW (cc := c_Form_isStartOf) (nL := 4) (ret := (some .boolean)) (by decide) (Nat.le_of_ble_eq_true rfl) ?_
  intro p e s m args below meth c X H locs ls hH hl
  obtain ⟨hx, hb, hr, hts, hown, hlk, hml, hK, hN⟩ := id X
  have hl : lv_has ls 4 [(0, .ref (lo + x0)), (1, .ref (lo + x1)), (2, .int x2)] := hl
  unfold sh_Form_isStartOf at hsh
  refine lv_aload_n hx hb d_Form_isStartOf_0 rfl (lv_at hl 0 rfl) ?_
  obtain ⟨f1, h2, hsh⟩ := im_bd hsh
  refine im_getI hx hb hts inC_Form hown hK hH (ci := 2) rfl 2 (by decide) (hts _ wd_108) rfl h2 d_Form_isStartOf_1 ?_
  refine lv_iload_n hx hb d_Form_isStartOf_4 rfl (lv_at hl 2 rfl) ?_
  refine lv_icmp_eq (tgt := 10) hx hb d_Form_isStartOf_5 (by decide) (fun cc => ?_) (fun cc => ?_)
  · have hsh := im_it hsh cc
    refine lv_iconst (v := 0) hx hb d_Form_isStartOf_10 (by decide) ?_
    refine lv_istore_n (lv' := [(3, .int (0 : Int32)), (0, .ref (lo + x0)), (1, .ref (lo + x1)), (2, .int x2)]) hx hb d_Form_isStartOf_11 rfl hl (by decide) rfl (fun ls hl => ?_)
    exact bk_Form_isStartOf_12 X F x0 x1 (0 : Int32) w hsh H locs ls hH (lv_sub hl [1, 2, 0] rfl)
  · have hsh := im_if hsh cc
    refine lv_iconst (v := 0) hx hb d_Form_isStartOf_8 (by decide) ?_
    obtain ⟨rfl, hn⟩ := im_rz_s hsh
    exact im_zret hx hb hr hlk hn hH d_Form_isStartOf_9
theorem wd_572 : (Jvm.Cond.methodLink "LanguageTags$Form" (52 : Nat) ({ cls := "LanguageTags$Subtag", name := "lengthOf", desc := "(J)I" } : Jvm.MethodName)) ∈ im_T := im_memT (i := 572) (by decide +kernel) (by decide +kernel)
theorem d_Form_truncated_0 : decode c_Form_truncated 0 = .ok (.iload_n 1, 1) := by decide +kernel
theorem d_Form_truncated_1 : decode c_Form_truncated 1 = .ok (.iconst 1, 1) := by decide +kernel
theorem d_Form_truncated_2 : decode c_Form_truncated 2 = .ok (.isub, 1) := by decide +kernel
theorem d_Form_truncated_3 : decode c_Form_truncated 3 = .ok (.istore_n 2, 1) := by decide +kernel
theorem d_Form_truncated_4 : decode c_Form_truncated 4 = .ok (.aload_n 0, 1) := by decide +kernel
theorem d_Form_truncated_5 : decode c_Form_truncated 5 = .ok (.iload_n 2, 1) := by decide +kernel
theorem d_Form_truncated_6 : decode c_Form_truncated 6 = .ok (.iconst 1, 1) := by decide +kernel
theorem d_Form_truncated_7 : decode c_Form_truncated 7 = .ok (.isub, 1) := by decide +kernel
theorem d_Form_truncated_8 : decode c_Form_truncated 8 = .ok (.invokevirtual 48, 3) := by decide +kernel
theorem d_Form_truncated_11 : decode c_Form_truncated 11 = .ok (.invokestatic 52, 3) := by decide +kernel
theorem d_Form_truncated_14 : decode c_Form_truncated 14 = .ok (.iconst 1, 1) := by decide +kernel
theorem d_Form_truncated_15 : decode c_Form_truncated 15 = .ok (.if_icmp .ne (9), 3) := by decide +kernel
theorem d_Form_truncated_18 : decode c_Form_truncated 18 = .ok (.iload_n 2, 1) := by decide +kernel
theorem d_Form_truncated_19 : decode c_Form_truncated 19 = .ok (.iconst 1, 1) := by decide +kernel
theorem d_Form_truncated_20 : decode c_Form_truncated 20 = .ok (.isub, 1) := by decide +kernel
theorem d_Form_truncated_21 : decode c_Form_truncated 21 = .ok (.goto (4), 3) := by decide +kernel
theorem d_Form_truncated_24 : decode c_Form_truncated 24 = .ok (.iload_n 2, 1) := by decide +kernel
theorem d_Form_truncated_25 : decode c_Form_truncated 25 = .ok (.ireturn, 1) := by decide +kernel
def sh_Form_truncated_25 (F : Nat) (y0 : Int32) (w : im_W) : Option (Int32 × im_W) :=
  some (y0, w)
set_option maxHeartbeats 4000000 in
set_option maxRecDepth 100000 in
theorem bk_Form_truncated_25 {F : Nat} {r : Int32 × im_W} (X : im_X D vwCl tA lo im_NW c_Form_truncated 3 (some .int) RC_Form im_T p s m args meth c) (y0 : Int32) (w : im_W) (hsh : sh_Form_truncated_25 F y0 w = some r) : im_WW D vwCl tA lo 3 p l e (im_rm 2 45) s m args below meth c 0 0 (MQ below (im_Post D vwCl tA lo (some (.int r.1)) r.2) args s 0 0 (fun q => lo ≤ q)) 25 [] [.int y0] w := by
  obtain ⟨hx, hb, hr, hts, hown, hlk, hml, hK, hN⟩ := id X
  intro H locs ls hH hl
  unfold sh_Form_truncated_25 at hsh
  obtain rfl := Option.some.inj hsh
  exact im_iret hx hb hr hlk hH d_Form_truncated_25
def sh_Form_truncated (F : Nat) (x0 : Nat) (x1 : Int32) (w : im_W) : Option (Int32 × im_W) :=
  (im_is w 2 x0).bind fun u1 => im_b2 (sh_Form_at F x0 ((x1 - (1 : Int32)) - (1 : Int32)) w) fun v7 w5 => im_b2 (sh_Subtag_lengthOf F v7 w5) fun v10 w8 => (if v10 = (1 : Int32) then sh_Form_truncated_25 F ((x1 - (1 : Int32)) - (1 : Int32)) w8 else sh_Form_truncated_25 F (x1 - (1 : Int32)) w8)
set_option maxHeartbeats 4000000 in
set_option maxRecDepth 100000 in
theorem met_Form_truncated {F : Nat} {x0 : Nat} {x1 : Int32} {w : im_W} {r : Int32 × im_W} (hsh : sh_Form_truncated F x0 x1 w = some r) : Met l y_Form_truncated (Cond.code y_Form_truncated c_Form_truncated 3 (some .int) :: im_T) (im_rm 2 45) (im_Pre D vwCl tA lo im_NW [.ref (lo + x0), .int x1] w) (im_Post D vwCl tA lo (some (.int r.1)) r.2) 0 0 (fun q => lo ≤ q) := by
  refine im_ofW (cc := c_Form_truncated) (nL := 3) (ret := (some .int)) (by decide) (Nat.le_of_ble_eq_true rfl) ?_
  intro p e s m args below meth c X H locs ls hH hl
  obtain ⟨hx, hb, hr, hts, hown, hlk, hml, hK, hN⟩ := id X
  have hl : lv_has ls 3 [(0, .ref (lo + x0)), (1, .int x1)] := hl
  unfold sh_Form_truncated at hsh
  refine lv_iload_n hx hb d_Form_truncated_0 rfl (lv_at hl 1 rfl) ?_
  refine lv_iconst (v := 1) hx hb d_Form_truncated_1 (by decide) ?_
  refine lv_isub hx hb d_Form_truncated_2 ?_
  refine lv_istore_n (lv' := [(2, .int (x1 - (1 : Int32))), (0, .ref (lo + x0)), (1, .int x1)]) hx hb d_Form_truncated_3 rfl hl (by decide) rfl (fun ls hl => ?_)
  refine lv_aload_n hx hb d_Form_truncated_4 rfl (lv_at hl 1 rfl) ?_
  refine lv_iload_n hx hb d_Form_truncated_5 rfl (lv_at hl 0 rfl) ?_
  refine lv_iconst (v := 1) hx hb d_Form_truncated_6 (by decide) ?_
  refine lv_isub hx hb d_Form_truncated_7 ?_
  obtain ⟨u1, h2, hsh⟩ := im_bd hsh
  obtain ⟨g3, h4⟩ := im_is_s h2
  obtain ⟨v7, w5, h6, hsh⟩ := im_bd2 hsh
  refine im_afterL (va_runV (As := [.int ((x1 - (1 : Int32)) - (1 : Int32))]) (rest := []) (C := RC_Form) ⟨hx, hb, hml, hown, hts⟩ (met_Form_at h6) ⟨(callB_of 1 hts (im_good wd_437) rfl rfl rfl (hts _ wd_6) (hts _ wd_434) (by decide +kernel) ⟨Nat.le_of_ble_eq_true rfl, Nat.le_of_ble_eq_true rfl⟩), hts _ wd_435, hts _ wd_436⟩ (im_preV im_NW_ok hK hN hH (ci := 2) rfl rfl h4 _) rfl rfl hl.1 rfl (lv_room (Nat.le_of_ble_eq_true rfl)) d_Form_truncated_8 ⟨Nat.le_of_ble_eq_true rfl, Nat.le_of_ble_eq_true rfl⟩) hH (fun H locs hH => ?_)
  obtain ⟨v10, w8, h9, hsh⟩ := im_bd2 hsh
  refine im_afterI (va_runS (As := [.long v7]) (rest := []) ⟨hx, hb, hml, hown, hts⟩ (met_Subtag_lengthOf h9) ⟨(callB_of 1 hts (im_good wd_283) rfl rfl rfl (hts _ wd_11) (hts _ wd_572) (by decide +kernel) ⟨Nat.le_of_ble_eq_true rfl, Nat.le_of_ble_eq_true rfl⟩), hts _ wd_282⟩ (im_pre im_NW_ok hK hN hH _) rfl rfl hl.1 rfl (lv_room (Nat.le_of_ble_eq_true rfl)) d_Form_truncated_11 ⟨Nat.le_of_ble_eq_true rfl, Nat.le_of_ble_eq_true rfl⟩) hH (fun H locs hH => ?_)
  refine lv_iconst (v := 1) hx hb d_Form_truncated_14 (by decide) ?_
  refine lv_icmp_ne (tgt := 24) hx hb d_Form_truncated_15 (by decide) (fun cc => ?_) (fun cc => ?_)
  · have hsh := im_if hsh cc
    refine lv_iload_n hx hb d_Form_truncated_24 rfl (lv_at hl 0 rfl) ?_
    exact bk_Form_truncated_25 X (x1 - (1 : Int32)) w8 hsh H locs ls hH (lv_sub hl [] rfl)
  · have hsh := im_it hsh cc
    refine lv_iload_n hx hb d_Form_truncated_18 rfl (lv_at hl 0 rfl) ?_
    refine lv_iconst (v := 1) hx hb d_Form_truncated_19 (by decide) ?_
    refine lv_isub hx hb d_Form_truncated_20 ?_
    refine lv_goto (tgt := 25) hx hb d_Form_truncated_21 (by decide) ?_
    exact bk_Form_truncated_25 X ((x1 - (1 : Int32)) - (1 : Int32)) w8 hsh H locs ls hH (lv_sub hl [] rfl)
theorem d_Form_isWithin_0 : decode c_Form_isWithin 0 = .ok (.aload_n 0, 1) := by decide +kernel
theorem d_Form_isWithin_1 : decode c_Form_isWithin 1 = .ok (.iconst 0, 1) := by decide +kernel
theorem d_Form_isWithin_2 : decode c_Form_isWithin 2 = .ok (.invokevirtual 48, 3) := by decide +kernel
theorem d_Form_isWithin_5 : decode c_Form_isWithin 5 = .ok (.aload_n 1, 1) := by decide +kernel
theorem d_Form_isWithin_6 : decode c_Form_isWithin 6 = .ok (.iconst 0, 1) := by decide +kernel
theorem d_Form_isWithin_7 : decode c_Form_isWithin 7 = .ok (.invokevirtual 48, 3) := by decide +kernel
theorem d_Form_isWithin_10 : decode c_Form_isWithin 10 = .ok (.lcmp, 1) := by decide +kernel
theorem d_Form_isWithin_11 : decode c_Form_isWithin 11 = .ok (.ifCond .eq (5), 3) := by decide +kernel
theorem d_Form_isWithin_14 : decode c_Form_isWithin 14 = .ok (.iconst 0, 1) := by decide +kernel
theorem d_Form_isWithin_15 : decode c_Form_isWithin 15 = .ok (.ireturn, 1) := by decide +kernel
theorem d_Form_isWithin_16 : decode c_Form_isWithin 16 = .ok (.iconst 1, 1) := by decide +kernel
theorem d_Form_isWithin_17 : decode c_Form_isWithin 17 = .ok (.istore_n 2, 1) := by decide +kernel
theorem d_Form_isWithin_18 : decode c_Form_isWithin 18 = .ok (.iconst 1, 1) := by decide +kernel
theorem d_Form_isWithin_19 : decode c_Form_isWithin 19 = .ok (.istore_n 3, 1) := by decide +kernel
theorem d_Form_isWithin_20 : decode c_Form_isWithin 20 = .ok (.iload_n 3, 1) := by decide +kernel
theorem d_Form_isWithin_21 : decode c_Form_isWithin 21 = .ok (.aload_n 0, 1) := by decide +kernel
theorem d_Form_isWithin_22 : decode c_Form_isWithin 22 = .ok (.getfield 20, 3) := by decide +kernel
theorem d_Form_isWithin_25 : decode c_Form_isWithin 25 = .ok (.if_icmp .ge (51), 3) := by decide +kernel
theorem d_Form_isWithin_28 : decode c_Form_isWithin 28 = .ok (.iload_n 2, 1) := by decide +kernel
theorem d_Form_isWithin_29 : decode c_Form_isWithin 29 = .ok (.aload_n 1, 1) := by decide +kernel
theorem d_Form_isWithin_30 : decode c_Form_isWithin 30 = .ok (.getfield 20, 3) := by decide +kernel
theorem d_Form_isWithin_33 : decode c_Form_isWithin 33 = .ok (.if_icmp .ge (43), 3) := by decide +kernel
theorem d_Form_isWithin_36 : decode c_Form_isWithin 36 = .ok (.aload_n 0, 1) := by decide +kernel
theorem d_Form_isWithin_37 : decode c_Form_isWithin 37 = .ok (.iload_n 3, 1) := by decide +kernel
theorem d_Form_isWithin_38 : decode c_Form_isWithin 38 = .ok (.invokevirtual 48, 3) := by decide +kernel
theorem d_Form_isWithin_41 : decode c_Form_isWithin 41 = .ok (.aload_n 1, 1) := by decide +kernel
theorem d_Form_isWithin_42 : decode c_Form_isWithin 42 = .ok (.iload_n 2, 1) := by decide +kernel
theorem d_Form_isWithin_43 : decode c_Form_isWithin 43 = .ok (.invokevirtual 48, 3) := by decide +kernel
theorem d_Form_isWithin_46 : decode c_Form_isWithin 46 = .ok (.lcmp, 1) := by decide +kernel
theorem d_Form_isWithin_47 : decode c_Form_isWithin 47 = .ok (.ifCond .ne (9), 3) := by decide +kernel
theorem d_Form_isWithin_50 : decode c_Form_isWithin 50 = .ok (.iinc 2 (1), 3) := by decide +kernel
theorem d_Form_isWithin_53 : decode c_Form_isWithin 53 = .ok (.goto (17), 3) := by decide +kernel
theorem d_Form_isWithin_56 : decode c_Form_isWithin 56 = .ok (.aload_n 0, 1) := by decide +kernel
theorem d_Form_isWithin_57 : decode c_Form_isWithin 57 = .ok (.iload_n 3, 1) := by decide +kernel
theorem d_Form_isWithin_58 : decode c_Form_isWithin 58 = .ok (.invokevirtual 48, 3) := by decide +kernel
theorem d_Form_isWithin_61 : decode c_Form_isWithin 61 = .ok (.invokestatic 52, 3) := by decide +kernel
theorem d_Form_isWithin_64 : decode c_Form_isWithin 64 = .ok (.iconst 1, 1) := by decide +kernel
theorem d_Form_isWithin_65 : decode c_Form_isWithin 65 = .ok (.if_icmp .ne (5), 3) := by decide +kernel
theorem d_Form_isWithin_68 : decode c_Form_isWithin 68 = .ok (.iconst 0, 1) := by decide +kernel
theorem d_Form_isWithin_69 : decode c_Form_isWithin 69 = .ok (.ireturn, 1) := by decide +kernel
theorem d_Form_isWithin_70 : decode c_Form_isWithin 70 = .ok (.iinc 3 (1), 3) := by decide +kernel
theorem d_Form_isWithin_73 : decode c_Form_isWithin 73 = .ok (.goto (-53), 3) := by decide +kernel
theorem d_Form_isWithin_76 : decode c_Form_isWithin 76 = .ok (.iload_n 2, 1) := by decide +kernel
theorem d_Form_isWithin_77 : decode c_Form_isWithin 77 = .ok (.aload_n 1, 1) := by decide +kernel
theorem d_Form_isWithin_78 : decode c_Form_isWithin 78 = .ok (.getfield 20, 3) := by decide +kernel
theorem d_Form_isWithin_81 : decode c_Form_isWithin 81 = .ok (.if_icmp .lt (7), 3) := by decide +kernel
theorem d_Form_isWithin_84 : decode c_Form_isWithin 84 = .ok (.iconst 1, 1) := by decide +kernel
theorem d_Form_isWithin_85 : decode c_Form_isWithin 85 = .ok (.goto (4), 3) := by decide +kernel
theorem d_Form_isWithin_88 : decode c_Form_isWithin 88 = .ok (.iconst 0, 1) := by decide +kernel
theorem d_Form_isWithin_89 : decode c_Form_isWithin 89 = .ok (.ireturn, 1) := by decide +kernel
def sh_Form_isWithin_70 (F : Nat) (k20 : Nat → Nat → Int32 → Int32 → im_W → Option (Int32 × im_W)) (x0 : Nat) (x1 : Nat) (x2 : Int32) (x3 : Int32) (w : im_W) : Option (Int32 × im_W) :=
  k20 x0 x1 x2 (x3 + (1 : Int32)) w
set_option maxHeartbeats 4000000 in
set_option maxRecDepth 100000 in
theorem bk_Form_isWithin_70 {F : Nat} {r : Int32 × im_W} (X : im_X D vwCl tA lo im_NW c_Form_isWithin 4 (some .boolean) RC_Form im_T p s m args meth c) {k20 : Nat → Nat → Int32 → Int32 → im_W → Option (Int32 × im_W)} (hk20 : ∀ (x0 : Nat) (x1 : Nat) (x2 : Int32) (x3 : Int32) (w : im_W), k20 x0 x1 x2 x3 w = some r → im_WW D vwCl tA lo 4 p l e (im_rm 2 45) s m args below meth c 0 0 (MQ below (im_Post D vwCl tA lo (some (.int r.1)) r.2) args s 0 0 (fun q => lo ≤ q)) 20 [(0, .ref (lo + x0)), (1, .ref (lo + x1)), (2, .int x2), (3, .int x3)] [] w) (x0 : Nat) (x1 : Nat) (x2 : Int32) (x3 : Int32) (w : im_W) (hsh : sh_Form_isWithin_70 F k20 x0 x1 x2 x3 w = some r) : im_WW D vwCl tA lo 4 p l e (im_rm 2 45) s m args below meth c 0 0 (MQ below (im_Post D vwCl tA lo (some (.int r.1)) r.2) args s 0 0 (fun q => lo ≤ q)) 70 [(0, .ref (lo + x0)), (1, .ref (lo + x1)), (2, .int x2), (3, .int x3)] [] w := by
  obtain ⟨hx, hb, hr, hts, hown, hlk, hml, hK, hN⟩ := id X
  intro H locs ls hH hl
  unfold sh_Form_isWithin_70 at hsh
  refine lv_iinc (v := (x3 + (1 : Int32))) (lv' := [(3, .int (x3 + (1 : Int32))), (0, .ref (lo + x0)), (1, .ref (lo + x1)), (2, .int x2)]) hx hb d_Form_isWithin_70 hl (k := 3) rfl rfl (by decide) rfl (fun ls hl => ?_)
  refine lv_goto (tgt := 20) hx hb d_Form_isWithin_73 (by decide) ?_
  exact hk20 x0 x1 x2 (x3 + (1 : Int32)) w hsh H locs ls hH (lv_sub hl [1, 2, 3, 0] rfl)
def sh_Form_isWithin_89 (F : Nat) (y0 : Int32) (w : im_W) : Option (Int32 × im_W) :=
  im_rz y0 w
set_option maxHeartbeats 4000000 in
set_option maxRecDepth 100000 in
theorem bk_Form_isWithin_89 {F : Nat} {r : Int32 × im_W} (X : im_X D vwCl tA lo im_NW c_Form_isWithin 4 (some .boolean) RC_Form im_T p s m args meth c) (y0 : Int32) (w : im_W) (hsh : sh_Form_isWithin_89 F y0 w = some r) : im_WW D vwCl tA lo 4 p l e (im_rm 2 45) s m args below meth c 0 0 (MQ below (im_Post D vwCl tA lo (some (.int r.1)) r.2) args s 0 0 (fun q => lo ≤ q)) 89 [] [.int y0] w := by
  obtain ⟨hx, hb, hr, hts, hown, hlk, hml, hK, hN⟩ := id X
  intro H locs ls hH hl
  unfold sh_Form_isWithin_89 at hsh
  obtain ⟨rfl, hn⟩ := im_rz_s hsh
  exact im_zret hx hb hr hlk hn hH d_Form_isWithin_89
def sh_Form_isWithin_76 (F : Nat) (x1 : Nat) (x2 : Int32) (w : im_W) : Option (Int32 × im_W) :=
  (im_gI w 2 x1 2).bind fun f1 => (if x2 < f1 then sh_Form_isWithin_89 F (0 : Int32) w else sh_Form_isWithin_89 F (1 : Int32) w)
set_option maxHeartbeats 4000000 in
set_option maxRecDepth 100000 in
theorem bk_Form_isWithin_76 {F : Nat} {r : Int32 × im_W} (X : im_X D vwCl tA lo im_NW c_Form_isWithin 4 (some .boolean) RC_Form im_T p s m args meth c) (x1 : Nat) (x2 : Int32) (w : im_W) (hsh : sh_Form_isWithin_76 F x1 x2 w = some r) : im_WW D vwCl tA lo 4 p l e (im_rm 2 45) s m args below meth c 0 0 (MQ below (im_Post D vwCl tA lo (some (.int r.1)) r.2) args s 0 0 (fun q => lo ≤ q)) 76 [(1, .ref (lo + x1)), (2, .int x2)] [] w := by
  obtain ⟨hx, hb, hr, hts, hown, hlk, hml, hK, hN⟩ := id X
  intro H locs ls hH hl
  unfold sh_Form_isWithin_76 at hsh
  refine lv_iload_n hx hb d_Form_isWithin_76 rfl (lv_at hl 1 rfl) ?_
  refine lv_aload_n hx hb d_Form_isWithin_77 rfl (lv_at hl 0 rfl) ?_
  obtain ⟨f1, h2, hsh⟩ := im_bd hsh
  refine im_getI hx hb hts inC_Form hown hK hH (ci := 2) rfl 2 (by decide) (hts _ wd_108) rfl h2 d_Form_isWithin_78 ?_
  refine lv_icmp_lt (tgt := 88) hx hb d_Form_isWithin_81 (by decide) (fun cc => ?_) (fun cc => ?_)
  · have hsh := im_it hsh cc
    refine lv_iconst (v := 0) hx hb d_Form_isWithin_88 (by decide) ?_
    exact bk_Form_isWithin_89 X (0 : Int32) w hsh H locs ls hH (lv_sub hl [] rfl)
  · have hsh := im_if hsh cc
    refine lv_iconst (v := 1) hx hb d_Form_isWithin_84 (by decide) ?_
    refine lv_goto (tgt := 89) hx hb d_Form_isWithin_85 (by decide) ?_
    exact bk_Form_isWithin_89 X (1 : Int32) w hsh H locs ls hH (lv_sub hl [] rfl)
def sh_Form_isWithin_20 (F : Nat) : Nat → Nat → Nat → Int32 → Int32 → im_W → Option (Int32 × im_W)
  | 0, _, _, _, _, _ => none
  | f + 1, x0, x1, x2, x3, w => (im_gI w 2 x0 2).bind fun f1 => (if f1 ≤ x3 then sh_Form_isWithin_76 F x1 x2 w else (im_gI w 2 x1 2).bind fun f3 => (if f3 ≤ x2 then sh_Form_isWithin_76 F x1 x2 w else (im_is w 2 x0).bind fun u5 => im_b2 (sh_Form_at F x0 x3 w) fun v11 w9 => (im_is w9 2 x1).bind fun u12 => im_b2 (sh_Form_at F x1 x2 w9) fun v18 w16 => (if (lg_cmp v11 v18) = 0 then sh_Form_isWithin_70 F (sh_Form_isWithin_20 F f) x0 x1 (x2 + (1 : Int32)) x3 w16 else (im_is w16 2 x0).bind fun u19 => im_b2 (sh_Form_at F x0 x3 w16) fun v25 w23 => im_b2 (sh_Subtag_lengthOf F v25 w23) fun v28 w26 => (if v28 = (1 : Int32) then im_rz (0 : Int32) w26 else sh_Form_isWithin_70 F (sh_Form_isWithin_20 F f) x0 x1 x2 x3 w26))))
set_option maxHeartbeats 4000000 in
set_option maxRecDepth 100000 in
theorem bk_Form_isWithin_20 {F : Nat} {r : Int32 × im_W} (X : im_X D vwCl tA lo im_NW c_Form_isWithin 4 (some .boolean) RC_Form im_T p s m args meth c) : ∀ (f : Nat) (x0 : Nat) (x1 : Nat) (x2 : Int32) (x3 : Int32) (w : im_W), sh_Form_isWithin_20 F f x0 x1 x2 x3 w = some r → im_WW D vwCl tA lo 4 p l e (im_rm 2 45) s m args below meth c 0 0 (MQ below (im_Post D vwCl tA lo (some (.int r.1)) r.2) args s 0 0 (fun q => lo ≤ q)) 20 [(0, .ref (lo + x0)), (1, .ref (lo + x1)), (2, .int x2), (3, .int x3)] [] w := by
  obtain ⟨hx, hb, hr, hts, hown, hlk, hml, hK, hN⟩ := id X
  intro f
  induction f with
  | zero =>
    intro x0 x1 x2 x3 w hsh
    cases hsh
  | succ f ih =>
    intro x0 x1 x2 x3 w hsh H locs ls hH hl
    unfold sh_Form_isWithin_20 at hsh
    refine lv_iload_n hx hb d_Form_isWithin_20 rfl (lv_at hl 3 rfl) ?_
    refine lv_aload_n hx hb d_Form_isWithin_21 rfl (lv_at hl 0 rfl) ?_
    obtain ⟨f1, h2, hsh⟩ := im_bd hsh
    refine im_getI hx hb hts inC_Form hown hK hH (ci := 2) rfl 2 (by decide) (hts _ wd_108) rfl h2 d_Form_isWithin_22 ?_
    refine lv_icmp_ge (tgt := 76) hx hb d_Form_isWithin_25 (by decide) (fun cc => ?_) (fun cc => ?_)
    · have hsh := im_it hsh cc
      exact bk_Form_isWithin_76 X x1 x2 w hsh H locs ls hH (lv_sub hl [1, 2] rfl)
    · have hsh := im_if hsh cc
      refine lv_iload_n hx hb d_Form_isWithin_28 rfl (lv_at hl 2 rfl) ?_
      refine lv_aload_n hx hb d_Form_isWithin_29 rfl (lv_at hl 1 rfl) ?_
      obtain ⟨f3, h4, hsh⟩ := im_bd hsh
      refine im_getI hx hb hts inC_Form hown hK hH (ci := 2) rfl 2 (by decide) (hts _ wd_108) rfl h4 d_Form_isWithin_30 ?_
      refine lv_icmp_ge (tgt := 76) hx hb d_Form_isWithin_33 (by decide) (fun cc => ?_) (fun cc => ?_)
      · have hsh := im_it hsh cc
        exact bk_Form_isWithin_76 X x1 x2 w hsh H locs ls hH (lv_sub hl [1, 2] rfl)
      · have hsh := im_if hsh cc
        refine lv_aload_n hx hb d_Form_isWithin_36 rfl (lv_at hl 0 rfl) ?_
        refine lv_iload_n hx hb d_Form_isWithin_37 rfl (lv_at hl 3 rfl) ?_
        obtain ⟨u5, h6, hsh⟩ := im_bd hsh
        obtain ⟨g7, h8⟩ := im_is_s h6
        obtain ⟨v11, w9, h10, hsh⟩ := im_bd2 hsh
        refine im_afterL (va_runV (As := [.int x3]) (rest := []) (C := RC_Form) ⟨hx, hb, hml, hown, hts⟩ (met_Form_at h10) ⟨(callB_of 1 hts (im_good wd_437) rfl rfl rfl (hts _ wd_6) (hts _ wd_434) (by decide +kernel) ⟨Nat.le_of_ble_eq_true rfl, Nat.le_of_ble_eq_true rfl⟩), hts _ wd_435, hts _ wd_436⟩ (im_preV im_NW_ok hK hN hH (ci := 2) rfl rfl h8 _) rfl rfl hl.1 rfl (lv_room (Nat.le_of_ble_eq_true rfl)) d_Form_isWithin_38 ⟨Nat.le_of_ble_eq_true rfl, Nat.le_of_ble_eq_true rfl⟩) hH (fun H locs hH => ?_)
        refine lv_aload_n hx hb d_Form_isWithin_41 rfl (lv_at hl 1 rfl) ?_
        refine lv_iload_n hx hb d_Form_isWithin_42 rfl (lv_at hl 2 rfl) ?_
        obtain ⟨u12, h13, hsh⟩ := im_bd hsh
        obtain ⟨g14, h15⟩ := im_is_s h13
        obtain ⟨v18, w16, h17, hsh⟩ := im_bd2 hsh
        refine im_afterL (va_runV (As := [.int x2]) (rest := [.long v11]) (C := RC_Form) ⟨hx, hb, hml, hown, hts⟩ (met_Form_at h17) ⟨(callB_of 1 hts (im_good wd_437) rfl rfl rfl (hts _ wd_6) (hts _ wd_434) (by decide +kernel) ⟨Nat.le_of_ble_eq_true rfl, Nat.le_of_ble_eq_true rfl⟩), hts _ wd_435, hts _ wd_436⟩ (im_preV im_NW_ok hK hN hH (ci := 2) rfl rfl h15 _) rfl rfl hl.1 rfl (lv_room (Nat.le_of_ble_eq_true rfl)) d_Form_isWithin_43 ⟨Nat.le_of_ble_eq_true rfl, Nat.le_of_ble_eq_true rfl⟩) hH (fun H locs hH => ?_)
        refine W.lcmp hx hb d_Form_isWithin_46 ?_
        refine lv_if_ne (tgt := 56) hx hb d_Form_isWithin_47 (by decide) (fun cc => ?_) (fun cc => ?_)
        · have hsh := im_if hsh cc
          refine lv_aload_n hx hb d_Form_isWithin_56 rfl (lv_at hl 0 rfl) ?_
          refine lv_iload_n hx hb d_Form_isWithin_57 rfl (lv_at hl 3 rfl) ?_
          obtain ⟨u19, h20, hsh⟩ := im_bd hsh
          obtain ⟨g21, h22⟩ := im_is_s h20
          obtain ⟨v25, w23, h24, hsh⟩ := im_bd2 hsh
          refine im_afterL (va_runV (As := [.int x3]) (rest := []) (C := RC_Form) ⟨hx, hb, hml, hown, hts⟩ (met_Form_at h24) ⟨(callB_of 1 hts (im_good wd_437) rfl rfl rfl (hts _ wd_6) (hts _ wd_434) (by decide +kernel) ⟨Nat.le_of_ble_eq_true rfl, Nat.le_of_ble_eq_true rfl⟩), hts _ wd_435, hts _ wd_436⟩ (im_preV im_NW_ok hK hN hH (ci := 2) rfl rfl h22 _) rfl rfl hl.1 rfl (lv_room (Nat.le_of_ble_eq_true rfl)) d_Form_isWithin_58 ⟨Nat.le_of_ble_eq_true rfl, Nat.le_of_ble_eq_true rfl⟩) hH (fun H locs hH => ?_)
          obtain ⟨v28, w26, h27, hsh⟩ := im_bd2 hsh
          refine im_afterI (va_runS (As := [.long v25]) (rest := []) ⟨hx, hb, hml, hown, hts⟩ (met_Subtag_lengthOf h27) ⟨(callB_of 1 hts (im_good wd_283) rfl rfl rfl (hts _ wd_11) (hts _ wd_572) (by decide +kernel) ⟨Nat.le_of_ble_eq_true rfl, Nat.le_of_ble_eq_true rfl⟩), hts _ wd_282⟩ (im_pre im_NW_ok hK hN hH _) rfl rfl hl.1 rfl (lv_room (Nat.le_of_ble_eq_true rfl)) d_Form_isWithin_61 ⟨Nat.le_of_ble_eq_true rfl, Nat.le_of_ble_eq_true rfl⟩) hH (fun H locs hH => ?_)
          refine lv_iconst (v := 1) hx hb d_Form_isWithin_64 (by decide) ?_
          refine lv_icmp_ne (tgt := 70) hx hb d_Form_isWithin_65 (by decide) (fun cc => ?_) (fun cc => ?_)
          · have hsh := im_if hsh cc
            exact bk_Form_isWithin_70 X ih x0 x1 x2 x3 w26 hsh H locs ls hH (lv_sub hl [0, 1, 2, 3] rfl)
          · have hsh := im_it hsh cc
            refine lv_iconst (v := 0) hx hb d_Form_isWithin_68 (by decide) ?_
            obtain ⟨rfl, hn⟩ := im_rz_s hsh
            exact im_zret hx hb hr hlk hn hH d_Form_isWithin_69
        · have hsh := im_it hsh cc
          refine lv_iinc (v := (x2 + (1 : Int32))) (lv' := [(2, .int (x2 + (1 : Int32))), (0, .ref (lo + x0)), (1, .ref (lo + x1)), (3, .int x3)]) hx hb d_Form_isWithin_50 hl (k := 2) rfl rfl (by decide) rfl (fun ls hl => ?_)
          refine lv_goto (tgt := 70) hx hb d_Form_isWithin_53 (by decide) ?_
          exact bk_Form_isWithin_70 X ih x0 x1 (x2 + (1 : Int32)) x3 w16 hsh H locs ls hH (lv_sub hl [1, 2, 0, 3] rfl)
def sh_Form_isWithin (F : Nat) (x0 : Nat) (x1 : Nat) (w : im_W) : Option (Int32 × im_W) :=
  (im_is w 2 x0).bind fun u1 => im_b2 (sh_Form_at F x0 (0 : Int32) w) fun v7 w5 => (im_is w5 2 x1).bind fun u8 => im_b2 (sh_Form_at F x1 (0 : Int32) w5) fun v14 w12 => (if (lg_cmp v7 v14) = 0 then sh_Form_isWithin_20 F F x0 x1 (1 : Int32) (1 : Int32) w12 else im_rz (0 : Int32) w12)
set_option maxHeartbeats 4000000 in
set_option maxRecDepth 100000 in
theorem met_Form_isWithin {F : Nat} {x0 : Nat} {x1 : Nat} {w : im_W} {r : Int32 × im_W} (hsh : sh_Form_isWithin F x0 x1 w = some r) : Met l y_Form_isWithin (Cond.code y_Form_isWithin c_Form_isWithin 4 (some .boolean) :: im_T) (im_rm 2 45) (im_Pre D vwCl tA lo im_NW [.ref (lo + x0), .ref (lo + x1)] w) (im_Post D vwCl tA lo (some (.int r.1)) r.2) 0 0 (fun q => lo ≤ q) := by
  refine im_ofW (cc := c_Form_isWithin) (nL := 4) (ret := (some .boolean)) (by decide) (Nat.le_of_ble_eq_true rfl) ?_
  intro p e s m args below meth c X H locs ls hH hl
  obtain ⟨hx, hb, hr, hts, hown, hlk, hml, hK, hN⟩ := id X
  have hl : lv_has ls 4 [(0, .ref (lo + x0)), (1, .ref (lo + x1))] := hl
  unfold sh_Form_isWithin at hsh
  refine lv_aload_n hx hb d_Form_isWithin_0 rfl (lv_at hl 0 rfl) ?_
  refine lv_iconst (v := 0) hx hb d_Form_isWithin_1 (by decide) ?_
  obtain ⟨u1, h2, hsh⟩ := im_bd hsh
  obtain ⟨g3, h4⟩ := im_is_s h2
  obtain ⟨v7, w5, h6, hsh⟩ := im_bd2 hsh
  refine im_afterL (va_runV (As := [.int (0 : Int32)]) (rest := []) (C := RC_Form) ⟨hx, hb, hml, hown, hts⟩ (met_Form_at h6) ⟨(callB_of 1 hts (im_good wd_437) rfl rfl rfl (hts _ wd_6) (hts _ wd_434) (by decide +kernel) ⟨Nat.le_of_ble_eq_true rfl, Nat.le_of_ble_eq_true rfl⟩), hts _ wd_435, hts _ wd_436⟩ (im_preV im_NW_ok hK hN hH (ci := 2) rfl rfl h4 _) rfl rfl hl.1 rfl (lv_room (Nat.le_of_ble_eq_true rfl)) d_Form_isWithin_2 ⟨Nat.le_of_ble_eq_true rfl, Nat.le_of_ble_eq_true rfl⟩) hH (fun H locs hH => ?_)
  refine lv_aload_n hx hb d_Form_isWithin_5 rfl (lv_at hl 1 rfl) ?_
  refine lv_iconst (v := 0) hx hb d_Form_isWithin_6 (by decide) ?_
  obtain ⟨u8, h9, hsh⟩ := im_bd hsh
  obtain ⟨g10, h11⟩ := im_is_s h9
  obtain ⟨v14, w12, h13, hsh⟩ := im_bd2 hsh
  refine im_afterL (va_runV (As := [.int (0 : Int32)]) (rest := [.long v7]) (C := RC_Form) ⟨hx, hb, hml, hown, hts⟩ (met_Form_at h13) ⟨(callB_of 1 hts (im_good wd_437) rfl rfl rfl (hts _ wd_6) (hts _ wd_434) (by decide +kernel) ⟨Nat.le_of_ble_eq_true rfl, Nat.le_of_ble_eq_true rfl⟩), hts _ wd_435, hts _ wd_436⟩ (im_preV im_NW_ok hK hN hH (ci := 2) rfl rfl h11 _) rfl rfl hl.1 rfl (lv_room (Nat.le_of_ble_eq_true rfl)) d_Form_isWithin_7 ⟨Nat.le_of_ble_eq_true rfl, Nat.le_of_ble_eq_true rfl⟩) hH (fun H locs hH => ?_)
  refine W.lcmp hx hb d_Form_isWithin_10 ?_
  refine lv_if_eq (tgt := 16) hx hb d_Form_isWithin_11 (by decide) (fun cc => ?_) (fun cc => ?_)
  · have hsh := im_it hsh cc
    refine lv_iconst (v := 1) hx hb d_Form_isWithin_16 (by decide) ?_
    refine lv_istore_n (lv' := [(2, .int (1 : Int32)), (0, .ref (lo + x0)), (1, .ref (lo + x1))]) hx hb d_Form_isWithin_17 rfl hl (by decide) rfl (fun ls hl => ?_)
    refine lv_iconst (v := 1) hx hb d_Form_isWithin_18 (by decide) ?_
    refine lv_istore_n (lv' := [(3, .int (1 : Int32)), (2, .int (1 : Int32)), (0, .ref (lo + x0)), (1, .ref (lo + x1))]) hx hb d_Form_isWithin_19 rfl hl (by decide) rfl (fun ls hl => ?_)
    exact bk_Form_isWithin_20 X F x0 x1 (1 : Int32) (1 : Int32) w12 hsh H locs ls hH (lv_sub hl [2, 3, 1, 0] rfl)
  · have hsh := im_if hsh cc
    refine lv_iconst (v := 0) hx hb d_Form_isWithin_14 (by decide) ?_
    obtain ⟨rfl, hn⟩ := im_rz_s hsh
    exact im_zret hx hb hr hlk hn hH d_Form_isWithin_15
theorem wd_494 : (Jvm.Cond.methodLink "LanguageTags$Form" (56 : Nat) ({ cls := "LanguageTags$Text", name := "appendSubtag", desc := "(J)V" } : Jvm.MethodName)) ∈ im_T := im_memT (i := 494) (by decide +kernel) (by decide +kernel)
theorem d_Form_writeTo_0 : decode c_Form_writeTo 0 = .ok (.iconst 0, 1) := by decide +kernel
theorem d_Form_writeTo_1 : decode c_Form_writeTo 1 = .ok (.istore_n 2, 1) := by decide +kernel
theorem d_Form_writeTo_2 : decode c_Form_writeTo 2 = .ok (.iload_n 2, 1) := by decide +kernel
theorem d_Form_writeTo_3 : decode c_Form_writeTo 3 = .ok (.aload_n 0, 1) := by decide +kernel
theorem d_Form_writeTo_4 : decode c_Form_writeTo 4 = .ok (.getfield 20, 3) := by decide +kernel
theorem d_Form_writeTo_7 : decode c_Form_writeTo 7 = .ok (.if_icmp .ge (18), 3) := by decide +kernel
theorem d_Form_writeTo_10 : decode c_Form_writeTo 10 = .ok (.aload_n 1, 1) := by decide +kernel
theorem d_Form_writeTo_11 : decode c_Form_writeTo 11 = .ok (.aload_n 0, 1) := by decide +kernel
theorem d_Form_writeTo_12 : decode c_Form_writeTo 12 = .ok (.iload_n 2, 1) := by decide +kernel
theorem d_Form_writeTo_13 : decode c_Form_writeTo 13 = .ok (.invokevirtual 48, 3) := by decide +kernel
theorem d_Form_writeTo_16 : decode c_Form_writeTo 16 = .ok (.invokevirtual 56, 3) := by decide +kernel
theorem d_Form_writeTo_19 : decode c_Form_writeTo 19 = .ok (.iinc 2 (1), 3) := by decide +kernel
theorem d_Form_writeTo_22 : decode c_Form_writeTo 22 = .ok (.goto (-20), 3) := by decide +kernel
theorem d_Form_writeTo_25 : decode c_Form_writeTo 25 = .ok (.return_, 1) := by decide +kernel
def sh_Form_writeTo_2 (F : Nat) : Nat → Nat → Nat → Int32 → im_W → Option (im_W)
  | 0, _, _, _, _ => none
  | f + 1, x0, x1, x2, w => (im_gI w 2 x0 2).bind fun f1 => (if f1 ≤ x2 then some w else (im_is w 2 x0).bind fun u3 => im_b2 (sh_Form_at F x0 x2 w) fun v9 w7 => (im_is w7 7 x1).bind fun u10 => (sh_Text_appendSubtag F x1 v9 w7).bind fun w14 => (sh_Form_writeTo_2 F f) x0 x1 (x2 + (1 : Int32)) w14)
set_option maxHeartbeats 4000000 in
set_option maxRecDepth 100000 in
theorem bk_Form_writeTo_2 {F : Nat} {r : im_W} (X : im_X D vwCl tA lo im_NW c_Form_writeTo 3 none RC_Form im_T p s m args meth c) : ∀ (f : Nat) (x0 : Nat) (x1 : Nat) (x2 : Int32) (w : im_W), sh_Form_writeTo_2 F f x0 x1 x2 w = some r → im_WW D vwCl tA lo 3 p l e (im_rm 3 69) s m args below meth c 0 0 (MQ below (im_Post D vwCl tA lo none r) args s 0 0 (fun q => lo ≤ q)) 2 [(0, .ref (lo + x0)), (1, .ref (lo + x1)), (2, .int x2)] [] w := by
  obtain ⟨hx, hb, hr, hts, hown, hlk, hml, hK, hN⟩ := id X
  intro f
  induction f with
  | zero =>
    intro x0 x1 x2 w hsh
    cases hsh
  | succ f ih =>
    intro x0 x1 x2 w hsh H locs ls hH hl
    unfold sh_Form_writeTo_2 at hsh
    refine lv_iload_n hx hb d_Form_writeTo_2 rfl (lv_at hl 2 rfl) ?_
    refine lv_aload_n hx hb d_Form_writeTo_3 rfl (lv_at hl 0 rfl) ?_
    obtain ⟨f1, h2, hsh⟩ := im_bd hsh
    refine im_getI hx hb hts inC_Form hown hK hH (ci := 2) rfl 2 (by decide) (hts _ wd_108) rfl h2 d_Form_writeTo_4 ?_
    refine lv_icmp_ge (tgt := 25) hx hb d_Form_writeTo_7 (by decide) (fun cc => ?_) (fun cc => ?_)
    · have hsh := im_it hsh cc
      obtain rfl := Option.some.inj hsh
      exact im_vret hx hb hr hlk hH d_Form_writeTo_25
    · have hsh := im_if hsh cc
      refine lv_aload_n hx hb d_Form_writeTo_10 rfl (lv_at hl 1 rfl) ?_
      refine lv_aload_n hx hb d_Form_writeTo_11 rfl (lv_at hl 0 rfl) ?_
      refine lv_iload_n hx hb d_Form_writeTo_12 rfl (lv_at hl 2 rfl) ?_
      obtain ⟨u3, h4, hsh⟩ := im_bd hsh
      obtain ⟨g5, h6⟩ := im_is_s h4
      obtain ⟨v9, w7, h8, hsh⟩ := im_bd2 hsh
      refine im_afterL (va_runV (As := [.int x2]) (rest := [.ref (lo + x1)]) (C := RC_Form) ⟨hx, hb, hml, hown, hts⟩ (met_Form_at h8) ⟨(callB_of 1 hts (im_good wd_437) rfl rfl rfl (hts _ wd_6) (hts _ wd_434) (by decide +kernel) ⟨Nat.le_of_ble_eq_true rfl, Nat.le_of_ble_eq_true rfl⟩), hts _ wd_435, hts _ wd_436⟩ (im_preV im_NW_ok hK hN hH (ci := 2) rfl rfl h6 _) rfl rfl hl.1 rfl (lv_room (Nat.le_of_ble_eq_true rfl)) d_Form_writeTo_13 ⟨Nat.le_of_ble_eq_true rfl, Nat.le_of_ble_eq_true rfl⟩) hH (fun H locs hH => ?_)
      obtain ⟨u10, h11, hsh⟩ := im_bd hsh
      obtain ⟨g12, h13⟩ := im_is_s h11
      obtain ⟨w14, h15, hsh⟩ := im_bd hsh
      refine im_afterV (va_runV (As := [.long v9]) (rest := []) (C := RC_Text) ⟨hx, hb, hml, hown, hts⟩ (met_Text_appendSubtag h15) ⟨(callB_of 1 hts (im_good wd_497) rfl rfl rfl (hts _ wd_2) (hts _ wd_494) (by decide +kernel) ⟨Nat.le_of_ble_eq_true rfl, Nat.le_of_ble_eq_true rfl⟩), hts _ wd_495, hts _ wd_496⟩ (im_preV im_NW_ok hK hN hH (ci := 7) rfl rfl h13 _) rfl rfl hl.1 rfl (lv_room (Nat.le_of_ble_eq_true rfl)) d_Form_writeTo_16 ⟨Nat.le_of_ble_eq_true rfl, Nat.le_of_ble_eq_true rfl⟩) hH (fun H locs hH => ?_)
      refine lv_iinc (v := (x2 + (1 : Int32))) (lv' := [(2, .int (x2 + (1 : Int32))), (0, .ref (lo + x0)), (1, .ref (lo + x1))]) hx hb d_Form_writeTo_19 hl (k := 2) rfl rfl (by decide) rfl (fun ls hl => ?_)
      refine lv_goto (tgt := 2) hx hb d_Form_writeTo_22 (by decide) ?_
      exact ih x0 x1 (x2 + (1 : Int32)) w14 hsh H locs ls hH (lv_sub hl [1, 2, 0] rfl)
def sh_Form_writeTo (F : Nat) (x0 : Nat) (x1 : Nat) (w : im_W) : Option (im_W) :=
  sh_Form_writeTo_2 F F x0 x1 (0 : Int32) w
set_option maxHeartbeats 4000000 in
set_option maxRecDepth 100000 in
theorem met_Form_writeTo {F : Nat} {x0 : Nat} {x1 : Nat} {w : im_W} {r : im_W} (hsh : sh_Form_writeTo F x0 x1 w = some r) : Met l y_Form_writeTo (Cond.code y_Form_writeTo c_Form_writeTo 3 none :: im_T) (im_rm 3 69) (im_Pre D vwCl tA lo im_NW [.ref (lo + x0), .ref (lo + x1)] w) (im_Post D vwCl tA lo none r) 0 0 (fun q => lo ≤ q) := by
  refine im_ofW (cc := c_Form_writeTo) (nL := 3) (ret := none) (by decide) (Nat.le_of_ble_eq_true rfl) ?_
  intro p e s m args below meth c X H locs ls hH hl
  obtain ⟨hx, hb, hr, hts, hown, hlk, hml, hK, hN⟩ := id X
  have hl : lv_has ls 3 [(0, .ref (lo + x0)), (1, .ref (lo + x1))] := hl
  unfold sh_Form_writeTo at hsh
  refine lv_iconst (v := 0) hx hb d_Form_writeTo_0 (by decide) ?_
  refine lv_istore_n (lv' := [(2, .int (0 : Int32)), (0, .ref (lo + x0)), (1, .ref (lo + x1))]) hx hb d_Form_writeTo_1 rfl hl (by decide) rfl (fun ls hl => ?_)
  exact bk_Form_writeTo_2 X F x0 x1 (0 : Int32) w hsh H locs ls hH (lv_sub hl [1, 2, 0] rfl)
theorem wd_118 : (Jvm.Cond.fieldLink "LanguageTags$Pairs" (23 : Nat) "LanguageTags$Pairs" "count" "I") ∈ im_T := im_memT (i := 118) (by decide +kernel) (by decide +kernel)
theorem d_Pairs_count_0 : decode c_Pairs_count 0 = .ok (.aload_n 0, 1) := by decide +kernel
theorem d_Pairs_count_1 : decode c_Pairs_count 1 = .ok (.getfield 23, 3) := by decide +kernel
theorem d_Pairs_count_4 : decode c_Pairs_count 4 = .ok (.ireturn, 1) := by decide +kernel
def sh_Pairs_count (F : Nat) (x0 : Nat) (w : im_W) : Option (Int32 × im_W) :=
  (im_gI w 4 x0 2).bind fun f1 => some (f1, w)
set_option maxHeartbeats 4000000 in
set_option maxRecDepth 100000 in
theorem met_Pairs_count {F : Nat} {x0 : Nat} {w : im_W} {r : Int32 × im_W} (hsh : sh_Pairs_count F x0 w = some r) : Met l y_Pairs_count (Cond.code y_Pairs_count c_Pairs_count 1 (some .int) :: im_T) (im_rm 0 0) (im_Pre D vwCl tA lo im_NW [.ref (lo + x0)] w) (im_Post D vwCl tA lo (some (.int r.1)) r.2) 0 0 (fun q => lo ≤ q) := by
  refine im_ofW (cc := c_Pairs_count) (nL := 1) (ret := (some .int)) (by decide) (Nat.le_of_ble_eq_true rfl) ?_
  intro p e s m args below meth c X H locs ls hH hl
  obtain ⟨hx, hb, hr, hts, hown, hlk, hml, hK, hN⟩ := id X
  have hl : lv_has ls 1 [(0, .ref (lo + x0))] := hl
  unfold sh_Pairs_count at hsh
  refine lv_aload_n hx hb d_Pairs_count_0 rfl (lv_at hl 0 rfl) ?_
  obtain ⟨f1, h2, hsh⟩ := im_bd hsh
  refine im_getI hx hb hts inC_Pairs hown hK hH (ci := 4) rfl 2 (by decide) (hts _ wd_118) rfl h2 d_Pairs_count_1 ?_
  obtain rfl := Option.some.inj hsh
  exact im_iret hx hb hr hlk hH d_Pairs_count_4
theorem d_Pairs_isFull_0 : decode c_Pairs_isFull 0 = .ok (.aload_n 0, 1) := by decide +kernel
theorem d_Pairs_isFull_1 : decode c_Pairs_isFull 1 = .ok (.getfield 23, 3) := by decide +kernel
theorem d_Pairs_isFull_4 : decode c_Pairs_isFull 4 = .ok (.bipush (10), 2) := by decide +kernel
theorem d_Pairs_isFull_6 : decode c_Pairs_isFull 6 = .ok (.if_icmp .lt (7), 3) := by decide +kernel
theorem d_Pairs_isFull_9 : decode c_Pairs_isFull 9 = .ok (.iconst 1, 1) := by decide +kernel
theorem d_Pairs_isFull_10 : decode c_Pairs_isFull 10 = .ok (.goto (4), 3) := by decide +kernel
theorem d_Pairs_isFull_13 : decode c_Pairs_isFull 13 = .ok (.iconst 0, 1) := by decide +kernel
theorem d_Pairs_isFull_14 : decode c_Pairs_isFull 14 = .ok (.ireturn, 1) := by decide +kernel
def sh_Pairs_isFull_14 (F : Nat) (y0 : Int32) (w : im_W) : Option (Int32 × im_W) :=
  im_rz y0 w
set_option maxHeartbeats 4000000 in
set_option maxRecDepth 100000 in
theorem bk_Pairs_isFull_14 {F : Nat} {r : Int32 × im_W} (X : im_X D vwCl tA lo im_NW c_Pairs_isFull 1 (some .boolean) RC_Pairs im_T p s m args meth c) (y0 : Int32) (w : im_W) (hsh : sh_Pairs_isFull_14 F y0 w = some r) : im_WW D vwCl tA lo 1 p l e (im_rm 0 0) s m args below meth c 0 0 (MQ below (im_Post D vwCl tA lo (some (.int r.1)) r.2) args s 0 0 (fun q => lo ≤ q)) 14 [] [.int y0] w := by
  obtain ⟨hx, hb, hr, hts, hown, hlk, hml, hK, hN⟩ := id X
  intro H locs ls hH hl
  unfold sh_Pairs_isFull_14 at hsh
  obtain ⟨rfl, hn⟩ := im_rz_s hsh
  exact im_zret hx hb hr hlk hn hH d_Pairs_isFull_14
def sh_Pairs_isFull (F : Nat) (x0 : Nat) (w : im_W) : Option (Int32 × im_W) :=
  (im_gI w 4 x0 2).bind fun f1 => (if f1 < (10 : Int32) then sh_Pairs_isFull_14 F (0 : Int32) w else sh_Pairs_isFull_14 F (1 : Int32) w)
set_option maxHeartbeats 4000000 in
set_option maxRecDepth 100000 in
theorem met_Pairs_isFull {F : Nat} {x0 : Nat} {w : im_W} {r : Int32 × im_W} (hsh : sh_Pairs_isFull F x0 w = some r) : Met l y_Pairs_isFull (Cond.code y_Pairs_isFull c_Pairs_isFull 1 (some .boolean) :: im_T) (im_rm 0 0) (im_Pre D vwCl tA lo im_NW [.ref (lo + x0)] w) (im_Post D vwCl tA lo (some (.int r.1)) r.2) 0 0 (fun q => lo ≤ q) := by
  refine im_ofW (cc := c_Pairs_isFull) (nL := 1) (ret := (some .boolean)) (by decide) (Nat.le_of_ble_eq_true rfl) ?_
  intro p e s m args below meth c X H locs ls hH hl
  obtain ⟨hx, hb, hr, hts, hown, hlk, hml, hK, hN⟩ := id X
  have hl : lv_has ls 1 [(0, .ref (lo + x0))] := hl
  unfold sh_Pairs_isFull at hsh
  refine lv_aload_n hx hb d_Pairs_isFull_0 rfl (lv_at hl 0 rfl) ?_
  obtain ⟨f1, h2, hsh⟩ := im_bd hsh
  refine im_getI hx hb hts inC_Pairs hown hK hH (ci := 4) rfl 2 (by decide) (hts _ wd_118) rfl h2 d_Pairs_isFull_1 ?_
  refine lv_bipush (v := 10) hx hb d_Pairs_isFull_4 (by decide) ?_
  refine lv_icmp_lt (tgt := 13) hx hb d_Pairs_isFull_6 (by decide) (fun cc => ?_) (fun cc => ?_)
  · have hsh := im_it hsh cc
    refine lv_iconst (v := 0) hx hb d_Pairs_isFull_13 (by decide) ?_
    exact bk_Pairs_isFull_14 X (0 : Int32) w hsh H locs ls hH (lv_sub hl [] rfl)
  · have hsh := im_if hsh cc
    refine lv_iconst (v := 1) hx hb d_Pairs_isFull_9 (by decide) ?_
    refine lv_goto (tgt := 14) hx hb d_Pairs_isFull_10 (by decide) ?_
    exact bk_Pairs_isFull_14 X (1 : Int32) w hsh H locs ls hH (lv_sub hl [] rfl)
theorem wd_5 : (Jvm.Cond.initialized "LanguageTags$Pairs") ∈ im_T := im_memT (i := 5) (by decide +kernel) (by decide +kernel)
theorem wd_116 : (Jvm.Cond.fieldLink "LanguageTags$Pairs" (11 : Nat) "LanguageTags$Pairs" "firsts" "[LLanguageTags$Form;") ∈ im_T := im_memT (i := 116) (by decide +kernel) (by decide +kernel)
theorem wd_117 : (Jvm.Cond.fieldLink "LanguageTags$Pairs" (17 : Nat) "LanguageTags$Pairs" "seconds" "[LLanguageTags$Form;") ∈ im_T := im_memT (i := 117) (by decide +kernel) (by decide +kernel)
theorem wd_439 : (Jvm.Cond.instanceMethod ({ cls := "LanguageTags$Form", name := "copyFrom", desc := "(LLanguageTags$Form;)V" } : Jvm.MethodName)) ∈ im_T := im_memT (i := 439) (by decide +kernel) (by decide +kernel)
theorem wd_440 : (Jvm.Cond.selects "LanguageTags$Form" ({ cls := "LanguageTags$Form", name := "copyFrom", desc := "(LLanguageTags$Form;)V" } : Jvm.MethodName) ({ cls := "LanguageTags$Form", name := "copyFrom", desc := "(LLanguageTags$Form;)V" } : Jvm.MethodName)) ∈ im_T := im_memT (i := 440) (by decide +kernel) (by decide +kernel)
theorem wd_441 : (Jvm.Cond.code ({ cls := "LanguageTags$Form", name := "copyFrom", desc := "(LLanguageTags$Form;)V" } : Jvm.MethodName) prog_4_method_7_code (3 : Nat) (Option.none : Option Jvm.ClassFile.FieldType)) ∈ im_T := im_memT (i := 441) (by decide +kernel) (by decide +kernel)
theorem wd_468 : (Jvm.Cond.instanceMethod ({ cls := "LanguageTags$Pairs", name := "isFull", desc := "()Z" } : Jvm.MethodName)) ∈ im_T := im_memT (i := 468) (by decide +kernel) (by decide +kernel)
theorem wd_469 : (Jvm.Cond.selects "LanguageTags$Pairs" ({ cls := "LanguageTags$Pairs", name := "isFull", desc := "()Z" } : Jvm.MethodName) ({ cls := "LanguageTags$Pairs", name := "isFull", desc := "()Z" } : Jvm.MethodName)) ∈ im_T := im_memT (i := 469) (by decide +kernel) (by decide +kernel)
theorem wd_470 : (Jvm.Cond.code ({ cls := "LanguageTags$Pairs", name := "isFull", desc := "()Z" } : Jvm.MethodName) prog_6_method_3_code (1 : Nat) (Option.some Jvm.ClassFile.FieldType.boolean)) ∈ im_T := im_memT (i := 470) (by decide +kernel) (by decide +kernel)
theorem wd_480 : (Jvm.Cond.methodLink "LanguageTags$Pairs" (27 : Nat) ({ cls := "LanguageTags$Pairs", name := "isFull", desc := "()Z" } : Jvm.MethodName)) ∈ im_T := im_memT (i := 480) (by decide +kernel) (by decide +kernel)
theorem wd_481 : (Jvm.Cond.methodLink "LanguageTags$Pairs" (31 : Nat) ({ cls := "LanguageTags$Form", name := "copyFrom", desc := "(LLanguageTags$Form;)V" } : Jvm.MethodName)) ∈ im_T := im_memT (i := 481) (by decide +kernel) (by decide +kernel)
theorem d_Pairs_append_0 : decode c_Pairs_append 0 = .ok (.aload_n 0, 1) := by decide +kernel
theorem d_Pairs_append_1 : decode c_Pairs_append 1 = .ok (.invokevirtual 27, 3) := by decide +kernel
theorem d_Pairs_append_4 : decode c_Pairs_append 4 = .ok (.ifCond .ne (39), 3) := by decide +kernel
theorem d_Pairs_append_7 : decode c_Pairs_append 7 = .ok (.aload_n 0, 1) := by decide +kernel
theorem d_Pairs_append_8 : decode c_Pairs_append 8 = .ok (.getfield 11, 3) := by decide +kernel
theorem d_Pairs_append_11 : decode c_Pairs_append 11 = .ok (.aload_n 0, 1) := by decide +kernel
theorem d_Pairs_append_12 : decode c_Pairs_append 12 = .ok (.getfield 23, 3) := by decide +kernel
theorem d_Pairs_append_15 : decode c_Pairs_append 15 = .ok (.aaload, 1) := by decide +kernel
theorem d_Pairs_append_16 : decode c_Pairs_append 16 = .ok (.aload_n 1, 1) := by decide +kernel
theorem d_Pairs_append_17 : decode c_Pairs_append 17 = .ok (.invokevirtual 31, 3) := by decide +kernel
theorem d_Pairs_append_20 : decode c_Pairs_append 20 = .ok (.aload_n 0, 1) := by decide +kernel
theorem d_Pairs_append_21 : decode c_Pairs_append 21 = .ok (.getfield 17, 3) := by decide +kernel
theorem d_Pairs_append_24 : decode c_Pairs_append 24 = .ok (.aload_n 0, 1) := by decide +kernel
theorem d_Pairs_append_25 : decode c_Pairs_append 25 = .ok (.getfield 23, 3) := by decide +kernel
theorem d_Pairs_append_28 : decode c_Pairs_append 28 = .ok (.aaload, 1) := by decide +kernel
theorem d_Pairs_append_29 : decode c_Pairs_append 29 = .ok (.aload_n 2, 1) := by decide +kernel
theorem d_Pairs_append_30 : decode c_Pairs_append 30 = .ok (.invokevirtual 31, 3) := by decide +kernel
theorem d_Pairs_append_33 : decode c_Pairs_append 33 = .ok (.aload_n 0, 1) := by decide +kernel
theorem d_Pairs_append_34 : decode c_Pairs_append 34 = .ok (.dup, 1) := by decide +kernel
theorem d_Pairs_append_35 : decode c_Pairs_append 35 = .ok (.getfield 23, 3) := by decide +kernel
theorem d_Pairs_append_38 : decode c_Pairs_append 38 = .ok (.iconst 1, 1) := by decide +kernel
theorem d_Pairs_append_39 : decode c_Pairs_append 39 = .ok (.iadd, 1) := by decide +kernel
theorem d_Pairs_append_40 : decode c_Pairs_append 40 = .ok (.putfield 23, 3) := by decide +kernel
theorem d_Pairs_append_43 : decode c_Pairs_append 43 = .ok (.return_, 1) := by decide +kernel
def sh_Pairs_append_43 (F : Nat)  (w : im_W) : Option (im_W) :=
  some w
set_option maxHeartbeats 4000000 in
set_option maxRecDepth 100000 in
theorem bk_Pairs_append_43 {F : Nat} {r : im_W} (X : im_X D vwCl tA lo im_NW c_Pairs_append 3 none RC_Pairs im_T p s m args meth c)  (w : im_W) (hsh : sh_Pairs_append_43 F w = some r) : im_WW D vwCl tA lo 3 p l e (im_rm 3 69) s m args below meth c 0 0 (MQ below (im_Post D vwCl tA lo none r) args s 0 0 (fun q => lo ≤ q)) 43 [] [] w := by
  obtain ⟨hx, hb, hr, hts, hown, hlk, hml, hK, hN⟩ := id X
  intro H locs ls hH hl
  unfold sh_Pairs_append_43 at hsh
  obtain rfl := Option.some.inj hsh
  exact im_vret hx hb hr hlk hH d_Pairs_append_43
def sh_Pairs_append (F : Nat) (x0 : Nat) (x1 : Nat) (x2 : Nat) (w : im_W) : Option (im_W) :=
  (im_is w 4 x0).bind fun u1 => im_b2 (sh_Pairs_isFull F x0 w) fun v7 w5 => (if v7 = 0 then (im_gR w5 4 x0 0).bind fun f8 => (im_gI w5 4 x0 2).bind fun f10 => (im_lR w5 5 f8 f10).bind fun e12 => (im_is w5 2 e12).bind fun u14 => (sh_Form_copyFrom F e12 x1 w5).bind fun w18 => (im_gR w18 4 x0 1).bind fun f20 => (im_gI w18 4 x0 2).bind fun f22 => (im_lR w18 5 f20 f22).bind fun e24 => (im_is w18 2 e24).bind fun u26 => (sh_Form_copyFrom F e24 x2 w18).bind fun w30 => (im_gI w30 4 x0 2).bind fun f32 => (im_pV w30 4 x0 2 (.int (f32 + (1 : Int32)))).bind fun w34 => sh_Pairs_append_43 F w34 else sh_Pairs_append_43 F w5)
set_option maxHeartbeats 4000000 in
set_option maxRecDepth 100000 in
theorem met_Pairs_append {F : Nat} {x0 : Nat} {x1 : Nat} {x2 : Nat} {w : im_W} {r : im_W} (hsh : sh_Pairs_append F x0 x1 x2 w = some r) : Met l y_Pairs_append (Cond.code y_Pairs_append c_Pairs_append 3 none :: im_T) (im_rm 3 69) (im_Pre D vwCl tA lo im_NW [.ref (lo + x0), .ref (lo + x1), .ref (lo + x2)] w) (im_Post D vwCl tA lo none r) 0 0 (fun q => lo ≤ q) := by
  refine im_ofW (cc := c_Pairs_append) (nL := 3) (ret := none) (by decide) (Nat.le_of_ble_eq_true rfl) ?_
  intro p e s m args below meth c X H locs ls hH hl
  obtain ⟨hx, hb, hr, hts, hown, hlk, hml, hK, hN⟩ := id X
  have hl : lv_has ls 3 [(0, .ref (lo + x0)), (1, .ref (lo + x1)), (2, .ref (lo + x2))] := hl
  unfold sh_Pairs_append at hsh
  refine lv_aload_n hx hb d_Pairs_append_0 rfl (lv_at hl 0 rfl) ?_
  obtain ⟨u1, h2, hsh⟩ := im_bd hsh
  obtain ⟨g3, h4⟩ := im_is_s h2
  obtain ⟨v7, w5, h6, hsh⟩ := im_bd2 hsh
  refine im_afterI (va_runV (As := []) (rest := []) (C := RC_Pairs) ⟨hx, hb, hml, hown, hts⟩ (met_Pairs_isFull h6) ⟨(callB_of 0 hts (im_good wd_470) rfl rfl rfl (hts _ wd_5) (hts _ wd_480) (by decide +kernel) ⟨Nat.le_of_ble_eq_true rfl, Nat.le_of_ble_eq_true rfl⟩), hts _ wd_468, hts _ wd_469⟩ (im_preV im_NW_ok hK hN hH (ci := 4) rfl rfl h4 _) rfl rfl hl.1 rfl (lv_room (Nat.le_of_ble_eq_true rfl)) d_Pairs_append_1 ⟨Nat.le_of_ble_eq_true rfl, Nat.le_of_ble_eq_true rfl⟩) hH (fun H locs hH => ?_)
  refine lv_if_ne (tgt := 43) hx hb d_Pairs_append_4 (by decide) (fun cc => ?_) (fun cc => ?_)
  · have hsh := im_if hsh cc
    exact bk_Pairs_append_43 X w5 hsh H locs ls hH (lv_sub hl [] rfl)
  · have hsh := im_it hsh cc
    refine lv_aload_n hx hb d_Pairs_append_7 rfl (lv_at hl 0 rfl) ?_
    obtain ⟨f8, h9, hsh⟩ := im_bd hsh
    refine im_getR hx hb hts inC_Pairs hown hK hH (ci := 4) rfl 0 (by decide) (hts _ wd_116) rfl h9 d_Pairs_append_8 ?_
    refine lv_aload_n hx hb d_Pairs_append_11 rfl (lv_at hl 0 rfl) ?_
    obtain ⟨f10, h11, hsh⟩ := im_bd hsh
    refine im_getI hx hb hts inC_Pairs hown hK hH (ci := 4) rfl 2 (by decide) (hts _ wd_118) rfl h11 d_Pairs_append_12 ?_
    obtain ⟨e12, h13, hsh⟩ := im_bd hsh
    refine im_aald5 hx hb hK hH h13 d_Pairs_append_15 ?_
    refine lv_aload_n hx hb d_Pairs_append_16 rfl (lv_at hl 1 rfl) ?_
    obtain ⟨u14, h15, hsh⟩ := im_bd hsh
    obtain ⟨g16, h17⟩ := im_is_s h15
    obtain ⟨w18, h19, hsh⟩ := im_bd hsh
    refine im_afterV (va_runV (As := [.ref (lo + x1)]) (rest := []) (C := RC_Form) ⟨hx, hb, hml, hown, hts⟩ (met_Form_copyFrom h19) ⟨(callB_of 1 hts (im_good wd_441) rfl rfl rfl (hts _ wd_6) (hts _ wd_481) (by decide +kernel) ⟨Nat.le_of_ble_eq_true rfl, Nat.le_of_ble_eq_true rfl⟩), hts _ wd_439, hts _ wd_440⟩ (im_preV im_NW_ok hK hN hH (ci := 2) rfl rfl h17 _) rfl rfl hl.1 rfl (lv_room (Nat.le_of_ble_eq_true rfl)) d_Pairs_append_17 ⟨Nat.le_of_ble_eq_true rfl, Nat.le_of_ble_eq_true rfl⟩) hH (fun H locs hH => ?_)
    refine lv_aload_n hx hb d_Pairs_append_20 rfl (lv_at hl 0 rfl) ?_
    obtain ⟨f20, h21, hsh⟩ := im_bd hsh
    refine im_getR hx hb hts inC_Pairs hown hK hH (ci := 4) rfl 1 (by decide) (hts _ wd_117) rfl h21 d_Pairs_append_21 ?_
    refine lv_aload_n hx hb d_Pairs_append_24 rfl (lv_at hl 0 rfl) ?_
    obtain ⟨f22, h23, hsh⟩ := im_bd hsh
    refine im_getI hx hb hts inC_Pairs hown hK hH (ci := 4) rfl 2 (by decide) (hts _ wd_118) rfl h23 d_Pairs_append_25 ?_
    obtain ⟨e24, h25, hsh⟩ := im_bd hsh
    refine im_aald5 hx hb hK hH h25 d_Pairs_append_28 ?_
    refine lv_aload_n hx hb d_Pairs_append_29 rfl (lv_at hl 2 rfl) ?_
    obtain ⟨u26, h27, hsh⟩ := im_bd hsh
    obtain ⟨g28, h29⟩ := im_is_s h27
    obtain ⟨w30, h31, hsh⟩ := im_bd hsh
    refine im_afterV (va_runV (As := [.ref (lo + x2)]) (rest := []) (C := RC_Form) ⟨hx, hb, hml, hown, hts⟩ (met_Form_copyFrom h31) ⟨(callB_of 1 hts (im_good wd_441) rfl rfl rfl (hts _ wd_6) (hts _ wd_481) (by decide +kernel) ⟨Nat.le_of_ble_eq_true rfl, Nat.le_of_ble_eq_true rfl⟩), hts _ wd_439, hts _ wd_440⟩ (im_preV im_NW_ok hK hN hH (ci := 2) rfl rfl h29 _) rfl rfl hl.1 rfl (lv_room (Nat.le_of_ble_eq_true rfl)) d_Pairs_append_30 ⟨Nat.le_of_ble_eq_true rfl, Nat.le_of_ble_eq_true rfl⟩) hH (fun H locs hH => ?_)
    refine lv_aload_n hx hb d_Pairs_append_33 rfl (lv_at hl 0 rfl) ?_
    refine lv_dup hx hb d_Pairs_append_34 rfl ?_
    obtain ⟨f32, h33, hsh⟩ := im_bd hsh
    refine im_getI hx hb hts inC_Pairs hown hK hH (ci := 4) rfl 2 (by decide) (hts _ wd_118) rfl h33 d_Pairs_append_35 ?_
    refine lv_iconst (v := 1) hx hb d_Pairs_append_38 (by decide) ?_
    refine lv_iadd hx hb d_Pairs_append_39 ?_
    obtain ⟨w34, h35, hsh⟩ := im_bd hsh
    refine im_put (v := .int (f32 + (1 : Int32))) hx hb hts inC_Pairs tyC_Pairs tyC_Pairs_ok nmC_Pairs hown hK hH (ci := 4) rfl 2 (by decide) (hts _ wd_118) rfl rfl rfl rfl h35 d_Pairs_append_40 (fun H locs hH => ?_)
    exact bk_Pairs_append_43 X w34 hsh H locs ls hH (lv_sub hl [] rfl)
theorem wd_431 : (Jvm.Cond.instanceMethod ({ cls := "LanguageTags$Form", name := "isStartOf", desc := "(LLanguageTags$Form;I)Z" } : Jvm.MethodName)) ∈ im_T := im_memT (i := 431) (by decide +kernel) (by decide +kernel)
theorem wd_432 : (Jvm.Cond.selects "LanguageTags$Form" ({ cls := "LanguageTags$Form", name := "isStartOf", desc := "(LLanguageTags$Form;I)Z" } : Jvm.MethodName) ({ cls := "LanguageTags$Form", name := "isStartOf", desc := "(LLanguageTags$Form;I)Z" } : Jvm.MethodName)) ∈ im_T := im_memT (i := 432) (by decide +kernel) (by decide +kernel)
theorem wd_433 : (Jvm.Cond.code ({ cls := "LanguageTags$Form", name := "isStartOf", desc := "(LLanguageTags$Form;I)Z" } : Jvm.MethodName) prog_4_method_8_code (4 : Nat) (Option.some Jvm.ClassFile.FieldType.boolean)) ∈ im_T := im_memT (i := 433) (by decide +kernel) (by decide +kernel)
theorem wd_475 : (Jvm.Cond.methodLink "LanguageTags$Pairs" (35 : Nat) ({ cls := "LanguageTags$Form", name := "isStartOf", desc := "(LLanguageTags$Form;I)Z" } : Jvm.MethodName)) ∈ im_T := im_memT (i := 475) (by decide +kernel) (by decide +kernel)
theorem d_Pairs_formBehind_0 : decode c_Pairs_formBehind 0 = .ok (.iconst 0, 1) := by decide +kernel
theorem d_Pairs_formBehind_1 : decode c_Pairs_formBehind 1 = .ok (.istore_n 3, 1) := by decide +kernel
theorem d_Pairs_formBehind_2 : decode c_Pairs_formBehind 2 = .ok (.iload_n 3, 1) := by decide +kernel
theorem d_Pairs_formBehind_3 : decode c_Pairs_formBehind 3 = .ok (.aload_n 0, 1) := by decide +kernel
theorem d_Pairs_formBehind_4 : decode c_Pairs_formBehind 4 = .ok (.getfield 23, 3) := by decide +kernel
theorem d_Pairs_formBehind_7 : decode c_Pairs_formBehind 7 = .ok (.if_icmp .ge (30), 3) := by decide +kernel
theorem d_Pairs_formBehind_10 : decode c_Pairs_formBehind 10 = .ok (.aload_n 0, 1) := by decide +kernel
theorem d_Pairs_formBehind_11 : decode c_Pairs_formBehind 11 = .ok (.getfield 11, 3) := by decide +kernel
theorem d_Pairs_formBehind_14 : decode c_Pairs_formBehind 14 = .ok (.iload_n 3, 1) := by decide +kernel
theorem d_Pairs_formBehind_15 : decode c_Pairs_formBehind 15 = .ok (.aaload, 1) := by decide +kernel
theorem d_Pairs_formBehind_16 : decode c_Pairs_formBehind 16 = .ok (.aload_n 1, 1) := by decide +kernel
theorem d_Pairs_formBehind_17 : decode c_Pairs_formBehind 17 = .ok (.iload_n 2, 1) := by decide +kernel
theorem d_Pairs_formBehind_18 : decode c_Pairs_formBehind 18 = .ok (.invokevirtual 35, 3) := by decide +kernel
theorem d_Pairs_formBehind_21 : decode c_Pairs_formBehind 21 = .ok (.ifCond .eq (10), 3) := by decide +kernel
theorem d_Pairs_formBehind_24 : decode c_Pairs_formBehind 24 = .ok (.aload_n 0, 1) := by decide +kernel
theorem d_Pairs_formBehind_25 : decode c_Pairs_formBehind 25 = .ok (.getfield 17, 3) := by decide +kernel
theorem d_Pairs_formBehind_28 : decode c_Pairs_formBehind 28 = .ok (.iload_n 3, 1) := by decide +kernel
theorem d_Pairs_formBehind_29 : decode c_Pairs_formBehind 29 = .ok (.aaload, 1) := by decide +kernel
theorem d_Pairs_formBehind_30 : decode c_Pairs_formBehind 30 = .ok (.areturn, 1) := by decide +kernel
theorem d_Pairs_formBehind_31 : decode c_Pairs_formBehind 31 = .ok (.iinc 3 (1), 3) := by decide +kernel
theorem d_Pairs_formBehind_34 : decode c_Pairs_formBehind 34 = .ok (.goto (-32), 3) := by decide +kernel
theorem d_Pairs_formBehind_37 : decode c_Pairs_formBehind 37 = .ok (.aconst_null, 1) := by decide +kernel
theorem d_Pairs_formBehind_38 : decode c_Pairs_formBehind 38 = .ok (.areturn, 1) := by decide +kernel
def sh_Pairs_formBehind_2 (F : Nat) : Nat → Nat → Nat → Int32 → Int32 → im_W → Option (Option Nat × im_W)
  | 0, _, _, _, _, _ => none
  | f + 1, x0, x1, x2, x3, w => (im_gI w 4 x0 2).bind fun f1 => (if f1 ≤ x3 then some ((none : Option Nat), w) else (im_gR w 4 x0 0).bind fun f3 => (im_lR w 5 f3 x3).bind fun e5 => (im_is w 2 e5).bind fun u7 => im_b2 (sh_Form_isStartOf F e5 x1 x2 w) fun v13 w11 => (if v13 = 0 then (sh_Pairs_formBehind_2 F f) x0 x1 x2 (x3 + (1 : Int32)) w11 else (im_gR w11 4 x0 1).bind fun f14 => (im_lR w11 5 f14 x3).bind fun e16 => some ((some e16), w11)))
set_option maxHeartbeats 4000000 in
set_option maxRecDepth 100000 in
theorem bk_Pairs_formBehind_2 {F : Nat} {r : Option Nat × im_W} (X : im_X D vwCl tA lo im_NW c_Pairs_formBehind 4 (some (.object "LanguageTags$Form")) RC_Pairs im_T p s m args meth c) : ∀ (f : Nat) (x0 : Nat) (x1 : Nat) (x2 : Int32) (x3 : Int32) (w : im_W), sh_Pairs_formBehind_2 F f x0 x1 x2 x3 w = some r → im_WW D vwCl tA lo 4 p l e (im_rm 2 44) s m args below meth c 0 0 (MQ below (im_Post D vwCl tA lo (some (im_rf lo r.1)) r.2) args s 0 0 (fun q => lo ≤ q)) 2 [(0, .ref (lo + x0)), (1, .ref (lo + x1)), (2, .int x2), (3, .int x3)] [] w := by
  obtain ⟨hx, hb, hr, hts, hown, hlk, hml, hK, hN⟩ := id X
  intro f
  induction f with
  | zero =>
    intro x0 x1 x2 x3 w hsh
    cases hsh
  | succ f ih =>
    intro x0 x1 x2 x3 w hsh H locs ls hH hl
    unfold sh_Pairs_formBehind_2 at hsh
    refine lv_iload_n hx hb d_Pairs_formBehind_2 rfl (lv_at hl 3 rfl) ?_
    refine lv_aload_n hx hb d_Pairs_formBehind_3 rfl (lv_at hl 0 rfl) ?_
    obtain ⟨f1, h2, hsh⟩ := im_bd hsh
    refine im_getI hx hb hts inC_Pairs hown hK hH (ci := 4) rfl 2 (by decide) (hts _ wd_118) rfl h2 d_Pairs_formBehind_4 ?_
    refine lv_icmp_ge (tgt := 37) hx hb d_Pairs_formBehind_7 (by decide) (fun cc => ?_) (fun cc => ?_)
    · have hsh := im_it hsh cc
      refine im_null (lo := lo) hx hb d_Pairs_formBehind_37 ?_
      obtain rfl := Option.some.inj hsh
      exact im_aret (r := none) hx hb hr hlk hH d_Pairs_formBehind_38
    · have hsh := im_if hsh cc
      refine lv_aload_n hx hb d_Pairs_formBehind_10 rfl (lv_at hl 0 rfl) ?_
      obtain ⟨f3, h4, hsh⟩ := im_bd hsh
      refine im_getR hx hb hts inC_Pairs hown hK hH (ci := 4) rfl 0 (by decide) (hts _ wd_116) rfl h4 d_Pairs_formBehind_11 ?_
      refine lv_iload_n hx hb d_Pairs_formBehind_14 rfl (lv_at hl 3 rfl) ?_
      obtain ⟨e5, h6, hsh⟩ := im_bd hsh
      refine im_aald5 hx hb hK hH h6 d_Pairs_formBehind_15 ?_
      refine lv_aload_n hx hb d_Pairs_formBehind_16 rfl (lv_at hl 1 rfl) ?_
      refine lv_iload_n hx hb d_Pairs_formBehind_17 rfl (lv_at hl 2 rfl) ?_
      obtain ⟨u7, h8, hsh⟩ := im_bd hsh
      obtain ⟨g9, h10⟩ := im_is_s h8
      obtain ⟨v13, w11, h12, hsh⟩ := im_bd2 hsh
      refine im_afterI (va_runV (As := [.ref (lo + x1), .int x2]) (rest := []) (C := RC_Form) ⟨hx, hb, hml, hown, hts⟩ (met_Form_isStartOf h12) ⟨(callB_of 2 hts (im_good wd_433) rfl rfl rfl (hts _ wd_6) (hts _ wd_475) (by decide +kernel) ⟨Nat.le_of_ble_eq_true rfl, Nat.le_of_ble_eq_true rfl⟩), hts _ wd_431, hts _ wd_432⟩ (im_preV im_NW_ok hK hN hH (ci := 2) rfl rfl h10 _) rfl rfl hl.1 rfl (lv_room (Nat.le_of_ble_eq_true rfl)) d_Pairs_formBehind_18 ⟨Nat.le_of_ble_eq_true rfl, Nat.le_of_ble_eq_true rfl⟩) hH (fun H locs hH => ?_)
      refine lv_if_eq (tgt := 31) hx hb d_Pairs_formBehind_21 (by decide) (fun cc => ?_) (fun cc => ?_)
      · have hsh := im_it hsh cc
        refine lv_iinc (v := (x3 + (1 : Int32))) (lv' := [(3, .int (x3 + (1 : Int32))), (0, .ref (lo + x0)), (1, .ref (lo + x1)), (2, .int x2)]) hx hb d_Pairs_formBehind_31 hl (k := 3) rfl rfl (by decide) rfl (fun ls hl => ?_)
        refine lv_goto (tgt := 2) hx hb d_Pairs_formBehind_34 (by decide) ?_
        exact ih x0 x1 x2 (x3 + (1 : Int32)) w11 hsh H locs ls hH (lv_sub hl [1, 2, 3, 0] rfl)
      · have hsh := im_if hsh cc
        refine lv_aload_n hx hb d_Pairs_formBehind_24 rfl (lv_at hl 0 rfl) ?_
        obtain ⟨f14, h15, hsh⟩ := im_bd hsh
        refine im_getR hx hb hts inC_Pairs hown hK hH (ci := 4) rfl 1 (by decide) (hts _ wd_117) rfl h15 d_Pairs_formBehind_25 ?_
        refine lv_iload_n hx hb d_Pairs_formBehind_28 rfl (lv_at hl 3 rfl) ?_
        obtain ⟨e16, h17, hsh⟩ := im_bd hsh
        refine im_aald5 hx hb hK hH h17 d_Pairs_formBehind_29 ?_
        obtain rfl := Option.some.inj hsh
        exact im_aret (r := (some e16)) hx hb hr hlk hH d_Pairs_formBehind_30
def sh_Pairs_formBehind (F : Nat) (x0 : Nat) (x1 : Nat) (x2 : Int32) (w : im_W) : Option (Option Nat × im_W) :=
  sh_Pairs_formBehind_2 F F x0 x1 x2 (0 : Int32) w
set_option maxHeartbeats 4000000 in
set_option maxRecDepth 100000 in
theorem met_Pairs_formBehind {F : Nat} {x0 : Nat} {x1 : Nat} {x2 : Int32} {w : im_W} {r : Option Nat × im_W} (hsh : sh_Pairs_formBehind F x0 x1 x2 w = some r) : Met l y_Pairs_formBehind (Cond.code y_Pairs_formBehind c_Pairs_formBehind 4 (some (.object "LanguageTags$Form")) :: im_T) (im_rm 2 44) (im_Pre D vwCl tA lo im_NW [.ref (lo + x0), .ref (lo + x1), .int x2] w) (im_Post D vwCl tA lo (some (im_rf lo r.1)) r.2) 0 0 (fun q => lo ≤ q) := by
  refine im_ofW (cc := c_Pairs_formBehind) (nL := 4) (ret := (some (.object "LanguageTags$Form"))) (by decide) (Nat.le_of_ble_eq_true rfl) ?_
  intro p e s m args below meth c X H locs ls hH hl
  obtain ⟨hx, hb, hr, hts, hown, hlk, hml, hK, hN⟩ := id X
  have hl : lv_has ls 4 [(0, .ref (lo + x0)), (1, .ref (lo + x1)), (2, .int x2)] := hl
  unfold sh_Pairs_formBehind at hsh
  refine lv_iconst (v := 0) hx hb d_Pairs_formBehind_0 (by decide) ?_
  refine lv_istore_n (lv' := [(3, .int (0 : Int32)), (0, .ref (lo + x0)), (1, .ref (lo + x1)), (2, .int x2)]) hx hb d_Pairs_formBehind_1 rfl hl (by decide) rfl (fun ls hl => ?_)
  exact bk_Pairs_formBehind_2 X F x0 x1 x2 (0 : Int32) w hsh H locs ls hH (lv_sub hl [1, 2, 3, 0] rfl)
theorem wd_526 : (Jvm.Cond.methodLink "LanguageTags$Pairs" (43 : Nat) ({ cls := "LanguageTags$Core", name := "isMadeOf", desc := "(JJJ)Z" } : Jvm.MethodName)) ∈ im_T := im_memT (i := 526) (by decide +kernel) (by decide +kernel)
theorem d_Pairs_coreBehind_0 : decode c_Pairs_coreBehind 0 = .ok (.iconst 0, 1) := by decide +kernel
theorem d_Pairs_coreBehind_1 : decode c_Pairs_coreBehind 1 = .ok (.istore 7, 2) := by decide +kernel
theorem d_Pairs_coreBehind_3 : decode c_Pairs_coreBehind 3 = .ok (.iload 7, 2) := by decide +kernel
theorem d_Pairs_coreBehind_5 : decode c_Pairs_coreBehind 5 = .ok (.aload_n 0, 1) := by decide +kernel
theorem d_Pairs_coreBehind_6 : decode c_Pairs_coreBehind 6 = .ok (.getfield 23, 3) := by decide +kernel
theorem d_Pairs_coreBehind_9 : decode c_Pairs_coreBehind 9 = .ok (.if_icmp .ge (40), 3) := by decide +kernel
theorem d_Pairs_coreBehind_12 : decode c_Pairs_coreBehind 12 = .ok (.aload_n 0, 1) := by decide +kernel
theorem d_Pairs_coreBehind_13 : decode c_Pairs_coreBehind 13 = .ok (.getfield 11, 3) := by decide +kernel
theorem d_Pairs_coreBehind_16 : decode c_Pairs_coreBehind 16 = .ok (.iload 7, 2) := by decide +kernel
theorem d_Pairs_coreBehind_18 : decode c_Pairs_coreBehind 18 = .ok (.aaload, 1) := by decide +kernel
theorem d_Pairs_coreBehind_19 : decode c_Pairs_coreBehind 19 = .ok (.getfield 39, 3) := by decide +kernel
theorem d_Pairs_coreBehind_22 : decode c_Pairs_coreBehind 22 = .ok (.lload_n 1, 1) := by decide +kernel
theorem d_Pairs_coreBehind_23 : decode c_Pairs_coreBehind 23 = .ok (.lload_n 3, 1) := by decide +kernel
theorem d_Pairs_coreBehind_24 : decode c_Pairs_coreBehind 24 = .ok (.lload 5, 2) := by decide +kernel
theorem d_Pairs_coreBehind_26 : decode c_Pairs_coreBehind 26 = .ok (.invokevirtual 43, 3) := by decide +kernel
theorem d_Pairs_coreBehind_29 : decode c_Pairs_coreBehind 29 = .ok (.ifCond .eq (14), 3) := by decide +kernel
theorem d_Pairs_coreBehind_32 : decode c_Pairs_coreBehind 32 = .ok (.aload_n 0, 1) := by decide +kernel
theorem d_Pairs_coreBehind_33 : decode c_Pairs_coreBehind 33 = .ok (.getfield 17, 3) := by decide +kernel
theorem d_Pairs_coreBehind_36 : decode c_Pairs_coreBehind 36 = .ok (.iload 7, 2) := by decide +kernel
theorem d_Pairs_coreBehind_38 : decode c_Pairs_coreBehind 38 = .ok (.aaload, 1) := by decide +kernel
theorem d_Pairs_coreBehind_39 : decode c_Pairs_coreBehind 39 = .ok (.getfield 39, 3) := by decide +kernel
theorem d_Pairs_coreBehind_42 : decode c_Pairs_coreBehind 42 = .ok (.areturn, 1) := by decide +kernel
theorem d_Pairs_coreBehind_43 : decode c_Pairs_coreBehind 43 = .ok (.iinc 7 (1), 3) := by decide +kernel
theorem d_Pairs_coreBehind_46 : decode c_Pairs_coreBehind 46 = .ok (.goto (-43), 3) := by decide +kernel
theorem d_Pairs_coreBehind_49 : decode c_Pairs_coreBehind 49 = .ok (.aconst_null, 1) := by decide +kernel
theorem d_Pairs_coreBehind_50 : decode c_Pairs_coreBehind 50 = .ok (.areturn, 1) := by decide +kernel
def sh_Pairs_coreBehind_3 (F : Nat) : Nat → Nat → Int64 → Int64 → Int64 → Int32 → im_W → Option (Option Nat × im_W)
  | 0, _, _, _, _, _, _ => none
  | f + 1, x0, x1, x3, x5, x7, w => (im_gI w 4 x0 2).bind fun f1 => (if f1 ≤ x7 then some ((none : Option Nat), w) else (im_gR w 4 x0 0).bind fun f3 => (im_lR w 5 f3 x7).bind fun e5 => (im_gR w 2 e5 0).bind fun f7 => (im_is w 1 f7).bind fun u9 => im_b2 (sh_Core_isMadeOf F f7 x1 x3 x5 w) fun v15 w13 => (if v15 = 0 then (sh_Pairs_coreBehind_3 F f) x0 x1 x3 x5 (x7 + (1 : Int32)) w13 else (im_gR w13 4 x0 1).bind fun f16 => (im_lR w13 5 f16 x7).bind fun e18 => (im_gR w13 2 e18 0).bind fun f20 => some ((some f20), w13)))
set_option maxHeartbeats 4000000 in
set_option maxRecDepth 100000 in
theorem bk_Pairs_coreBehind_3 {F : Nat} {r : Option Nat × im_W} (X : im_X D vwCl tA lo im_NW c_Pairs_coreBehind 8 (some (.object "LanguageTags$Core")) RC_Pairs im_T p s m args meth c) : ∀ (f : Nat) (x0 : Nat) (x1 : Int64) (x3 : Int64) (x5 : Int64) (x7 : Int32) (w : im_W), sh_Pairs_coreBehind_3 F f x0 x1 x3 x5 x7 w = some r → im_WW D vwCl tA lo 8 p l e (im_rm 1 26) s m args below meth c 0 0 (MQ below (im_Post D vwCl tA lo (some (im_rf lo r.1)) r.2) args s 0 0 (fun q => lo ≤ q)) 3 [(0, .ref (lo + x0)), (1, .long x1), (3, .long x3), (5, .long x5), (7, .int x7)] [] w := by
  obtain ⟨hx, hb, hr, hts, hown, hlk, hml, hK, hN⟩ := id X
  intro f
  induction f with
  | zero =>
    intro x0 x1 x3 x5 x7 w hsh
    cases hsh
  | succ f ih =>
    intro x0 x1 x3 x5 x7 w hsh H locs ls hH hl
    unfold sh_Pairs_coreBehind_3 at hsh
    refine lv_iload hx hb d_Pairs_coreBehind_3 (lv_at hl 4 rfl) ?_
    refine lv_aload_n hx hb d_Pairs_coreBehind_5 rfl (lv_at hl 0 rfl) ?_
    obtain ⟨f1, h2, hsh⟩ := im_bd hsh
    refine im_getI hx hb hts inC_Pairs hown hK hH (ci := 4) rfl 2 (by decide) (hts _ wd_118) rfl h2 d_Pairs_coreBehind_6 ?_
    refine lv_icmp_ge (tgt := 49) hx hb d_Pairs_coreBehind_9 (by decide) (fun cc => ?_) (fun cc => ?_)
    · have hsh := im_it hsh cc
      refine im_null (lo := lo) hx hb d_Pairs_coreBehind_49 ?_
      obtain rfl := Option.some.inj hsh
      exact im_aret (r := none) hx hb hr hlk hH d_Pairs_coreBehind_50
    · have hsh := im_if hsh cc
      refine lv_aload_n hx hb d_Pairs_coreBehind_12 rfl (lv_at hl 0 rfl) ?_
      obtain ⟨f3, h4, hsh⟩ := im_bd hsh
      refine im_getR hx hb hts inC_Pairs hown hK hH (ci := 4) rfl 0 (by decide) (hts _ wd_116) rfl h4 d_Pairs_coreBehind_13 ?_
      refine lv_iload hx hb d_Pairs_coreBehind_16 (lv_at hl 4 rfl) ?_
      obtain ⟨e5, h6, hsh⟩ := im_bd hsh
      refine im_aald5 hx hb hK hH h6 d_Pairs_coreBehind_18 ?_
      obtain ⟨f7, h8, hsh⟩ := im_bd hsh
      refine im_getNR hx hb hts inC_Form hown hK hH (ci := 2) rfl 0 (by decide) (hN _ nw_105) rfl h8 d_Pairs_coreBehind_19 ?_
      refine lv_lload_n hx hb d_Pairs_coreBehind_22 rfl (lv_at hl 1 rfl) ?_
      refine lv_lload_n hx hb d_Pairs_coreBehind_23 rfl (lv_at hl 2 rfl) ?_
      refine lv_lload hx hb d_Pairs_coreBehind_24 (lv_at hl 3 rfl) ?_
      obtain ⟨u9, h10, hsh⟩ := im_bd hsh
      obtain ⟨g11, h12⟩ := im_is_s h10
      obtain ⟨v15, w13, h14, hsh⟩ := im_bd2 hsh
      refine im_afterI (va_runV (As := [.long x1, .long x3, .long x5]) (rest := []) (C := RC_Core) ⟨hx, hb, hml, hown, hts⟩ (met_Core_isMadeOf h14) ⟨(callB_of 3 hts (im_good wd_529) rfl rfl rfl (hts _ wd_7) (hts _ wd_526) (by decide +kernel) ⟨Nat.le_of_ble_eq_true rfl, Nat.le_of_ble_eq_true rfl⟩), hts _ wd_527, hts _ wd_528⟩ (im_preV im_NW_ok hK hN hH (ci := 1) rfl rfl h12 _) rfl rfl hl.1 rfl (lv_room (Nat.le_of_ble_eq_true rfl)) d_Pairs_coreBehind_26 ⟨Nat.le_of_ble_eq_true rfl, Nat.le_of_ble_eq_true rfl⟩) hH (fun H locs hH => ?_)
      refine lv_if_eq (tgt := 43) hx hb d_Pairs_coreBehind_29 (by decide) (fun cc => ?_) (fun cc => ?_)
      · have hsh := im_it hsh cc
        refine lv_iinc (v := (x7 + (1 : Int32))) (lv' := [(7, .int (x7 + (1 : Int32))), (0, .ref (lo + x0)), (1, .long x1), (3, .long x3), (5, .long x5)]) hx hb d_Pairs_coreBehind_43 hl (k := 4) rfl rfl (by decide) rfl (fun ls hl => ?_)
        refine lv_goto (tgt := 3) hx hb d_Pairs_coreBehind_46 (by decide) ?_
        exact ih x0 x1 x3 x5 (x7 + (1 : Int32)) w13 hsh H locs ls hH (lv_sub hl [1, 2, 3, 4, 0] rfl)
      · have hsh := im_if hsh cc
        refine lv_aload_n hx hb d_Pairs_coreBehind_32 rfl (lv_at hl 0 rfl) ?_
        obtain ⟨f16, h17, hsh⟩ := im_bd hsh
        refine im_getR hx hb hts inC_Pairs hown hK hH (ci := 4) rfl 1 (by decide) (hts _ wd_117) rfl h17 d_Pairs_coreBehind_33 ?_
        refine lv_iload hx hb d_Pairs_coreBehind_36 (lv_at hl 4 rfl) ?_
        obtain ⟨e18, h19, hsh⟩ := im_bd hsh
        refine im_aald5 hx hb hK hH h19 d_Pairs_coreBehind_38 ?_
        obtain ⟨f20, h21, hsh⟩ := im_bd hsh
        refine im_getNR hx hb hts inC_Form hown hK hH (ci := 2) rfl 0 (by decide) (hN _ nw_105) rfl h21 d_Pairs_coreBehind_39 ?_
        obtain rfl := Option.some.inj hsh
        exact im_aret (r := (some f20)) hx hb hr hlk hH d_Pairs_coreBehind_42
def sh_Pairs_coreBehind (F : Nat) (x0 : Nat) (x1 : Int64) (x3 : Int64) (x5 : Int64) (w : im_W) : Option (Option Nat × im_W) :=
  sh_Pairs_coreBehind_3 F F x0 x1 x3 x5 (0 : Int32) w
set_option maxHeartbeats 4000000 in
set_option maxRecDepth 100000 in
theorem met_Pairs_coreBehind {F : Nat} {x0 : Nat} {x1 : Int64} {x3 : Int64} {x5 : Int64} {w : im_W} {r : Option Nat × im_W} (hsh : sh_Pairs_coreBehind F x0 x1 x3 x5 w = some r) : Met l y_Pairs_coreBehind (Cond.code y_Pairs_coreBehind c_Pairs_coreBehind 8 (some (.object "LanguageTags$Core")) :: im_T) (im_rm 1 26) (im_Pre D vwCl tA lo im_NW [.ref (lo + x0), .long x1, .long x3, .long x5] w) (im_Post D vwCl tA lo (some (im_rf lo r.1)) r.2) 0 0 (fun q => lo ≤ q) := by
  refine im_ofW (cc := c_Pairs_coreBehind) (nL := 8) (ret := (some (.object "LanguageTags$Core"))) (by decide) (Nat.le_of_ble_eq_true rfl) ?_
  intro p e s m args below meth c X H locs ls hH hl
  obtain ⟨hx, hb, hr, hts, hown, hlk, hml, hK, hN⟩ := id X
  have hl : lv_has ls 8 [(0, .ref (lo + x0)), (1, .long x1), (3, .long x3), (5, .long x5)] := hl
  unfold sh_Pairs_coreBehind at hsh
  refine lv_iconst (v := 0) hx hb d_Pairs_coreBehind_0 (by decide) ?_
  refine lv_istore (lv' := [(7, .int (0 : Int32)), (0, .ref (lo + x0)), (1, .long x1), (3, .long x3), (5, .long x5)]) hx hb d_Pairs_coreBehind_1 hl (by decide) rfl (fun ls hl => ?_)
  exact bk_Pairs_coreBehind_3 X F x0 x1 x3 x5 (0 : Int32) w hsh H locs ls hH (lv_sub hl [1, 2, 3, 4, 0] rfl)
end GEN
