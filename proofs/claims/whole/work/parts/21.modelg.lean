section GEN
variable {l : Launch} {D : va_G} {tA : Nat → ClassId} {lo : Nat} {p : Program} {e : Env} {s : State} {m : MethodId} {args : Array Value} {below : List Frame} {meth : Method} {c : Code}
theorem d_Model_cutTag_0 : decode c_Model_cutTag 0 = .ok (.aload_n 0, 1) := by decide +kernel
theorem d_Model_cutTag_1 : decode c_Model_cutTag 1 = .ok (.aload_n 0, 1) := by decide +kernel
theorem d_Model_cutTag_2 : decode c_Model_cutTag 2 = .ok (.getfield 271, 3) := by decide +kernel
theorem d_Model_cutTag_5 : decode c_Model_cutTag 5 = .ok (.putfield 177, 3) := by decide +kernel
theorem d_Model_cutTag_8 : decode c_Model_cutTag 8 = .ok (.iconst 0, 1) := by decide +kernel
theorem d_Model_cutTag_9 : decode c_Model_cutTag 9 = .ok (.istore_n 1, 1) := by decide +kernel
theorem d_Model_cutTag_10 : decode c_Model_cutTag 10 = .ok (.iload_n 1, 1) := by decide +kernel
theorem d_Model_cutTag_11 : decode c_Model_cutTag 11 = .ok (.aload_n 0, 1) := by decide +kernel
theorem d_Model_cutTag_12 : decode c_Model_cutTag 12 = .ok (.getfield 271, 3) := by decide +kernel
theorem d_Model_cutTag_15 : decode c_Model_cutTag 15 = .ok (.if_icmp .ge (21), 3) := by decide +kernel
theorem d_Model_cutTag_18 : decode c_Model_cutTag 18 = .ok (.aload_n 0, 1) := by decide +kernel
theorem d_Model_cutTag_19 : decode c_Model_cutTag 19 = .ok (.getfield 26, 3) := by decide +kernel
theorem d_Model_cutTag_22 : decode c_Model_cutTag 22 = .ok (.iload_n 1, 1) := by decide +kernel
theorem d_Model_cutTag_23 : decode c_Model_cutTag 23 = .ok (.aload_n 0, 1) := by decide +kernel
theorem d_Model_cutTag_24 : decode c_Model_cutTag 24 = .ok (.getfield 29, 3) := by decide +kernel
theorem d_Model_cutTag_27 : decode c_Model_cutTag 27 = .ok (.iload_n 1, 1) := by decide +kernel
theorem d_Model_cutTag_28 : decode c_Model_cutTag 28 = .ok (.caload, 1) := by decide +kernel
theorem d_Model_cutTag_29 : decode c_Model_cutTag 29 = .ok (.castore, 1) := by decide +kernel
theorem d_Model_cutTag_30 : decode c_Model_cutTag 30 = .ok (.iinc 1 (1), 3) := by decide +kernel
theorem d_Model_cutTag_33 : decode c_Model_cutTag 33 = .ok (.goto (-23), 3) := by decide +kernel
theorem d_Model_cutTag_36 : decode c_Model_cutTag 36 = .ok (.aload_n 0, 1) := by decide +kernel
theorem d_Model_cutTag_37 : decode c_Model_cutTag 37 = .ok (.invokevirtual 221, 3) := by decide +kernel
theorem d_Model_cutTag_40 : decode c_Model_cutTag 40 = .ok (.ireturn, 1) := by decide +kernel
def sh_Model_cutTag_10 (F : Nat) : Nat → Nat → Int32 → im_W → Option (Int32 × im_W)
  | 0, _, _, _ => none
  | f + 1, x0, x1, w => (im_gI w 9 x0 15).bind fun f1 => (if f1 ≤ x1 then (im_is w 9 x0).bind fun u3 => im_b2 (sh_Model_find F x0 w) fun v9 w7 => some (v9, w7) else (im_gR w 9 x0 14).bind fun f10 => (im_gR w 9 x0 16).bind fun f12 => (im_lI w 2 f12 x1).bind fun e14 => (im_sI w 2 f10 x1 (vp_nar .char e14)).bind fun w16 => (sh_Model_cutTag_10 F f) x0 (x1 + (1 : Int32)) w16)
set_option maxHeartbeats 4000000 in
set_option maxRecDepth 100000 in
theorem bk_Model_cutTag_10 {F : Nat} {r : Int32 × im_W} (X : im_X D vwCl tA lo im_NW c_Model_cutTag 2 (some .int) RC_Model im_T p s m args meth c) : ∀ (f : Nat) (x0 : Nat) (x1 : Int32) (w : im_W), sh_Model_cutTag_10 F f x0 x1 w = some r → im_WW D vwCl tA lo 2 p l e (im_rm 1 23) s m args below meth c 0 0 (MQ below (im_Post D vwCl tA lo (some (.int r.1)) r.2) args s 0 0 (fun q => lo ≤ q)) 10 [(0, .ref (lo + x0)), (1, .int x1)] [] w := by
  obtain ⟨hx, hb, hr, hts, hown, hlk, hml, hK, hN⟩ := id X
  intro f
  induction f with
  | zero =>
    intro x0 x1 w hsh
    cases hsh
  | succ f ih =>
    intro x0 x1 w hsh H locs ls hH hl
    unfold sh_Model_cutTag_10 at hsh
    refine lv_iload_n hx hb d_Model_cutTag_10 rfl (lv_at hl 1 rfl) ?_
    refine lv_aload_n hx hb d_Model_cutTag_11 rfl (lv_at hl 0 rfl) ?_
    obtain ⟨f1, h2, hsh⟩ := im_bd hsh
    refine im_getI hx hb hts inC_Model hown hK hH (ci := 9) rfl 15 (by decide) (hts _ wd_646) rfl h2 d_Model_cutTag_12 ?_
    refine lv_icmp_ge (tgt := 36) hx hb d_Model_cutTag_15 (by decide) (fun cc => ?_) (fun cc => ?_)
    · have hsh := im_it hsh cc
      refine lv_aload_n hx hb d_Model_cutTag_36 rfl (lv_at hl 0 rfl) ?_
      obtain ⟨u3, h4, hsh⟩ := im_bd hsh
      obtain ⟨g5, h6⟩ := im_is_s h4
      obtain ⟨v9, w7, h8, hsh⟩ := im_bd2 hsh
      refine im_afterI (va_runV (As := []) (rest := []) (C := RC_Model) ⟨hx, hb, hml, hown, hts⟩ (met_Model_find h8) ⟨(callB_of 0 hts (im_good wd_895) rfl rfl rfl (hts _ wd_10) (hts _ wd_892) (by decide +kernel) ⟨Nat.le_of_ble_eq_true rfl, Nat.le_of_ble_eq_true rfl⟩), hts _ wd_894, hts _ sl_Model_find⟩ (im_preV im_NW_ok hK hN hH (ci := 9) rfl rfl h6 _) rfl rfl hl.1 rfl (lv_room (Nat.le_of_ble_eq_true rfl)) d_Model_cutTag_37 ⟨Nat.le_of_ble_eq_true rfl, Nat.le_of_ble_eq_true rfl⟩) hH (fun H locs hH => ?_)
      obtain rfl := Option.some.inj hsh
      exact im_iret hx hb hr hlk hH d_Model_cutTag_40
    · have hsh := im_if hsh cc
      refine lv_aload_n hx hb d_Model_cutTag_18 rfl (lv_at hl 0 rfl) ?_
      obtain ⟨f10, h11, hsh⟩ := im_bd hsh
      refine im_getR hx hb hts inC_Model hown hK hH (ci := 9) rfl 14 (by decide) (hts _ wd_645) rfl h11 d_Model_cutTag_19 ?_
      refine lv_iload_n hx hb d_Model_cutTag_22 rfl (lv_at hl 1 rfl) ?_
      refine lv_aload_n hx hb d_Model_cutTag_23 rfl (lv_at hl 0 rfl) ?_
      obtain ⟨f12, h13, hsh⟩ := im_bd hsh
      refine im_getR hx hb hts inC_Model hown hK hH (ci := 9) rfl 16 (by decide) (hts _ wd_647) rfl h13 d_Model_cutTag_24 ?_
      refine lv_iload_n hx hb d_Model_cutTag_27 rfl (lv_at hl 1 rfl) ?_
      obtain ⟨e14, h15, hsh⟩ := im_bd hsh
      refine im_cald hx hb hK hH h15 d_Model_cutTag_28 ?_
      obtain ⟨w16, h17, hsh⟩ := im_bd hsh
      refine im_cast hx hb hK hH h17 d_Model_cutTag_29 (fun H locs hH => ?_)
      refine lv_iinc (v := (x1 + (1 : Int32))) (lv' := [(1, .int (x1 + (1 : Int32))), (0, .ref (lo + x0))]) hx hb d_Model_cutTag_30 hl (k := 1) rfl rfl (by decide) rfl (fun ls hl => ?_)
      refine lv_goto (tgt := 10) hx hb d_Model_cutTag_33 (by decide) ?_
      exact ih x0 (x1 + (1 : Int32)) w16 hsh H locs ls hH (lv_sub hl [1, 0] rfl)
def sh_Model_cutTag (F : Nat) (x0 : Nat) (w : im_W) : Option (Int32 × im_W) :=
  (im_gI w 9 x0 15).bind fun f1 => (im_pV w 9 x0 13 (.int f1)).bind fun w3 => sh_Model_cutTag_10 F F x0 (0 : Int32) w3
set_option maxHeartbeats 4000000 in
set_option maxRecDepth 100000 in
theorem met_Model_cutTag {F : Nat} {x0 : Nat} {w : im_W} {r : Int32 × im_W} (hsh : sh_Model_cutTag F x0 w = some r) : Met l y_Model_cutTag (Cond.code y_Model_cutTag c_Model_cutTag 2 (some .int) :: im_T) (im_rm 1 23) (im_Pre D vwCl tA lo im_NW [.ref (lo + x0)] w) (im_Post D vwCl tA lo (some (.int r.1)) r.2) 0 0 (fun q => lo ≤ q) := by
  refine im_ofW (cc := c_Model_cutTag) (nL := 2) (ret := (some .int)) (by decide) (Nat.le_of_ble_eq_true rfl) ?_
  intro p e s m args below meth c X H locs ls hH hl
  obtain ⟨hx, hb, hr, hts, hown, hlk, hml, hK, hN⟩ := id X
  have hl : lv_has ls 2 [(0, .ref (lo + x0))] := hl
  unfold sh_Model_cutTag at hsh
  refine lv_aload_n hx hb d_Model_cutTag_0 rfl (lv_at hl 0 rfl) ?_
  refine lv_aload_n hx hb d_Model_cutTag_1 rfl (lv_at hl 0 rfl) ?_
  obtain ⟨f1, h2, hsh⟩ := im_bd hsh
  refine im_getI hx hb hts inC_Model hown hK hH (ci := 9) rfl 15 (by decide) (hts _ wd_646) rfl h2 d_Model_cutTag_2 ?_
  obtain ⟨w3, h4, hsh⟩ := im_bd hsh
  refine im_put (v := .int f1) hx hb hts inC_Model tyC_Model tyC_Model_ok nmC_Model hown hK hH (ci := 9) rfl 13 (by decide) (hts _ wd_644) rfl rfl rfl rfl h4 d_Model_cutTag_5 (fun H locs hH => ?_)
  refine lv_iconst (v := 0) hx hb d_Model_cutTag_8 (by decide) ?_
  refine lv_istore_n (lv' := [(1, .int (0 : Int32)), (0, .ref (lo + x0))]) hx hb d_Model_cutTag_9 rfl hl (by decide) rfl (fun ls hl => ?_)
  exact bk_Model_cutTag_10 X F x0 (0 : Int32) w3 hsh H locs ls hH (lv_sub hl [1, 0] rfl)
theorem wd_960 : (Jvm.Cond.methodLink "LanguageTagsModel" (277 : Nat) ({ cls := "LanguageTagsModel", name := "startCut", desc := "(I)V" } : Jvm.MethodName)) ∈ im_T := im_memT (i := 960) (by decide +kernel) (by decide +kernel)
theorem wd_962 : (Jvm.Cond.instanceMethod ({ cls := "LanguageTagsModel", name := "startCut", desc := "(I)V" } : Jvm.MethodName)) ∈ im_T := im_memT (i := 962) (by decide +kernel) (by decide +kernel)
theorem wd_963 : (Jvm.Cond.code ({ cls := "LanguageTagsModel", name := "startCut", desc := "(I)V" } : Jvm.MethodName) prog_12_method_50_code (3 : Nat) (Option.none : Option Jvm.ClassFile.FieldType)) ∈ im_T := im_memT (i := 963) (by decide +kernel) (by decide +kernel)
theorem wd_964 : (Jvm.Cond.methodLink "LanguageTagsModel" (280 : Nat) ({ cls := "LanguageTagsModel", name := "cutTag", desc := "()I" } : Jvm.MethodName)) ∈ im_T := im_memT (i := 964) (by decide +kernel) (by decide +kernel)
theorem wd_966 : (Jvm.Cond.instanceMethod ({ cls := "LanguageTagsModel", name := "cutTag", desc := "()I" } : Jvm.MethodName)) ∈ im_T := im_memT (i := 966) (by decide +kernel) (by decide +kernel)
theorem wd_967 : (Jvm.Cond.code ({ cls := "LanguageTagsModel", name := "cutTag", desc := "()I" } : Jvm.MethodName) prog_12_method_53_code (2 : Nat) (Option.some Jvm.ClassFile.FieldType.int)) ∈ im_T := im_memT (i := 967) (by decide +kernel) (by decide +kernel)
theorem wd_968 : (Jvm.Cond.methodLink "LanguageTagsModel" (283 : Nat) ({ cls := "LanguageTagsModel", name := "truncate", desc := "()V" } : Jvm.MethodName)) ∈ im_T := im_memT (i := 968) (by decide +kernel) (by decide +kernel)
theorem wd_970 : (Jvm.Cond.instanceMethod ({ cls := "LanguageTagsModel", name := "truncate", desc := "()V" } : Jvm.MethodName)) ∈ im_T := im_memT (i := 970) (by decide +kernel) (by decide +kernel)
theorem wd_971 : (Jvm.Cond.code ({ cls := "LanguageTagsModel", name := "truncate", desc := "()V" } : Jvm.MethodName) prog_12_method_52_code (1 : Nat) (Option.none : Option Jvm.ClassFile.FieldType)) ∈ im_T := im_memT (i := 971) (by decide +kernel) (by decide +kernel)
theorem d_Model_lookup_0 : decode c_Model_lookup 0 = .ok (.aload_n 0, 1) := by decide +kernel
theorem d_Model_lookup_1 : decode c_Model_lookup 1 = .ok (.iload_n 1, 1) := by decide +kernel
theorem d_Model_lookup_2 : decode c_Model_lookup 2 = .ok (.invokevirtual 251, 3) := by decide +kernel
theorem d_Model_lookup_5 : decode c_Model_lookup 5 = .ok (.ifCond .eq (5), 3) := by decide +kernel
theorem d_Model_lookup_8 : decode c_Model_lookup 8 = .ok (.iconst (-1), 1) := by decide +kernel
theorem d_Model_lookup_9 : decode c_Model_lookup 9 = .ok (.ireturn, 1) := by decide +kernel
theorem d_Model_lookup_10 : decode c_Model_lookup 10 = .ok (.aload_n 0, 1) := by decide +kernel
theorem d_Model_lookup_11 : decode c_Model_lookup 11 = .ok (.iload_n 1, 1) := by decide +kernel
theorem d_Model_lookup_12 : decode c_Model_lookup 12 = .ok (.invokevirtual 277, 3) := by decide +kernel
theorem d_Model_lookup_15 : decode c_Model_lookup 15 = .ok (.aload_n 0, 1) := by decide +kernel
theorem d_Model_lookup_16 : decode c_Model_lookup 16 = .ok (.getfield 271, 3) := by decide +kernel
theorem d_Model_lookup_19 : decode c_Model_lookup 19 = .ok (.ifCond .le (29), 3) := by decide +kernel
theorem d_Model_lookup_22 : decode c_Model_lookup 22 = .ok (.aload_n 0, 1) := by decide +kernel
theorem d_Model_lookup_23 : decode c_Model_lookup 23 = .ok (.invokevirtual 280, 3) := by decide +kernel
theorem d_Model_lookup_26 : decode c_Model_lookup 26 = .ok (.istore_n 2, 1) := by decide +kernel
theorem d_Model_lookup_27 : decode c_Model_lookup 27 = .ok (.iload_n 2, 1) := by decide +kernel
theorem d_Model_lookup_28 : decode c_Model_lookup 28 = .ok (.ifCond .lt (13), 3) := by decide +kernel
theorem d_Model_lookup_31 : decode c_Model_lookup 31 = .ok (.aload_n 0, 1) := by decide +kernel
theorem d_Model_lookup_32 : decode c_Model_lookup 32 = .ok (.iload_n 2, 1) := by decide +kernel
theorem d_Model_lookup_33 : decode c_Model_lookup 33 = .ok (.invokevirtual 265, 3) := by decide +kernel
theorem d_Model_lookup_36 : decode c_Model_lookup 36 = .ok (.ifCond .eq (5), 3) := by decide +kernel
theorem d_Model_lookup_39 : decode c_Model_lookup 39 = .ok (.iload_n 2, 1) := by decide +kernel
theorem d_Model_lookup_40 : decode c_Model_lookup 40 = .ok (.ireturn, 1) := by decide +kernel
theorem d_Model_lookup_41 : decode c_Model_lookup 41 = .ok (.aload_n 0, 1) := by decide +kernel
theorem d_Model_lookup_42 : decode c_Model_lookup 42 = .ok (.invokevirtual 283, 3) := by decide +kernel
theorem d_Model_lookup_45 : decode c_Model_lookup 45 = .ok (.goto (-30), 3) := by decide +kernel
theorem d_Model_lookup_48 : decode c_Model_lookup 48 = .ok (.iconst (-1), 1) := by decide +kernel
theorem d_Model_lookup_49 : decode c_Model_lookup 49 = .ok (.ireturn, 1) := by decide +kernel
def sh_Model_lookup_41 (F : Nat) (k15 : Nat → im_W → Option (Int32 × im_W)) (x0 : Nat) (w : im_W) : Option (Int32 × im_W) :=
  (im_is w 9 x0).bind fun u1 => (sh_Model_truncate F x0 w).bind fun w5 => k15 x0 w5
set_option maxHeartbeats 4000000 in
set_option maxRecDepth 100000 in
theorem bk_Model_lookup_41 {F : Nat} {r : Int32 × im_W} (X : im_X D vwCl tA lo im_NW c_Model_lookup 3 (some .int) RC_Model im_T p s m args meth c) {k15 : Nat → im_W → Option (Int32 × im_W)} (hk15 : ∀ (x0 : Nat) (w : im_W), k15 x0 w = some r → im_WW D vwCl tA lo 3 p l e (im_rm 2 44) s m args below meth c 0 0 (MQ below (im_Post D vwCl tA lo (some (.int r.1)) r.2) args s 0 0 (fun q => lo ≤ q)) 15 [(0, .ref (lo + x0))] [] w) (x0 : Nat) (w : im_W) (hsh : sh_Model_lookup_41 F k15 x0 w = some r) : im_WW D vwCl tA lo 3 p l e (im_rm 2 44) s m args below meth c 0 0 (MQ below (im_Post D vwCl tA lo (some (.int r.1)) r.2) args s 0 0 (fun q => lo ≤ q)) 41 [(0, .ref (lo + x0))] [] w := by
  obtain ⟨hx, hb, hr, hts, hown, hlk, hml, hK, hN⟩ := id X
  intro H locs ls hH hl
  unfold sh_Model_lookup_41 at hsh
  refine lv_aload_n hx hb d_Model_lookup_41 rfl (lv_at hl 0 rfl) ?_
  obtain ⟨u1, h2, hsh⟩ := im_bd hsh
  obtain ⟨g3, h4⟩ := im_is_s h2
  obtain ⟨w5, h6, hsh⟩ := im_bd hsh
  refine im_afterV (va_runV (As := []) (rest := []) (C := RC_Model) ⟨hx, hb, hml, hown, hts⟩ (met_Model_truncate h6) ⟨(callB_of 0 hts (im_good wd_971) rfl rfl rfl (hts _ wd_10) (hts _ wd_968) (by decide +kernel) ⟨Nat.le_of_ble_eq_true rfl, Nat.le_of_ble_eq_true rfl⟩), hts _ wd_970, hts _ sl_Model_truncate⟩ (im_preV im_NW_ok hK hN hH (ci := 9) rfl rfl h4 _) rfl rfl hl.1 rfl (lv_room (Nat.le_of_ble_eq_true rfl)) d_Model_lookup_42 ⟨Nat.le_of_ble_eq_true rfl, Nat.le_of_ble_eq_true rfl⟩) hH (fun H locs hH => ?_)
  refine lv_goto (tgt := 15) hx hb d_Model_lookup_45 (by decide) ?_
  exact hk15 x0 w5 hsh H locs ls hH (lv_sub hl [0] rfl)
def sh_Model_lookup_15 (F : Nat) : Nat → Nat → im_W → Option (Int32 × im_W)
  | 0, _, _ => none
  | f + 1, x0, w => (im_gI w 9 x0 15).bind fun f1 => (if f1 ≤ 0 then some ((-1 : Int32), w) else (im_is w 9 x0).bind fun u3 => im_b2 (sh_Model_cutTag F x0 w) fun v9 w7 => (if v9 < 0 then sh_Model_lookup_41 F (sh_Model_lookup_15 F f) x0 w7 else (im_is w7 9 x0).bind fun u10 => im_b2 (sh_Model_isSupported F x0 v9 w7) fun v16 w14 => (if v16 = 0 then sh_Model_lookup_41 F (sh_Model_lookup_15 F f) x0 w14 else some (v9, w14))))
set_option maxHeartbeats 4000000 in
set_option maxRecDepth 100000 in
theorem bk_Model_lookup_15 {F : Nat} {r : Int32 × im_W} (X : im_X D vwCl tA lo im_NW c_Model_lookup 3 (some .int) RC_Model im_T p s m args meth c) : ∀ (f : Nat) (x0 : Nat) (w : im_W), sh_Model_lookup_15 F f x0 w = some r → im_WW D vwCl tA lo 3 p l e (im_rm 2 44) s m args below meth c 0 0 (MQ below (im_Post D vwCl tA lo (some (.int r.1)) r.2) args s 0 0 (fun q => lo ≤ q)) 15 [(0, .ref (lo + x0))] [] w := by
  obtain ⟨hx, hb, hr, hts, hown, hlk, hml, hK, hN⟩ := id X
  intro f
  induction f with
  | zero =>
    intro x0 w hsh
    cases hsh
  | succ f ih =>
    intro x0 w hsh H locs ls hH hl
    unfold sh_Model_lookup_15 at hsh
    refine lv_aload_n hx hb d_Model_lookup_15 rfl (lv_at hl 0 rfl) ?_
    obtain ⟨f1, h2, hsh⟩ := im_bd hsh
    refine im_getI hx hb hts inC_Model hown hK hH (ci := 9) rfl 15 (by decide) (hts _ wd_646) rfl h2 d_Model_lookup_16 ?_
    refine lv_if_le (tgt := 48) hx hb d_Model_lookup_19 (by decide) (fun cc => ?_) (fun cc => ?_)
    · have hsh := im_it hsh cc
      refine lv_iconst (v := -1) hx hb d_Model_lookup_48 (by decide) ?_
      obtain rfl := Option.some.inj hsh
      exact im_iret hx hb hr hlk hH d_Model_lookup_49
    · have hsh := im_if hsh cc
      refine lv_aload_n hx hb d_Model_lookup_22 rfl (lv_at hl 0 rfl) ?_
      obtain ⟨u3, h4, hsh⟩ := im_bd hsh
      obtain ⟨g5, h6⟩ := im_is_s h4
      obtain ⟨v9, w7, h8, hsh⟩ := im_bd2 hsh
      refine im_afterI (va_runV (As := []) (rest := []) (C := RC_Model) ⟨hx, hb, hml, hown, hts⟩ (met_Model_cutTag h8) ⟨(callB_of 0 hts (im_good wd_967) rfl rfl rfl (hts _ wd_10) (hts _ wd_964) (by decide +kernel) ⟨Nat.le_of_ble_eq_true rfl, Nat.le_of_ble_eq_true rfl⟩), hts _ wd_966, hts _ sl_Model_cutTag⟩ (im_preV im_NW_ok hK hN hH (ci := 9) rfl rfl h6 _) rfl rfl hl.1 rfl (lv_room (Nat.le_of_ble_eq_true rfl)) d_Model_lookup_23 ⟨Nat.le_of_ble_eq_true rfl, Nat.le_of_ble_eq_true rfl⟩) hH (fun H locs hH => ?_)
      refine lv_istore_n (lv' := [(2, .int v9), (0, .ref (lo + x0))]) hx hb d_Model_lookup_26 rfl hl (by decide) rfl (fun ls hl => ?_)
      refine lv_iload_n hx hb d_Model_lookup_27 rfl (lv_at hl 0 rfl) ?_
      refine lv_if_lt (tgt := 41) hx hb d_Model_lookup_28 (by decide) (fun cc => ?_) (fun cc => ?_)
      · have hsh := im_it hsh cc
        exact bk_Model_lookup_41 X ih x0 w7 hsh H locs ls hH (lv_sub hl [1] rfl)
      · have hsh := im_if hsh cc
        refine lv_aload_n hx hb d_Model_lookup_31 rfl (lv_at hl 1 rfl) ?_
        refine lv_iload_n hx hb d_Model_lookup_32 rfl (lv_at hl 0 rfl) ?_
        obtain ⟨u10, h11, hsh⟩ := im_bd hsh
        obtain ⟨g12, h13⟩ := im_is_s h11
        obtain ⟨v16, w14, h15, hsh⟩ := im_bd2 hsh
        refine im_afterI (va_runV (As := [.int v9]) (rest := []) (C := RC_Model) ⟨hx, hb, hml, hown, hts⟩ (met_Model_isSupported h15) ⟨(callB_of 1 hts (im_good wd_947) rfl rfl rfl (hts _ wd_10) (hts _ wd_944) (by decide +kernel) ⟨Nat.le_of_ble_eq_true rfl, Nat.le_of_ble_eq_true rfl⟩), hts _ wd_946, hts _ sl_Model_isSupported⟩ (im_preV im_NW_ok hK hN hH (ci := 9) rfl rfl h13 _) rfl rfl hl.1 rfl (lv_room (Nat.le_of_ble_eq_true rfl)) d_Model_lookup_33 ⟨Nat.le_of_ble_eq_true rfl, Nat.le_of_ble_eq_true rfl⟩) hH (fun H locs hH => ?_)
        refine lv_if_eq (tgt := 41) hx hb d_Model_lookup_36 (by decide) (fun cc => ?_) (fun cc => ?_)
        · have hsh := im_it hsh cc
          exact bk_Model_lookup_41 X ih x0 w14 hsh H locs ls hH (lv_sub hl [1] rfl)
        · have hsh := im_if hsh cc
          refine lv_iload_n hx hb d_Model_lookup_39 rfl (lv_at hl 0 rfl) ?_
          obtain rfl := Option.some.inj hsh
          exact im_iret hx hb hr hlk hH d_Model_lookup_40
def sh_Model_lookup (F : Nat) (x0 : Nat) (x1 : Int32) (w : im_W) : Option (Int32 × im_W) :=
  (im_is w 9 x0).bind fun u1 => im_b2 (sh_Model_none F x0 x1 w) fun v7 w5 => (if v7 = 0 then (im_is w5 9 x0).bind fun u8 => (sh_Model_startCut F x0 x1 w5).bind fun w12 => sh_Model_lookup_15 F F x0 w12 else some ((-1 : Int32), w5))
set_option maxHeartbeats 4000000 in
set_option maxRecDepth 100000 in
theorem met_Model_lookup {F : Nat} {x0 : Nat} {x1 : Int32} {w : im_W} {r : Int32 × im_W} (hsh : sh_Model_lookup F x0 x1 w = some r) : Met l y_Model_lookup (Cond.code y_Model_lookup c_Model_lookup 3 (some .int) :: im_T) (im_rm 2 44) (im_Pre D vwCl tA lo im_NW [.ref (lo + x0), .int x1] w) (im_Post D vwCl tA lo (some (.int r.1)) r.2) 0 0 (fun q => lo ≤ q) := by
  refine im_ofW (cc := c_Model_lookup) (nL := 3) (ret := (some .int)) (by decide) (Nat.le_of_ble_eq_true rfl) ?_
  intro p e s m args below meth c X H locs ls hH hl
  obtain ⟨hx, hb, hr, hts, hown, hlk, hml, hK, hN⟩ := id X
  have hl : lv_has ls 3 [(0, .ref (lo + x0)), (1, .int x1)] := hl
  unfold sh_Model_lookup at hsh
  refine lv_aload_n hx hb d_Model_lookup_0 rfl (lv_at hl 0 rfl) ?_
  refine lv_iload_n hx hb d_Model_lookup_1 rfl (lv_at hl 1 rfl) ?_
  obtain ⟨u1, h2, hsh⟩ := im_bd hsh
  obtain ⟨g3, h4⟩ := im_is_s h2
  obtain ⟨v7, w5, h6, hsh⟩ := im_bd2 hsh
  refine im_afterI (va_runV (As := [.int x1]) (rest := []) (C := RC_Model) ⟨hx, hb, hml, hown, hts⟩ (met_Model_none h6) ⟨(callB_of 1 hts (im_good wd_915) rfl rfl rfl (hts _ wd_10) (hts _ wd_912) (by decide +kernel) ⟨Nat.le_of_ble_eq_true rfl, Nat.le_of_ble_eq_true rfl⟩), hts _ wd_914, hts _ sl_Model_none⟩ (im_preV im_NW_ok hK hN hH (ci := 9) rfl rfl h4 _) rfl rfl hl.1 rfl (lv_room (Nat.le_of_ble_eq_true rfl)) d_Model_lookup_2 ⟨Nat.le_of_ble_eq_true rfl, Nat.le_of_ble_eq_true rfl⟩) hH (fun H locs hH => ?_)
  refine lv_if_eq (tgt := 10) hx hb d_Model_lookup_5 (by decide) (fun cc => ?_) (fun cc => ?_)
  · have hsh := im_it hsh cc
    refine lv_aload_n hx hb d_Model_lookup_10 rfl (lv_at hl 0 rfl) ?_
    refine lv_iload_n hx hb d_Model_lookup_11 rfl (lv_at hl 1 rfl) ?_
    obtain ⟨u8, h9, hsh⟩ := im_bd hsh
    obtain ⟨g10, h11⟩ := im_is_s h9
    obtain ⟨w12, h13, hsh⟩ := im_bd hsh
    refine im_afterV (va_runV (As := [.int x1]) (rest := []) (C := RC_Model) ⟨hx, hb, hml, hown, hts⟩ (met_Model_startCut h13) ⟨(callB_of 1 hts (im_good wd_963) rfl rfl rfl (hts _ wd_10) (hts _ wd_960) (by decide +kernel) ⟨Nat.le_of_ble_eq_true rfl, Nat.le_of_ble_eq_true rfl⟩), hts _ wd_962, hts _ sl_Model_startCut⟩ (im_preV im_NW_ok hK hN hH (ci := 9) rfl rfl h11 _) rfl rfl hl.1 rfl (lv_room (Nat.le_of_ble_eq_true rfl)) d_Model_lookup_12 ⟨Nat.le_of_ble_eq_true rfl, Nat.le_of_ble_eq_true rfl⟩) hH (fun H locs hH => ?_)
    exact bk_Model_lookup_15 X F x0 w12 hsh H locs ls hH (lv_sub hl [0] rfl)
  · have hsh := im_if hsh cc
    refine lv_iconst (v := -1) hx hb d_Model_lookup_8 (by decide) ?_
    obtain rfl := Option.some.inj hsh
    exact im_iret hx hb hr hlk hH d_Model_lookup_9
theorem d_Model_distance_0 : decode c_Model_distance 0 = .ok (.aload_n 0, 1) := by decide +kernel
theorem d_Model_distance_1 : decode c_Model_distance 1 = .ok (.iload_n 1, 1) := by decide +kernel
theorem d_Model_distance_2 : decode c_Model_distance 2 = .ok (.invokevirtual 251, 3) := by decide +kernel
theorem d_Model_distance_5 : decode c_Model_distance 5 = .ok (.ifCond .ne (11), 3) := by decide +kernel
theorem d_Model_distance_8 : decode c_Model_distance 8 = .ok (.aload_n 0, 1) := by decide +kernel
theorem d_Model_distance_9 : decode c_Model_distance 9 = .ok (.iload_n 2, 1) := by decide +kernel
theorem d_Model_distance_10 : decode c_Model_distance 10 = .ok (.invokevirtual 251, 3) := by decide +kernel
theorem d_Model_distance_13 : decode c_Model_distance 13 = .ok (.ifCond .eq (5), 3) := by decide +kernel
theorem d_Model_distance_16 : decode c_Model_distance 16 = .ok (.iconst (-1), 1) := by decide +kernel
theorem d_Model_distance_17 : decode c_Model_distance 17 = .ok (.ireturn, 1) := by decide +kernel
theorem d_Model_distance_18 : decode c_Model_distance 18 = .ok (.aload_n 0, 1) := by decide +kernel
theorem d_Model_distance_19 : decode c_Model_distance 19 = .ok (.aload_n 0, 1) := by decide +kernel
theorem d_Model_distance_20 : decode c_Model_distance 20 = .ok (.getfield 69, 3) := by decide +kernel
theorem d_Model_distance_23 : decode c_Model_distance 23 = .ok (.iload_n 1, 1) := by decide +kernel
theorem d_Model_distance_24 : decode c_Model_distance 24 = .ok (.iaload, 1) := by decide +kernel
theorem d_Model_distance_25 : decode c_Model_distance 25 = .ok (.aload_n 0, 1) := by decide +kernel
theorem d_Model_distance_26 : decode c_Model_distance 26 = .ok (.getfield 72, 3) := by decide +kernel
theorem d_Model_distance_29 : decode c_Model_distance 29 = .ok (.iload_n 1, 1) := by decide +kernel
theorem d_Model_distance_30 : decode c_Model_distance 30 = .ok (.iaload, 1) := by decide +kernel
theorem d_Model_distance_31 : decode c_Model_distance 31 = .ok (.aload_n 0, 1) := by decide +kernel
theorem d_Model_distance_32 : decode c_Model_distance 32 = .ok (.getfield 75, 3) := by decide +kernel
theorem d_Model_distance_35 : decode c_Model_distance 35 = .ok (.iload_n 1, 1) := by decide +kernel
theorem d_Model_distance_36 : decode c_Model_distance 36 = .ok (.iaload, 1) := by decide +kernel
theorem d_Model_distance_37 : decode c_Model_distance 37 = .ok (.invokevirtual 244, 3) := by decide +kernel
theorem d_Model_distance_40 : decode c_Model_distance 40 = .ok (.aload_n 0, 1) := by decide +kernel
theorem d_Model_distance_41 : decode c_Model_distance 41 = .ok (.getfield 232, 3) := by decide +kernel
theorem d_Model_distance_44 : decode c_Model_distance 44 = .ok (.istore_n 3, 1) := by decide +kernel
theorem d_Model_distance_45 : decode c_Model_distance 45 = .ok (.aload_n 0, 1) := by decide +kernel
theorem d_Model_distance_46 : decode c_Model_distance 46 = .ok (.getfield 235, 3) := by decide +kernel
theorem d_Model_distance_49 : decode c_Model_distance 49 = .ok (.istore 4, 2) := by decide +kernel
theorem d_Model_distance_51 : decode c_Model_distance 51 = .ok (.aload_n 0, 1) := by decide +kernel
theorem d_Model_distance_52 : decode c_Model_distance 52 = .ok (.getfield 238, 3) := by decide +kernel
theorem d_Model_distance_55 : decode c_Model_distance 55 = .ok (.istore 5, 2) := by decide +kernel
theorem d_Model_distance_57 : decode c_Model_distance 57 = .ok (.aload_n 0, 1) := by decide +kernel
theorem d_Model_distance_58 : decode c_Model_distance 58 = .ok (.aload_n 0, 1) := by decide +kernel
theorem d_Model_distance_59 : decode c_Model_distance 59 = .ok (.getfield 69, 3) := by decide +kernel
theorem d_Model_distance_62 : decode c_Model_distance 62 = .ok (.iload_n 2, 1) := by decide +kernel
theorem d_Model_distance_63 : decode c_Model_distance 63 = .ok (.iaload, 1) := by decide +kernel
theorem d_Model_distance_64 : decode c_Model_distance 64 = .ok (.aload_n 0, 1) := by decide +kernel
theorem d_Model_distance_65 : decode c_Model_distance 65 = .ok (.getfield 72, 3) := by decide +kernel
theorem d_Model_distance_68 : decode c_Model_distance 68 = .ok (.iload_n 2, 1) := by decide +kernel
theorem d_Model_distance_69 : decode c_Model_distance 69 = .ok (.iaload, 1) := by decide +kernel
theorem d_Model_distance_70 : decode c_Model_distance 70 = .ok (.aload_n 0, 1) := by decide +kernel
theorem d_Model_distance_71 : decode c_Model_distance 71 = .ok (.getfield 75, 3) := by decide +kernel
theorem d_Model_distance_74 : decode c_Model_distance 74 = .ok (.iload_n 2, 1) := by decide +kernel
theorem d_Model_distance_75 : decode c_Model_distance 75 = .ok (.iaload, 1) := by decide +kernel
theorem d_Model_distance_76 : decode c_Model_distance 76 = .ok (.invokevirtual 244, 3) := by decide +kernel
theorem d_Model_distance_79 : decode c_Model_distance 79 = .ok (.iload_n 3, 1) := by decide +kernel
theorem d_Model_distance_80 : decode c_Model_distance 80 = .ok (.aload_n 0, 1) := by decide +kernel
theorem d_Model_distance_81 : decode c_Model_distance 81 = .ok (.getfield 232, 3) := by decide +kernel
theorem d_Model_distance_84 : decode c_Model_distance 84 = .ok (.if_icmp .eq (8), 3) := by decide +kernel
theorem d_Model_distance_87 : decode c_Model_distance 87 = .ok (.bipush (80), 2) := by decide +kernel
theorem d_Model_distance_89 : decode c_Model_distance 89 = .ok (.goto (4), 3) := by decide +kernel
theorem d_Model_distance_92 : decode c_Model_distance 92 = .ok (.iconst 0, 1) := by decide +kernel
theorem d_Model_distance_93 : decode c_Model_distance 93 = .ok (.iload 4, 2) := by decide +kernel
theorem d_Model_distance_95 : decode c_Model_distance 95 = .ok (.aload_n 0, 1) := by decide +kernel
theorem d_Model_distance_96 : decode c_Model_distance 96 = .ok (.getfield 235, 3) := by decide +kernel
theorem d_Model_distance_99 : decode c_Model_distance 99 = .ok (.if_icmp .eq (8), 3) := by decide +kernel
theorem d_Model_distance_102 : decode c_Model_distance 102 = .ok (.bipush (40), 2) := by decide +kernel
theorem d_Model_distance_104 : decode c_Model_distance 104 = .ok (.goto (4), 3) := by decide +kernel
theorem d_Model_distance_107 : decode c_Model_distance 107 = .ok (.iconst 0, 1) := by decide +kernel
theorem d_Model_distance_108 : decode c_Model_distance 108 = .ok (.iadd, 1) := by decide +kernel
theorem d_Model_distance_109 : decode c_Model_distance 109 = .ok (.istore 6, 2) := by decide +kernel
theorem d_Model_distance_111 : decode c_Model_distance 111 = .ok (.iload 5, 2) := by decide +kernel
theorem d_Model_distance_113 : decode c_Model_distance 113 = .ok (.aload_n 0, 1) := by decide +kernel
theorem d_Model_distance_114 : decode c_Model_distance 114 = .ok (.getfield 238, 3) := by decide +kernel
theorem d_Model_distance_117 : decode c_Model_distance 117 = .ok (.if_icmp .ne (8), 3) := by decide +kernel
theorem d_Model_distance_120 : decode c_Model_distance 120 = .ok (.iload 6, 2) := by decide +kernel
theorem d_Model_distance_122 : decode c_Model_distance 122 = .ok (.goto (26), 3) := by decide +kernel
theorem d_Model_distance_125 : decode c_Model_distance 125 = .ok (.iload 5, 2) := by decide +kernel
theorem d_Model_distance_127 : decode c_Model_distance 127 = .ok (.ifCond .le (17), 3) := by decide +kernel
theorem d_Model_distance_130 : decode c_Model_distance 130 = .ok (.aload_n 0, 1) := by decide +kernel
theorem d_Model_distance_131 : decode c_Model_distance 131 = .ok (.getfield 238, 3) := by decide +kernel
theorem d_Model_distance_134 : decode c_Model_distance 134 = .ok (.ifCond .le (10), 3) := by decide +kernel
theorem d_Model_distance_137 : decode c_Model_distance 137 = .ok (.iload 6, 2) := by decide +kernel
theorem d_Model_distance_139 : decode c_Model_distance 139 = .ok (.iconst 5, 1) := by decide +kernel
theorem d_Model_distance_140 : decode c_Model_distance 140 = .ok (.iadd, 1) := by decide +kernel
theorem d_Model_distance_141 : decode c_Model_distance 141 = .ok (.goto (7), 3) := by decide +kernel
theorem d_Model_distance_144 : decode c_Model_distance 144 = .ok (.iload 6, 2) := by decide +kernel
theorem d_Model_distance_146 : decode c_Model_distance 146 = .ok (.iconst 2, 1) := by decide +kernel
theorem d_Model_distance_147 : decode c_Model_distance 147 = .ok (.iadd, 1) := by decide +kernel
theorem d_Model_distance_148 : decode c_Model_distance 148 = .ok (.ireturn, 1) := by decide +kernel
def sh_Model_distance_16 (F : Nat)  (w : im_W) : Option (Int32 × im_W) :=
  some ((-1 : Int32), w)
set_option maxHeartbeats 4000000 in
set_option maxRecDepth 100000 in
theorem bk_Model_distance_16 {F : Nat} {r : Int32 × im_W} (X : im_X D vwCl tA lo im_NW c_Model_distance 7 (some .int) RC_Model im_T p s m args meth c)  (w : im_W) (hsh : sh_Model_distance_16 F w = some r) : im_WW D vwCl tA lo 7 p l e (im_rm 2 49) s m args below meth c 0 0 (MQ below (im_Post D vwCl tA lo (some (.int r.1)) r.2) args s 0 0 (fun q => lo ≤ q)) 16 [] [] w := by
  obtain ⟨hx, hb, hr, hts, hown, hlk, hml, hK, hN⟩ := id X
  intro H locs ls hH hl
  unfold sh_Model_distance_16 at hsh
  refine lv_iconst (v := -1) hx hb d_Model_distance_16 (by decide) ?_
  obtain rfl := Option.some.inj hsh
  exact im_iret hx hb hr hlk hH d_Model_distance_17
def sh_Model_distance_148 (F : Nat) (y0 : Int32) (w : im_W) : Option (Int32 × im_W) :=
  some (y0, w)
set_option maxHeartbeats 4000000 in
set_option maxRecDepth 100000 in
theorem bk_Model_distance_148 {F : Nat} {r : Int32 × im_W} (X : im_X D vwCl tA lo im_NW c_Model_distance 7 (some .int) RC_Model im_T p s m args meth c) (y0 : Int32) (w : im_W) (hsh : sh_Model_distance_148 F y0 w = some r) : im_WW D vwCl tA lo 7 p l e (im_rm 2 49) s m args below meth c 0 0 (MQ below (im_Post D vwCl tA lo (some (.int r.1)) r.2) args s 0 0 (fun q => lo ≤ q)) 148 [] [.int y0] w := by
  obtain ⟨hx, hb, hr, hts, hown, hlk, hml, hK, hN⟩ := id X
  intro H locs ls hH hl
  unfold sh_Model_distance_148 at hsh
  obtain rfl := Option.some.inj hsh
  exact im_iret hx hb hr hlk hH d_Model_distance_148
def sh_Model_distance_144 (F : Nat) (x6 : Int32) (w : im_W) : Option (Int32 × im_W) :=
  sh_Model_distance_148 F (x6 + (2 : Int32)) w
set_option maxHeartbeats 4000000 in
set_option maxRecDepth 100000 in
theorem bk_Model_distance_144 {F : Nat} {r : Int32 × im_W} (X : im_X D vwCl tA lo im_NW c_Model_distance 7 (some .int) RC_Model im_T p s m args meth c) (x6 : Int32) (w : im_W) (hsh : sh_Model_distance_144 F x6 w = some r) : im_WW D vwCl tA lo 7 p l e (im_rm 2 49) s m args below meth c 0 0 (MQ below (im_Post D vwCl tA lo (some (.int r.1)) r.2) args s 0 0 (fun q => lo ≤ q)) 144 [(6, .int x6)] [] w := by
  obtain ⟨hx, hb, hr, hts, hown, hlk, hml, hK, hN⟩ := id X
  intro H locs ls hH hl
  unfold sh_Model_distance_144 at hsh
  refine lv_iload hx hb d_Model_distance_144 (lv_at hl 0 rfl) ?_
  refine lv_iconst (v := 2) hx hb d_Model_distance_146 (by decide) ?_
  refine lv_iadd hx hb d_Model_distance_147 ?_
  exact bk_Model_distance_148 X (x6 + (2 : Int32)) w hsh H locs ls hH (lv_sub hl [] rfl)
def sh_Model_distance_108 (F : Nat) (x0 : Nat) (x5 : Int32) (y0 : Int32) (y1 : Int32) (w : im_W) : Option (Int32 × im_W) :=
  (im_gI w 9 x0 30).bind fun f1 => (if x5 = f1 then sh_Model_distance_148 F (y1 + y0) w else (if x5 ≤ 0 then sh_Model_distance_144 F (y1 + y0) w else (im_gI w 9 x0 30).bind fun f3 => (if f3 ≤ 0 then sh_Model_distance_144 F (y1 + y0) w else sh_Model_distance_148 F ((y1 + y0) + (5 : Int32)) w)))
set_option maxHeartbeats 4000000 in
set_option maxRecDepth 100000 in
theorem bk_Model_distance_108 {F : Nat} {r : Int32 × im_W} (X : im_X D vwCl tA lo im_NW c_Model_distance 7 (some .int) RC_Model im_T p s m args meth c) (x0 : Nat) (x5 : Int32) (y0 : Int32) (y1 : Int32) (w : im_W) (hsh : sh_Model_distance_108 F x0 x5 y0 y1 w = some r) : im_WW D vwCl tA lo 7 p l e (im_rm 2 49) s m args below meth c 0 0 (MQ below (im_Post D vwCl tA lo (some (.int r.1)) r.2) args s 0 0 (fun q => lo ≤ q)) 108 [(0, .ref (lo + x0)), (5, .int x5)] [.int y0, .int y1] w := by
  obtain ⟨hx, hb, hr, hts, hown, hlk, hml, hK, hN⟩ := id X
  intro H locs ls hH hl
  unfold sh_Model_distance_108 at hsh
  refine lv_iadd hx hb d_Model_distance_108 ?_
  refine lv_istore (lv' := [(6, .int (y1 + y0)), (0, .ref (lo + x0)), (5, .int x5)]) hx hb d_Model_distance_109 hl (by decide) rfl (fun ls hl => ?_)
  refine lv_iload hx hb d_Model_distance_111 (lv_at hl 2 rfl) ?_
  refine lv_aload_n hx hb d_Model_distance_113 rfl (lv_at hl 1 rfl) ?_
  obtain ⟨f1, h2, hsh⟩ := im_bd hsh
  refine im_getI hx hb hts inC_Model hown hK hH (ci := 9) rfl 30 (by decide) (hts _ wd_661) rfl h2 d_Model_distance_114 ?_
  refine lv_icmp_ne (tgt := 125) hx hb d_Model_distance_117 (by decide) (fun cc => ?_) (fun cc => ?_)
  · have hsh := im_if hsh cc
    refine lv_iload hx hb d_Model_distance_125 (lv_at hl 2 rfl) ?_
    refine lv_if_le (tgt := 144) hx hb d_Model_distance_127 (by decide) (fun cc => ?_) (fun cc => ?_)
    · have hsh := im_it hsh cc
      exact bk_Model_distance_144 X (y1 + y0) w hsh H locs ls hH (lv_sub hl [0] rfl)
    · have hsh := im_if hsh cc
      refine lv_aload_n hx hb d_Model_distance_130 rfl (lv_at hl 1 rfl) ?_
      obtain ⟨f3, h4, hsh⟩ := im_bd hsh
      refine im_getI hx hb hts inC_Model hown hK hH (ci := 9) rfl 30 (by decide) (hts _ wd_661) rfl h4 d_Model_distance_131 ?_
      refine lv_if_le (tgt := 144) hx hb d_Model_distance_134 (by decide) (fun cc => ?_) (fun cc => ?_)
      · have hsh := im_it hsh cc
        exact bk_Model_distance_144 X (y1 + y0) w hsh H locs ls hH (lv_sub hl [0] rfl)
      · have hsh := im_if hsh cc
        refine lv_iload hx hb d_Model_distance_137 (lv_at hl 0 rfl) ?_
        refine lv_iconst (v := 5) hx hb d_Model_distance_139 (by decide) ?_
        refine lv_iadd hx hb d_Model_distance_140 ?_
        refine lv_goto (tgt := 148) hx hb d_Model_distance_141 (by decide) ?_
        exact bk_Model_distance_148 X ((y1 + y0) + (5 : Int32)) w hsh H locs ls hH (lv_sub hl [] rfl)
  · have hsh := im_it hsh cc
    refine lv_iload hx hb d_Model_distance_120 (lv_at hl 0 rfl) ?_
    refine lv_goto (tgt := 148) hx hb d_Model_distance_122 (by decide) ?_
    exact bk_Model_distance_148 X (y1 + y0) w hsh H locs ls hH (lv_sub hl [] rfl)
def sh_Model_distance_93 (F : Nat) (x0 : Nat) (x4 : Int32) (x5 : Int32) (y0 : Int32) (w : im_W) : Option (Int32 × im_W) :=
  (im_gI w 9 x0 29).bind fun f1 => (if x4 = f1 then sh_Model_distance_108 F x0 x5 (0 : Int32) y0 w else sh_Model_distance_108 F x0 x5 (40 : Int32) y0 w)
set_option maxHeartbeats 4000000 in
set_option maxRecDepth 100000 in
theorem bk_Model_distance_93 {F : Nat} {r : Int32 × im_W} (X : im_X D vwCl tA lo im_NW c_Model_distance 7 (some .int) RC_Model im_T p s m args meth c) (x0 : Nat) (x4 : Int32) (x5 : Int32) (y0 : Int32) (w : im_W) (hsh : sh_Model_distance_93 F x0 x4 x5 y0 w = some r) : im_WW D vwCl tA lo 7 p l e (im_rm 2 49) s m args below meth c 0 0 (MQ below (im_Post D vwCl tA lo (some (.int r.1)) r.2) args s 0 0 (fun q => lo ≤ q)) 93 [(0, .ref (lo + x0)), (4, .int x4), (5, .int x5)] [.int y0] w := by
  obtain ⟨hx, hb, hr, hts, hown, hlk, hml, hK, hN⟩ := id X
  intro H locs ls hH hl
  unfold sh_Model_distance_93 at hsh
  refine lv_iload hx hb d_Model_distance_93 (lv_at hl 1 rfl) ?_
  refine lv_aload_n hx hb d_Model_distance_95 rfl (lv_at hl 0 rfl) ?_
  obtain ⟨f1, h2, hsh⟩ := im_bd hsh
  refine im_getI hx hb hts inC_Model hown hK hH (ci := 9) rfl 29 (by decide) (hts _ wd_660) rfl h2 d_Model_distance_96 ?_
  refine lv_icmp_eq (tgt := 107) hx hb d_Model_distance_99 (by decide) (fun cc => ?_) (fun cc => ?_)
  · have hsh := im_it hsh cc
    refine lv_iconst (v := 0) hx hb d_Model_distance_107 (by decide) ?_
    exact bk_Model_distance_108 X x0 x5 (0 : Int32) y0 w hsh H locs ls hH (lv_sub hl [0, 2] rfl)
  · have hsh := im_if hsh cc
    refine lv_bipush (v := 40) hx hb d_Model_distance_102 (by decide) ?_
    refine lv_goto (tgt := 108) hx hb d_Model_distance_104 (by decide) ?_
    exact bk_Model_distance_108 X x0 x5 (40 : Int32) y0 w hsh H locs ls hH (lv_sub hl [0, 2] rfl)
def sh_Model_distance (F : Nat) (x0 : Nat) (x1 : Int32) (x2 : Int32) (w : im_W) : Option (Int32 × im_W) :=
  (im_is w 9 x0).bind fun u1 => im_b2 (sh_Model_none F x0 x1 w) fun v7 w5 => (if v7 = 0 then (im_is w5 9 x0).bind fun u8 => im_b2 (sh_Model_none F x0 x2 w5) fun v14 w12 => (if v14 = 0 then (im_gR w12 9 x0 34).bind fun f15 => (im_lI w12 0 f15 x1).bind fun e17 => (im_gR w12 9 x0 35).bind fun f19 => (im_lI w12 0 f19 x1).bind fun e21 => (im_gR w12 9 x0 36).bind fun f23 => (im_lI w12 0 f23 x1).bind fun e25 => (im_is w12 9 x0).bind fun u27 => (sh_Model_maximise F x0 e17 e21 e25 w12).bind fun w31 => (im_gI w31 9 x0 28).bind fun f33 => (im_gI w31 9 x0 29).bind fun f35 => (im_gI w31 9 x0 30).bind fun f37 => (im_gR w31 9 x0 34).bind fun f39 => (im_lI w31 0 f39 x2).bind fun e41 => (im_gR w31 9 x0 35).bind fun f43 => (im_lI w31 0 f43 x2).bind fun e45 => (im_gR w31 9 x0 36).bind fun f47 => (im_lI w31 0 f47 x2).bind fun e49 => (im_is w31 9 x0).bind fun u51 => (sh_Model_maximise F x0 e41 e45 e49 w31).bind fun w55 => (im_gI w55 9 x0 28).bind fun f57 => (if f33 = f57 then sh_Model_distance_93 F x0 f35 f37 (0 : Int32) w55 else sh_Model_distance_93 F x0 f35 f37 (80 : Int32) w55) else sh_Model_distance_16 F w12) else sh_Model_distance_16 F w5)
set_option maxHeartbeats 4000000 in
set_option maxRecDepth 100000 in
theorem met_Model_distance {F : Nat} {x0 : Nat} {x1 : Int32} {x2 : Int32} {w : im_W} {r : Int32 × im_W} (hsh : sh_Model_distance F x0 x1 x2 w = some r) : Met l y_Model_distance (Cond.code y_Model_distance c_Model_distance 7 (some .int) :: im_T) (im_rm 2 49) (im_Pre D vwCl tA lo im_NW [.ref (lo + x0), .int x1, .int x2] w) (im_Post D vwCl tA lo (some (.int r.1)) r.2) 0 0 (fun q => lo ≤ q) := by
  refine im_ofW (cc := c_Model_distance) (nL := 7) (ret := (some .int)) (by decide) (Nat.le_of_ble_eq_true rfl) ?_
  intro p e s m args below meth c X H locs ls hH hl
  obtain ⟨hx, hb, hr, hts, hown, hlk, hml, hK, hN⟩ := id X
  have hl : lv_has ls 7 [(0, .ref (lo + x0)), (1, .int x1), (2, .int x2)] := hl
  unfold sh_Model_distance at hsh
  refine lv_aload_n hx hb d_Model_distance_0 rfl (lv_at hl 0 rfl) ?_
  refine lv_iload_n hx hb d_Model_distance_1 rfl (lv_at hl 1 rfl) ?_
  obtain ⟨u1, h2, hsh⟩ := im_bd hsh
  obtain ⟨g3, h4⟩ := im_is_s h2
  obtain ⟨v7, w5, h6, hsh⟩ := im_bd2 hsh
  refine im_afterI (va_runV (As := [.int x1]) (rest := []) (C := RC_Model) ⟨hx, hb, hml, hown, hts⟩ (met_Model_none h6) ⟨(callB_of 1 hts (im_good wd_915) rfl rfl rfl (hts _ wd_10) (hts _ wd_912) (by decide +kernel) ⟨Nat.le_of_ble_eq_true rfl, Nat.le_of_ble_eq_true rfl⟩), hts _ wd_914, hts _ sl_Model_none⟩ (im_preV im_NW_ok hK hN hH (ci := 9) rfl rfl h4 _) rfl rfl hl.1 rfl (lv_room (Nat.le_of_ble_eq_true rfl)) d_Model_distance_2 ⟨Nat.le_of_ble_eq_true rfl, Nat.le_of_ble_eq_true rfl⟩) hH (fun H locs hH => ?_)
  refine lv_if_ne (tgt := 16) hx hb d_Model_distance_5 (by decide) (fun cc => ?_) (fun cc => ?_)
  · have hsh := im_if hsh cc
    exact bk_Model_distance_16 X w5 hsh H locs ls hH (lv_sub hl [] rfl)
  · have hsh := im_it hsh cc
    refine lv_aload_n hx hb d_Model_distance_8 rfl (lv_at hl 0 rfl) ?_
    refine lv_iload_n hx hb d_Model_distance_9 rfl (lv_at hl 2 rfl) ?_
    obtain ⟨u8, h9, hsh⟩ := im_bd hsh
    obtain ⟨g10, h11⟩ := im_is_s h9
    obtain ⟨v14, w12, h13, hsh⟩ := im_bd2 hsh
    refine im_afterI (va_runV (As := [.int x2]) (rest := []) (C := RC_Model) ⟨hx, hb, hml, hown, hts⟩ (met_Model_none h13) ⟨(callB_of 1 hts (im_good wd_915) rfl rfl rfl (hts _ wd_10) (hts _ wd_912) (by decide +kernel) ⟨Nat.le_of_ble_eq_true rfl, Nat.le_of_ble_eq_true rfl⟩), hts _ wd_914, hts _ sl_Model_none⟩ (im_preV im_NW_ok hK hN hH (ci := 9) rfl rfl h11 _) rfl rfl hl.1 rfl (lv_room (Nat.le_of_ble_eq_true rfl)) d_Model_distance_10 ⟨Nat.le_of_ble_eq_true rfl, Nat.le_of_ble_eq_true rfl⟩) hH (fun H locs hH => ?_)
    refine lv_if_eq (tgt := 18) hx hb d_Model_distance_13 (by decide) (fun cc => ?_) (fun cc => ?_)
    · have hsh := im_it hsh cc
      refine lv_aload_n hx hb d_Model_distance_18 rfl (lv_at hl 0 rfl) ?_
      refine lv_aload_n hx hb d_Model_distance_19 rfl (lv_at hl 0 rfl) ?_
      obtain ⟨f15, h16, hsh⟩ := im_bd hsh
      refine im_getR hx hb hts inC_Model hown hK hH (ci := 9) rfl 34 (by decide) (hts _ wd_665) rfl h16 d_Model_distance_20 ?_
      refine lv_iload_n hx hb d_Model_distance_23 rfl (lv_at hl 1 rfl) ?_
      obtain ⟨e17, h18, hsh⟩ := im_bd hsh
      refine im_iald hx hb hK hH h18 d_Model_distance_24 ?_
      refine lv_aload_n hx hb d_Model_distance_25 rfl (lv_at hl 0 rfl) ?_
      obtain ⟨f19, h20, hsh⟩ := im_bd hsh
      refine im_getR hx hb hts inC_Model hown hK hH (ci := 9) rfl 35 (by decide) (hts _ wd_666) rfl h20 d_Model_distance_26 ?_
      refine lv_iload_n hx hb d_Model_distance_29 rfl (lv_at hl 1 rfl) ?_
      obtain ⟨e21, h22, hsh⟩ := im_bd hsh
      refine im_iald hx hb hK hH h22 d_Model_distance_30 ?_
      refine lv_aload_n hx hb d_Model_distance_31 rfl (lv_at hl 0 rfl) ?_
      obtain ⟨f23, h24, hsh⟩ := im_bd hsh
      refine im_getR hx hb hts inC_Model hown hK hH (ci := 9) rfl 36 (by decide) (hts _ wd_667) rfl h24 d_Model_distance_32 ?_
      refine lv_iload_n hx hb d_Model_distance_35 rfl (lv_at hl 1 rfl) ?_
      obtain ⟨e25, h26, hsh⟩ := im_bd hsh
      refine im_iald hx hb hK hH h26 d_Model_distance_36 ?_
      obtain ⟨u27, h28, hsh⟩ := im_bd hsh
      obtain ⟨g29, h30⟩ := im_is_s h28
      obtain ⟨w31, h32, hsh⟩ := im_bd hsh
      refine im_afterV (va_runV (As := [.int e17, .int e21, .int e25]) (rest := []) (C := RC_Model) ⟨hx, hb, hml, hown, hts⟩ (met_Model_maximise h32) ⟨(callB_of 3 hts (im_good wd_919) rfl rfl rfl (hts _ wd_10) (hts _ wd_916) (by decide +kernel) ⟨Nat.le_of_ble_eq_true rfl, Nat.le_of_ble_eq_true rfl⟩), hts _ wd_918, hts _ sl_Model_maximise⟩ (im_preV im_NW_ok hK hN hH (ci := 9) rfl rfl h30 _) rfl rfl hl.1 rfl (lv_room (Nat.le_of_ble_eq_true rfl)) d_Model_distance_37 ⟨Nat.le_of_ble_eq_true rfl, Nat.le_of_ble_eq_true rfl⟩) hH (fun H locs hH => ?_)
      refine lv_aload_n hx hb d_Model_distance_40 rfl (lv_at hl 0 rfl) ?_
      obtain ⟨f33, h34, hsh⟩ := im_bd hsh
      refine im_getI hx hb hts inC_Model hown hK hH (ci := 9) rfl 28 (by decide) (hts _ wd_659) rfl h34 d_Model_distance_41 ?_
      refine lv_istore_n (lv' := [(3, .int f33), (0, .ref (lo + x0)), (1, .int x1), (2, .int x2)]) hx hb d_Model_distance_44 rfl hl (by decide) rfl (fun ls hl => ?_)
      refine lv_aload_n hx hb d_Model_distance_45 rfl (lv_at hl 1 rfl) ?_
      obtain ⟨f35, h36, hsh⟩ := im_bd hsh
      refine im_getI hx hb hts inC_Model hown hK hH (ci := 9) rfl 29 (by decide) (hts _ wd_660) rfl h36 d_Model_distance_46 ?_
      refine lv_istore (lv' := [(4, .int f35), (3, .int f33), (0, .ref (lo + x0)), (1, .int x1), (2, .int x2)]) hx hb d_Model_distance_49 hl (by decide) rfl (fun ls hl => ?_)
      refine lv_aload_n hx hb d_Model_distance_51 rfl (lv_at hl 2 rfl) ?_
      obtain ⟨f37, h38, hsh⟩ := im_bd hsh
      refine im_getI hx hb hts inC_Model hown hK hH (ci := 9) rfl 30 (by decide) (hts _ wd_661) rfl h38 d_Model_distance_52 ?_
      refine lv_istore (lv' := [(5, .int f37), (4, .int f35), (3, .int f33), (0, .ref (lo + x0)), (1, .int x1), (2, .int x2)]) hx hb d_Model_distance_55 hl (by decide) rfl (fun ls hl => ?_)
      refine lv_aload_n hx hb d_Model_distance_57 rfl (lv_at hl 3 rfl) ?_
      refine lv_aload_n hx hb d_Model_distance_58 rfl (lv_at hl 3 rfl) ?_
      obtain ⟨f39, h40, hsh⟩ := im_bd hsh
      refine im_getR hx hb hts inC_Model hown hK hH (ci := 9) rfl 34 (by decide) (hts _ wd_665) rfl h40 d_Model_distance_59 ?_
      refine lv_iload_n hx hb d_Model_distance_62 rfl (lv_at hl 5 rfl) ?_
      obtain ⟨e41, h42, hsh⟩ := im_bd hsh
      refine im_iald hx hb hK hH h42 d_Model_distance_63 ?_
      refine lv_aload_n hx hb d_Model_distance_64 rfl (lv_at hl 3 rfl) ?_
      obtain ⟨f43, h44, hsh⟩ := im_bd hsh
      refine im_getR hx hb hts inC_Model hown hK hH (ci := 9) rfl 35 (by decide) (hts _ wd_666) rfl h44 d_Model_distance_65 ?_
      refine lv_iload_n hx hb d_Model_distance_68 rfl (lv_at hl 5 rfl) ?_
      obtain ⟨e45, h46, hsh⟩ := im_bd hsh
      refine im_iald hx hb hK hH h46 d_Model_distance_69 ?_
      refine lv_aload_n hx hb d_Model_distance_70 rfl (lv_at hl 3 rfl) ?_
      obtain ⟨f47, h48, hsh⟩ := im_bd hsh
      refine im_getR hx hb hts inC_Model hown hK hH (ci := 9) rfl 36 (by decide) (hts _ wd_667) rfl h48 d_Model_distance_71 ?_
      refine lv_iload_n hx hb d_Model_distance_74 rfl (lv_at hl 5 rfl) ?_
      obtain ⟨e49, h50, hsh⟩ := im_bd hsh
      refine im_iald hx hb hK hH h50 d_Model_distance_75 ?_
      obtain ⟨u51, h52, hsh⟩ := im_bd hsh
      obtain ⟨g53, h54⟩ := im_is_s h52
      obtain ⟨w55, h56, hsh⟩ := im_bd hsh
      refine im_afterV (va_runV (As := [.int e41, .int e45, .int e49]) (rest := []) (C := RC_Model) ⟨hx, hb, hml, hown, hts⟩ (met_Model_maximise h56) ⟨(callB_of 3 hts (im_good wd_919) rfl rfl rfl (hts _ wd_10) (hts _ wd_916) (by decide +kernel) ⟨Nat.le_of_ble_eq_true rfl, Nat.le_of_ble_eq_true rfl⟩), hts _ wd_918, hts _ sl_Model_maximise⟩ (im_preV im_NW_ok hK hN hH (ci := 9) rfl rfl h54 _) rfl rfl hl.1 rfl (lv_room (Nat.le_of_ble_eq_true rfl)) d_Model_distance_76 ⟨Nat.le_of_ble_eq_true rfl, Nat.le_of_ble_eq_true rfl⟩) hH (fun H locs hH => ?_)
      refine lv_iload_n hx hb d_Model_distance_79 rfl (lv_at hl 2 rfl) ?_
      refine lv_aload_n hx hb d_Model_distance_80 rfl (lv_at hl 3 rfl) ?_
      obtain ⟨f57, h58, hsh⟩ := im_bd hsh
      refine im_getI hx hb hts inC_Model hown hK hH (ci := 9) rfl 28 (by decide) (hts _ wd_659) rfl h58 d_Model_distance_81 ?_
      refine lv_icmp_eq (tgt := 92) hx hb d_Model_distance_84 (by decide) (fun cc => ?_) (fun cc => ?_)
      · have hsh := im_it hsh cc
        refine lv_iconst (v := 0) hx hb d_Model_distance_92 (by decide) ?_
        exact bk_Model_distance_93 X x0 f35 f37 (0 : Int32) w55 hsh H locs ls hH (lv_sub hl [3, 1, 0] rfl)
      · have hsh := im_if hsh cc
        refine lv_bipush (v := 80) hx hb d_Model_distance_87 (by decide) ?_
        refine lv_goto (tgt := 93) hx hb d_Model_distance_89 (by decide) ?_
        exact bk_Model_distance_93 X x0 f35 f37 (80 : Int32) w55 hsh H locs ls hH (lv_sub hl [3, 1, 0] rfl)
    · have hsh := im_if hsh cc
      exact bk_Model_distance_16 X w12 hsh H locs ls hH (lv_sub hl [] rfl)
theorem wd_977 : (Jvm.Cond.instanceMethod ({ cls := "LanguageTagsModel", name := "distance", desc := "(II)I" } : Jvm.MethodName)) ∈ im_T := im_memT (i := 977) (by decide +kernel) (by decide +kernel)
theorem wd_978 : (Jvm.Cond.selects "LanguageTagsModel" ({ cls := "LanguageTagsModel", name := "distance", desc := "(II)I" } : Jvm.MethodName) ({ cls := "LanguageTagsModel", name := "distance", desc := "(II)I" } : Jvm.MethodName)) ∈ im_T := im_memT (i := 978) (by decide +kernel) (by decide +kernel)
theorem wd_979 : (Jvm.Cond.code ({ cls := "LanguageTagsModel", name := "distance", desc := "(II)I" } : Jvm.MethodName) prog_12_method_55_code (7 : Nat) (Option.some Jvm.ClassFile.FieldType.int)) ∈ im_T := im_memT (i := 979) (by decide +kernel) (by decide +kernel)
theorem wd_984 : (Jvm.Cond.methodLink "LanguageTagsModel" (286 : Nat) ({ cls := "LanguageTagsModel", name := "distance", desc := "(II)I" } : Jvm.MethodName)) ∈ im_T := im_memT (i := 984) (by decide +kernel) (by decide +kernel)
theorem d_Model_best_0 : decode c_Model_best 0 = .ok (.iconst (-1), 1) := by decide +kernel
theorem d_Model_best_1 : decode c_Model_best 1 = .ok (.istore_n 2, 1) := by decide +kernel
theorem d_Model_best_2 : decode c_Model_best 2 = .ok (.bipush (50), 2) := by decide +kernel
theorem d_Model_best_4 : decode c_Model_best 4 = .ok (.istore_n 3, 1) := by decide +kernel
theorem d_Model_best_5 : decode c_Model_best 5 = .ok (.iconst 0, 1) := by decide +kernel
theorem d_Model_best_6 : decode c_Model_best 6 = .ok (.istore 4, 2) := by decide +kernel
theorem d_Model_best_8 : decode c_Model_best 8 = .ok (.iload 4, 2) := by decide +kernel
theorem d_Model_best_10 : decode c_Model_best 10 = .ok (.aload_n 0, 1) := by decide +kernel
theorem d_Model_best_11 : decode c_Model_best 11 = .ok (.getfield 262, 3) := by decide +kernel
theorem d_Model_best_14 : decode c_Model_best 14 = .ok (.if_icmp .ge (62), 3) := by decide +kernel
theorem d_Model_best_17 : decode c_Model_best 17 = .ok (.aload_n 0, 1) := by decide +kernel
theorem d_Model_best_18 : decode c_Model_best 18 = .ok (.iload_n 1, 1) := by decide +kernel
theorem d_Model_best_19 : decode c_Model_best 19 = .ok (.invokevirtual 251, 3) := by decide +kernel
theorem d_Model_best_22 : decode c_Model_best 22 = .ok (.ifCond .ne (54), 3) := by decide +kernel
theorem d_Model_best_25 : decode c_Model_best 25 = .ok (.aload_n 0, 1) := by decide +kernel
theorem d_Model_best_26 : decode c_Model_best 26 = .ok (.iload_n 1, 1) := by decide +kernel
theorem d_Model_best_27 : decode c_Model_best 27 = .ok (.aload_n 0, 1) := by decide +kernel
theorem d_Model_best_28 : decode c_Model_best 28 = .ok (.getfield 84, 3) := by decide +kernel
theorem d_Model_best_31 : decode c_Model_best 31 = .ok (.iload 4, 2) := by decide +kernel
theorem d_Model_best_33 : decode c_Model_best 33 = .ok (.iaload, 1) := by decide +kernel
theorem d_Model_best_34 : decode c_Model_best 34 = .ok (.invokevirtual 286, 3) := by decide +kernel
theorem d_Model_best_37 : decode c_Model_best 37 = .ok (.istore 5, 2) := by decide +kernel
theorem d_Model_best_39 : decode c_Model_best 39 = .ok (.iload 5, 2) := by decide +kernel
theorem d_Model_best_41 : decode c_Model_best 41 = .ok (.iload_n 3, 1) := by decide +kernel
theorem d_Model_best_42 : decode c_Model_best 42 = .ok (.if_icmp .ge (13), 3) := by decide +kernel
theorem d_Model_best_45 : decode c_Model_best 45 = .ok (.aload_n 0, 1) := by decide +kernel
theorem d_Model_best_46 : decode c_Model_best 46 = .ok (.getfield 84, 3) := by decide +kernel
theorem d_Model_best_49 : decode c_Model_best 49 = .ok (.iload 4, 2) := by decide +kernel
theorem d_Model_best_51 : decode c_Model_best 51 = .ok (.iaload, 1) := by decide +kernel
theorem d_Model_best_52 : decode c_Model_best 52 = .ok (.goto (4), 3) := by decide +kernel
theorem d_Model_best_55 : decode c_Model_best 55 = .ok (.iload_n 2, 1) := by decide +kernel
theorem d_Model_best_56 : decode c_Model_best 56 = .ok (.istore_n 2, 1) := by decide +kernel
theorem d_Model_best_57 : decode c_Model_best 57 = .ok (.iload 5, 2) := by decide +kernel
theorem d_Model_best_59 : decode c_Model_best 59 = .ok (.iload_n 3, 1) := by decide +kernel
theorem d_Model_best_60 : decode c_Model_best 60 = .ok (.if_icmp .ge (8), 3) := by decide +kernel
theorem d_Model_best_63 : decode c_Model_best 63 = .ok (.iload 5, 2) := by decide +kernel
theorem d_Model_best_65 : decode c_Model_best 65 = .ok (.goto (4), 3) := by decide +kernel
theorem d_Model_best_68 : decode c_Model_best 68 = .ok (.iload_n 3, 1) := by decide +kernel
theorem d_Model_best_69 : decode c_Model_best 69 = .ok (.istore_n 3, 1) := by decide +kernel
theorem d_Model_best_70 : decode c_Model_best 70 = .ok (.iinc 4 (1), 3) := by decide +kernel
theorem d_Model_best_73 : decode c_Model_best 73 = .ok (.goto (-65), 3) := by decide +kernel
theorem d_Model_best_76 : decode c_Model_best 76 = .ok (.iload_n 2, 1) := by decide +kernel
theorem d_Model_best_77 : decode c_Model_best 77 = .ok (.ireturn, 1) := by decide +kernel
def sh_Model_best_69 (F : Nat) (k8 : Nat → Int32 → Int32 → Int32 → Int32 → im_W → Option (Int32 × im_W)) (x0 : Nat) (x1 : Int32) (x2 : Int32) (x4 : Int32) (y0 : Int32) (w : im_W) : Option (Int32 × im_W) :=
  k8 x0 x1 x2 y0 (x4 + (1 : Int32)) w
set_option maxHeartbeats 4000000 in
set_option maxRecDepth 100000 in
theorem bk_Model_best_69 {F : Nat} {r : Int32 × im_W} (X : im_X D vwCl tA lo im_NW c_Model_best 6 (some .int) RC_Model im_T p s m args meth c) {k8 : Nat → Int32 → Int32 → Int32 → Int32 → im_W → Option (Int32 × im_W)} (hk8 : ∀ (x0 : Nat) (x1 : Int32) (x2 : Int32) (x3 : Int32) (x4 : Int32) (w : im_W), k8 x0 x1 x2 x3 x4 w = some r → im_WW D vwCl tA lo 6 p l e (im_rm 3 75) s m args below meth c 0 0 (MQ below (im_Post D vwCl tA lo (some (.int r.1)) r.2) args s 0 0 (fun q => lo ≤ q)) 8 [(0, .ref (lo + x0)), (1, .int x1), (2, .int x2), (3, .int x3), (4, .int x4)] [] w) (x0 : Nat) (x1 : Int32) (x2 : Int32) (x4 : Int32) (y0 : Int32) (w : im_W) (hsh : sh_Model_best_69 F k8 x0 x1 x2 x4 y0 w = some r) : im_WW D vwCl tA lo 6 p l e (im_rm 3 75) s m args below meth c 0 0 (MQ below (im_Post D vwCl tA lo (some (.int r.1)) r.2) args s 0 0 (fun q => lo ≤ q)) 69 [(0, .ref (lo + x0)), (1, .int x1), (2, .int x2), (4, .int x4)] [.int y0] w := by
  obtain ⟨hx, hb, hr, hts, hown, hlk, hml, hK, hN⟩ := id X
  intro H locs ls hH hl
  unfold sh_Model_best_69 at hsh
  refine lv_istore_n (lv' := [(3, .int y0), (0, .ref (lo + x0)), (1, .int x1), (2, .int x2), (4, .int x4)]) hx hb d_Model_best_69 rfl hl (by decide) rfl (fun ls hl => ?_)
  refine lv_iinc (v := (x4 + (1 : Int32))) (lv' := [(4, .int (x4 + (1 : Int32))), (3, .int y0), (0, .ref (lo + x0)), (1, .int x1), (2, .int x2)]) hx hb d_Model_best_70 hl (k := 4) rfl rfl (by decide) rfl (fun ls hl => ?_)
  refine lv_goto (tgt := 8) hx hb d_Model_best_73 (by decide) ?_
  exact hk8 x0 x1 x2 y0 (x4 + (1 : Int32)) w hsh H locs ls hH (lv_sub hl [2, 3, 4, 1, 0] rfl)
def sh_Model_best_56 (F : Nat) (k8 : Nat → Int32 → Int32 → Int32 → Int32 → im_W → Option (Int32 × im_W)) (x0 : Nat) (x1 : Int32) (x3 : Int32) (x4 : Int32) (x5 : Int32) (y0 : Int32) (w : im_W) : Option (Int32 × im_W) :=
  (if x3 ≤ x5 then sh_Model_best_69 F k8 x0 x1 y0 x4 x3 w else sh_Model_best_69 F k8 x0 x1 y0 x4 x5 w)
set_option maxHeartbeats 4000000 in
set_option maxRecDepth 100000 in
theorem bk_Model_best_56 {F : Nat} {r : Int32 × im_W} (X : im_X D vwCl tA lo im_NW c_Model_best 6 (some .int) RC_Model im_T p s m args meth c) {k8 : Nat → Int32 → Int32 → Int32 → Int32 → im_W → Option (Int32 × im_W)} (hk8 : ∀ (x0 : Nat) (x1 : Int32) (x2 : Int32) (x3 : Int32) (x4 : Int32) (w : im_W), k8 x0 x1 x2 x3 x4 w = some r → im_WW D vwCl tA lo 6 p l e (im_rm 3 75) s m args below meth c 0 0 (MQ below (im_Post D vwCl tA lo (some (.int r.1)) r.2) args s 0 0 (fun q => lo ≤ q)) 8 [(0, .ref (lo + x0)), (1, .int x1), (2, .int x2), (3, .int x3), (4, .int x4)] [] w) (x0 : Nat) (x1 : Int32) (x3 : Int32) (x4 : Int32) (x5 : Int32) (y0 : Int32) (w : im_W) (hsh : sh_Model_best_56 F k8 x0 x1 x3 x4 x5 y0 w = some r) : im_WW D vwCl tA lo 6 p l e (im_rm 3 75) s m args below meth c 0 0 (MQ below (im_Post D vwCl tA lo (some (.int r.1)) r.2) args s 0 0 (fun q => lo ≤ q)) 56 [(0, .ref (lo + x0)), (1, .int x1), (3, .int x3), (4, .int x4), (5, .int x5)] [.int y0] w := by
  obtain ⟨hx, hb, hr, hts, hown, hlk, hml, hK, hN⟩ := id X
  intro H locs ls hH hl
  unfold sh_Model_best_56 at hsh
  refine lv_istore_n (lv' := [(2, .int y0), (0, .ref (lo + x0)), (1, .int x1), (3, .int x3), (4, .int x4), (5, .int x5)]) hx hb d_Model_best_56 rfl hl (by decide) rfl (fun ls hl => ?_)
  refine lv_iload hx hb d_Model_best_57 (lv_at hl 5 rfl) ?_
  refine lv_iload_n hx hb d_Model_best_59 rfl (lv_at hl 3 rfl) ?_
  refine lv_icmp_ge (tgt := 68) hx hb d_Model_best_60 (by decide) (fun cc => ?_) (fun cc => ?_)
  · have hsh := im_it hsh cc
    refine lv_iload_n hx hb d_Model_best_68 rfl (lv_at hl 3 rfl) ?_
    exact bk_Model_best_69 X hk8 x0 x1 y0 x4 x3 w hsh H locs ls hH (lv_sub hl [1, 2, 0, 4] rfl)
  · have hsh := im_if hsh cc
    refine lv_iload hx hb d_Model_best_63 (lv_at hl 5 rfl) ?_
    refine lv_goto (tgt := 69) hx hb d_Model_best_65 (by decide) ?_
    exact bk_Model_best_69 X hk8 x0 x1 y0 x4 x5 w hsh H locs ls hH (lv_sub hl [1, 2, 0, 4] rfl)
def sh_Model_best_76 (F : Nat) (x2 : Int32) (w : im_W) : Option (Int32 × im_W) :=
  some (x2, w)
set_option maxHeartbeats 4000000 in
set_option maxRecDepth 100000 in
theorem bk_Model_best_76 {F : Nat} {r : Int32 × im_W} (X : im_X D vwCl tA lo im_NW c_Model_best 6 (some .int) RC_Model im_T p s m args meth c) (x2 : Int32) (w : im_W) (hsh : sh_Model_best_76 F x2 w = some r) : im_WW D vwCl tA lo 6 p l e (im_rm 3 75) s m args below meth c 0 0 (MQ below (im_Post D vwCl tA lo (some (.int r.1)) r.2) args s 0 0 (fun q => lo ≤ q)) 76 [(2, .int x2)] [] w := by
  obtain ⟨hx, hb, hr, hts, hown, hlk, hml, hK, hN⟩ := id X
  intro H locs ls hH hl
  unfold sh_Model_best_76 at hsh
  refine lv_iload_n hx hb d_Model_best_76 rfl (lv_at hl 0 rfl) ?_
  obtain rfl := Option.some.inj hsh
  exact im_iret hx hb hr hlk hH d_Model_best_77
def sh_Model_best_8 (F : Nat) : Nat → Nat → Int32 → Int32 → Int32 → Int32 → im_W → Option (Int32 × im_W)
  | 0, _, _, _, _, _, _ => none
  | f + 1, x0, x1, x2, x3, x4, w => (im_gI w 9 x0 39).bind fun f1 => (if f1 ≤ x4 then sh_Model_best_76 F x2 w else (im_is w 9 x0).bind fun u3 => im_b2 (sh_Model_none F x0 x1 w) fun v9 w7 => (if v9 = 0 then (im_gR w7 9 x0 40).bind fun f10 => (im_lI w7 0 f10 x4).bind fun e12 => (im_is w7 9 x0).bind fun u14 => im_b2 (sh_Model_distance F x0 x1 e12 w7) fun v20 w18 => (if x3 ≤ v20 then sh_Model_best_56 F (sh_Model_best_8 F f) x0 x1 x3 x4 v20 x2 w18 else (im_gR w18 9 x0 40).bind fun f21 => (im_lI w18 0 f21 x4).bind fun e23 => sh_Model_best_56 F (sh_Model_best_8 F f) x0 x1 x3 x4 v20 e23 w18) else sh_Model_best_76 F x2 w7))
set_option maxHeartbeats 4000000 in
set_option maxRecDepth 100000 in
theorem bk_Model_best_8 {F : Nat} {r : Int32 × im_W} (X : im_X D vwCl tA lo im_NW c_Model_best 6 (some .int) RC_Model im_T p s m args meth c) : ∀ (f : Nat) (x0 : Nat) (x1 : Int32) (x2 : Int32) (x3 : Int32) (x4 : Int32) (w : im_W), sh_Model_best_8 F f x0 x1 x2 x3 x4 w = some r → im_WW D vwCl tA lo 6 p l e (im_rm 3 75) s m args below meth c 0 0 (MQ below (im_Post D vwCl tA lo (some (.int r.1)) r.2) args s 0 0 (fun q => lo ≤ q)) 8 [(0, .ref (lo + x0)), (1, .int x1), (2, .int x2), (3, .int x3), (4, .int x4)] [] w := by
  obtain ⟨hx, hb, hr, hts, hown, hlk, hml, hK, hN⟩ := id X
  intro f
  induction f with
  | zero =>
    intro x0 x1 x2 x3 x4 w hsh
    cases hsh
  | succ f ih =>
    intro x0 x1 x2 x3 x4 w hsh H locs ls hH hl
    unfold sh_Model_best_8 at hsh
    refine lv_iload hx hb d_Model_best_8 (lv_at hl 4 rfl) ?_
    refine lv_aload_n hx hb d_Model_best_10 rfl (lv_at hl 0 rfl) ?_
    obtain ⟨f1, h2, hsh⟩ := im_bd hsh
    refine im_getI hx hb hts inC_Model hown hK hH (ci := 9) rfl 39 (by decide) (hts _ wd_670) rfl h2 d_Model_best_11 ?_
    refine lv_icmp_ge (tgt := 76) hx hb d_Model_best_14 (by decide) (fun cc => ?_) (fun cc => ?_)
    · have hsh := im_it hsh cc
      exact bk_Model_best_76 X x2 w hsh H locs ls hH (lv_sub hl [2] rfl)
    · have hsh := im_if hsh cc
      refine lv_aload_n hx hb d_Model_best_17 rfl (lv_at hl 0 rfl) ?_
      refine lv_iload_n hx hb d_Model_best_18 rfl (lv_at hl 1 rfl) ?_
      obtain ⟨u3, h4, hsh⟩ := im_bd hsh
      obtain ⟨g5, h6⟩ := im_is_s h4
      obtain ⟨v9, w7, h8, hsh⟩ := im_bd2 hsh
      refine im_afterI (va_runV (As := [.int x1]) (rest := []) (C := RC_Model) ⟨hx, hb, hml, hown, hts⟩ (met_Model_none h8) ⟨(callB_of 1 hts (im_good wd_915) rfl rfl rfl (hts _ wd_10) (hts _ wd_912) (by decide +kernel) ⟨Nat.le_of_ble_eq_true rfl, Nat.le_of_ble_eq_true rfl⟩), hts _ wd_914, hts _ sl_Model_none⟩ (im_preV im_NW_ok hK hN hH (ci := 9) rfl rfl h6 _) rfl rfl hl.1 rfl (lv_room (Nat.le_of_ble_eq_true rfl)) d_Model_best_19 ⟨Nat.le_of_ble_eq_true rfl, Nat.le_of_ble_eq_true rfl⟩) hH (fun H locs hH => ?_)
      refine lv_if_ne (tgt := 76) hx hb d_Model_best_22 (by decide) (fun cc => ?_) (fun cc => ?_)
      · have hsh := im_if hsh cc
        exact bk_Model_best_76 X x2 w7 hsh H locs ls hH (lv_sub hl [2] rfl)
      · have hsh := im_it hsh cc
        refine lv_aload_n hx hb d_Model_best_25 rfl (lv_at hl 0 rfl) ?_
        refine lv_iload_n hx hb d_Model_best_26 rfl (lv_at hl 1 rfl) ?_
        refine lv_aload_n hx hb d_Model_best_27 rfl (lv_at hl 0 rfl) ?_
        obtain ⟨f10, h11, hsh⟩ := im_bd hsh
        refine im_getR hx hb hts inC_Model hown hK hH (ci := 9) rfl 40 (by decide) (hts _ wd_671) rfl h11 d_Model_best_28 ?_
        refine lv_iload hx hb d_Model_best_31 (lv_at hl 4 rfl) ?_
        obtain ⟨e12, h13, hsh⟩ := im_bd hsh
        refine im_iald hx hb hK hH h13 d_Model_best_33 ?_
        obtain ⟨u14, h15, hsh⟩ := im_bd hsh
        obtain ⟨g16, h17⟩ := im_is_s h15
        obtain ⟨v20, w18, h19, hsh⟩ := im_bd2 hsh
        refine im_afterI (va_runV (As := [.int x1, .int e12]) (rest := []) (C := RC_Model) ⟨hx, hb, hml, hown, hts⟩ (met_Model_distance h19) ⟨(callB_of 2 hts (im_good wd_979) rfl rfl rfl (hts _ wd_10) (hts _ wd_984) (by decide +kernel) ⟨Nat.le_of_ble_eq_true rfl, Nat.le_of_ble_eq_true rfl⟩), hts _ wd_977, hts _ wd_978⟩ (im_preV im_NW_ok hK hN hH (ci := 9) rfl rfl h17 _) rfl rfl hl.1 rfl (lv_room (Nat.le_of_ble_eq_true rfl)) d_Model_best_34 ⟨Nat.le_of_ble_eq_true rfl, Nat.le_of_ble_eq_true rfl⟩) hH (fun H locs hH => ?_)
        refine lv_istore (lv' := [(5, .int v20), (0, .ref (lo + x0)), (1, .int x1), (2, .int x2), (3, .int x3), (4, .int x4)]) hx hb d_Model_best_37 hl (by decide) rfl (fun ls hl => ?_)
        refine lv_iload hx hb d_Model_best_39 (lv_at hl 0 rfl) ?_
        refine lv_iload_n hx hb d_Model_best_41 rfl (lv_at hl 4 rfl) ?_
        refine lv_icmp_ge (tgt := 55) hx hb d_Model_best_42 (by decide) (fun cc => ?_) (fun cc => ?_)
        · have hsh := im_it hsh cc
          refine lv_iload_n hx hb d_Model_best_55 rfl (lv_at hl 3 rfl) ?_
          exact bk_Model_best_56 X ih x0 x1 x3 x4 v20 x2 w18 hsh H locs ls hH (lv_sub hl [1, 2, 4, 5, 0] rfl)
        · have hsh := im_if hsh cc
          refine lv_aload_n hx hb d_Model_best_45 rfl (lv_at hl 1 rfl) ?_
          obtain ⟨f21, h22, hsh⟩ := im_bd hsh
          refine im_getR hx hb hts inC_Model hown hK hH (ci := 9) rfl 40 (by decide) (hts _ wd_671) rfl h22 d_Model_best_46 ?_
          refine lv_iload hx hb d_Model_best_49 (lv_at hl 5 rfl) ?_
          obtain ⟨e23, h24, hsh⟩ := im_bd hsh
          refine im_iald hx hb hK hH h24 d_Model_best_51 ?_
          refine lv_goto (tgt := 56) hx hb d_Model_best_52 (by decide) ?_
          exact bk_Model_best_56 X ih x0 x1 x3 x4 v20 e23 w18 hsh H locs ls hH (lv_sub hl [1, 2, 4, 5, 0] rfl)
def sh_Model_best (F : Nat) (x0 : Nat) (x1 : Int32) (w : im_W) : Option (Int32 × im_W) :=
  sh_Model_best_8 F F x0 x1 (-1 : Int32) (50 : Int32) (0 : Int32) w
set_option maxHeartbeats 4000000 in
set_option maxRecDepth 100000 in
theorem met_Model_best {F : Nat} {x0 : Nat} {x1 : Int32} {w : im_W} {r : Int32 × im_W} (hsh : sh_Model_best F x0 x1 w = some r) : Met l y_Model_best (Cond.code y_Model_best c_Model_best 6 (some .int) :: im_T) (im_rm 3 75) (im_Pre D vwCl tA lo im_NW [.ref (lo + x0), .int x1] w) (im_Post D vwCl tA lo (some (.int r.1)) r.2) 0 0 (fun q => lo ≤ q) := by
  refine im_ofW (cc := c_Model_best) (nL := 6) (ret := (some .int)) (by decide) (Nat.le_of_ble_eq_true rfl) ?_
  intro p e s m args below meth c X H locs ls hH hl
  obtain ⟨hx, hb, hr, hts, hown, hlk, hml, hK, hN⟩ := id X
  have hl : lv_has ls 6 [(0, .ref (lo + x0)), (1, .int x1)] := hl
  unfold sh_Model_best at hsh
  refine lv_iconst (v := -1) hx hb d_Model_best_0 (by decide) ?_
  refine lv_istore_n (lv' := [(2, .int (-1 : Int32)), (0, .ref (lo + x0)), (1, .int x1)]) hx hb d_Model_best_1 rfl hl (by decide) rfl (fun ls hl => ?_)
  refine lv_bipush (v := 50) hx hb d_Model_best_2 (by decide) ?_
  refine lv_istore_n (lv' := [(3, .int (50 : Int32)), (2, .int (-1 : Int32)), (0, .ref (lo + x0)), (1, .int x1)]) hx hb d_Model_best_4 rfl hl (by decide) rfl (fun ls hl => ?_)
  refine lv_iconst (v := 0) hx hb d_Model_best_5 (by decide) ?_
  refine lv_istore (lv' := [(4, .int (0 : Int32)), (3, .int (50 : Int32)), (2, .int (-1 : Int32)), (0, .ref (lo + x0)), (1, .int x1)]) hx hb d_Model_best_6 hl (by decide) rfl (fun ls hl => ?_)
  exact bk_Model_best_8 X F x0 x1 (-1 : Int32) (50 : Int32) (0 : Int32) w hsh H locs ls hH (lv_sub hl [3, 4, 2, 1, 0] rfl)
theorem wd_668 : (Jvm.Cond.fieldLink "LanguageTagsModel" (78 : Nat) "LanguageTagsModel" "values" "[I") ∈ im_T := im_memT (i := 668) (by decide +kernel) (by decide +kernel)
theorem wd_669 : (Jvm.Cond.fieldLink "LanguageTagsModel" (81 : Nat) "LanguageTagsModel" "has" "[Z") ∈ im_T := im_memT (i := 669) (by decide +kernel) (by decide +kernel)
theorem d_Model_put_0 : decode c_Model_put 0 = .ok (.aload_n 0, 1) := by decide +kernel
theorem d_Model_put_1 : decode c_Model_put 1 = .ok (.iload_n 1, 1) := by decide +kernel
theorem d_Model_put_2 : decode c_Model_put 2 = .ok (.invokevirtual 251, 3) := by decide +kernel
theorem d_Model_put_5 : decode c_Model_put 5 = .ok (.ifCond .ne (13), 3) := by decide +kernel
theorem d_Model_put_8 : decode c_Model_put 8 = .ok (.iload_n 2, 1) := by decide +kernel
theorem d_Model_put_9 : decode c_Model_put 9 = .ok (.ifCond .lt (9), 3) := by decide +kernel
theorem d_Model_put_12 : decode c_Model_put 12 = .ok (.iload_n 2, 1) := by decide +kernel
theorem d_Model_put_13 : decode c_Model_put 13 = .ok (.bipush (7), 2) := by decide +kernel
theorem d_Model_put_15 : decode c_Model_put 15 = .ok (.if_icmp .le (5), 3) := by decide +kernel
theorem d_Model_put_18 : decode c_Model_put 18 = .ok (.iconst 0, 1) := by decide +kernel
theorem d_Model_put_19 : decode c_Model_put 19 = .ok (.ireturn, 1) := by decide +kernel
theorem d_Model_put_20 : decode c_Model_put 20 = .ok (.aload_n 0, 1) := by decide +kernel
theorem d_Model_put_21 : decode c_Model_put 21 = .ok (.getfield 78, 3) := by decide +kernel
theorem d_Model_put_24 : decode c_Model_put 24 = .ok (.bipush (8), 2) := by decide +kernel
theorem d_Model_put_26 : decode c_Model_put 26 = .ok (.iload_n 1, 1) := by decide +kernel
theorem d_Model_put_27 : decode c_Model_put 27 = .ok (.imul, 1) := by decide +kernel
theorem d_Model_put_28 : decode c_Model_put 28 = .ok (.iload_n 2, 1) := by decide +kernel
theorem d_Model_put_29 : decode c_Model_put 29 = .ok (.iadd, 1) := by decide +kernel
theorem d_Model_put_30 : decode c_Model_put 30 = .ok (.iload_n 3, 1) := by decide +kernel
theorem d_Model_put_31 : decode c_Model_put 31 = .ok (.iastore, 1) := by decide +kernel
theorem d_Model_put_32 : decode c_Model_put 32 = .ok (.aload_n 0, 1) := by decide +kernel
theorem d_Model_put_33 : decode c_Model_put 33 = .ok (.getfield 81, 3) := by decide +kernel
theorem d_Model_put_36 : decode c_Model_put 36 = .ok (.bipush (8), 2) := by decide +kernel
theorem d_Model_put_38 : decode c_Model_put 38 = .ok (.iload_n 1, 1) := by decide +kernel
theorem d_Model_put_39 : decode c_Model_put 39 = .ok (.imul, 1) := by decide +kernel
theorem d_Model_put_40 : decode c_Model_put 40 = .ok (.iload_n 2, 1) := by decide +kernel
theorem d_Model_put_41 : decode c_Model_put 41 = .ok (.iadd, 1) := by decide +kernel
theorem d_Model_put_42 : decode c_Model_put 42 = .ok (.iconst 1, 1) := by decide +kernel
theorem d_Model_put_43 : decode c_Model_put 43 = .ok (.bastore, 1) := by decide +kernel
theorem d_Model_put_44 : decode c_Model_put 44 = .ok (.iconst 1, 1) := by decide +kernel
theorem d_Model_put_45 : decode c_Model_put 45 = .ok (.ireturn, 1) := by decide +kernel
def sh_Model_put_18 (F : Nat)  (w : im_W) : Option (Int32 × im_W) :=
  im_rz (0 : Int32) w
set_option maxHeartbeats 4000000 in
set_option maxRecDepth 100000 in
theorem bk_Model_put_18 {F : Nat} {r : Int32 × im_W} (X : im_X D vwCl tA lo im_NW c_Model_put 4 (some .boolean) RC_Model im_T p s m args meth c)  (w : im_W) (hsh : sh_Model_put_18 F w = some r) : im_WW D vwCl tA lo 4 p l e (im_rm 1 21) s m args below meth c 0 0 (MQ below (im_Post D vwCl tA lo (some (.int r.1)) r.2) args s 0 0 (fun q => lo ≤ q)) 18 [] [] w := by
  obtain ⟨hx, hb, hr, hts, hown, hlk, hml, hK, hN⟩ := id X
  intro H locs ls hH hl
  unfold sh_Model_put_18 at hsh
  refine lv_iconst (v := 0) hx hb d_Model_put_18 (by decide) ?_
  obtain ⟨rfl, hn⟩ := im_rz_s hsh
  exact im_zret hx hb hr hlk hn hH d_Model_put_19
def sh_Model_put (F : Nat) (x0 : Nat) (x1 : Int32) (x2 : Int32) (x3 : Int32) (w : im_W) : Option (Int32 × im_W) :=
  (im_is w 9 x0).bind fun u1 => im_b2 (sh_Model_none F x0 x1 w) fun v7 w5 => (if v7 = 0 then (if x2 < 0 then sh_Model_put_18 F w5 else (if x2 ≤ (7 : Int32) then (im_gR w5 9 x0 37).bind fun f8 => (im_sI w5 0 f8 (((8 : Int32) * x1) + x2) x3).bind fun w10 => (im_gR w10 9 x0 38).bind fun f12 => (im_sI w10 3 f12 (((8 : Int32) * x1) + x2) (vp_nar .boolean (1 : Int32))).bind fun w14 => im_rz (1 : Int32) w14 else sh_Model_put_18 F w5)) else sh_Model_put_18 F w5)
set_option maxHeartbeats 4000000 in
set_option maxRecDepth 100000 in
theorem met_Model_put {F : Nat} {x0 : Nat} {x1 : Int32} {x2 : Int32} {x3 : Int32} {w : im_W} {r : Int32 × im_W} (hsh : sh_Model_put F x0 x1 x2 x3 w = some r) : Met l y_Model_put (Cond.code y_Model_put c_Model_put 4 (some .boolean) :: im_T) (im_rm 1 21) (im_Pre D vwCl tA lo im_NW [.ref (lo + x0), .int x1, .int x2, .int x3] w) (im_Post D vwCl tA lo (some (.int r.1)) r.2) 0 0 (fun q => lo ≤ q) := by
  refine im_ofW (cc := c_Model_put) (nL := 4) (ret := (some .boolean)) (by decide) (Nat.le_of_ble_eq_true rfl) ?_
  intro p e s m args below meth c X H locs ls hH hl
  obtain ⟨hx, hb, hr, hts, hown, hlk, hml, hK, hN⟩ := id X
  have hl : lv_has ls 4 [(0, .ref (lo + x0)), (1, .int x1), (2, .int x2), (3, .int x3)] := hl
  unfold sh_Model_put at hsh
  refine lv_aload_n hx hb d_Model_put_0 rfl (lv_at hl 0 rfl) ?_
  refine lv_iload_n hx hb d_Model_put_1 rfl (lv_at hl 1 rfl) ?_
  obtain ⟨u1, h2, hsh⟩ := im_bd hsh
  obtain ⟨g3, h4⟩ := im_is_s h2
  obtain ⟨v7, w5, h6, hsh⟩ := im_bd2 hsh
  refine im_afterI (va_runV (As := [.int x1]) (rest := []) (C := RC_Model) ⟨hx, hb, hml, hown, hts⟩ (met_Model_none h6) ⟨(callB_of 1 hts (im_good wd_915) rfl rfl rfl (hts _ wd_10) (hts _ wd_912) (by decide +kernel) ⟨Nat.le_of_ble_eq_true rfl, Nat.le_of_ble_eq_true rfl⟩), hts _ wd_914, hts _ sl_Model_none⟩ (im_preV im_NW_ok hK hN hH (ci := 9) rfl rfl h4 _) rfl rfl hl.1 rfl (lv_room (Nat.le_of_ble_eq_true rfl)) d_Model_put_2 ⟨Nat.le_of_ble_eq_true rfl, Nat.le_of_ble_eq_true rfl⟩) hH (fun H locs hH => ?_)
  refine lv_if_ne (tgt := 18) hx hb d_Model_put_5 (by decide) (fun cc => ?_) (fun cc => ?_)
  · have hsh := im_if hsh cc
    exact bk_Model_put_18 X w5 hsh H locs ls hH (lv_sub hl [] rfl)
  · have hsh := im_it hsh cc
    refine lv_iload_n hx hb d_Model_put_8 rfl (lv_at hl 2 rfl) ?_
    refine lv_if_lt (tgt := 18) hx hb d_Model_put_9 (by decide) (fun cc => ?_) (fun cc => ?_)
    · have hsh := im_it hsh cc
      exact bk_Model_put_18 X w5 hsh H locs ls hH (lv_sub hl [] rfl)
    · have hsh := im_if hsh cc
      refine lv_iload_n hx hb d_Model_put_12 rfl (lv_at hl 2 rfl) ?_
      refine lv_bipush (v := 7) hx hb d_Model_put_13 (by decide) ?_
      refine lv_icmp_le (tgt := 20) hx hb d_Model_put_15 (by decide) (fun cc => ?_) (fun cc => ?_)
      · have hsh := im_it hsh cc
        refine lv_aload_n hx hb d_Model_put_20 rfl (lv_at hl 0 rfl) ?_
        obtain ⟨f8, h9, hsh⟩ := im_bd hsh
        refine im_getR hx hb hts inC_Model hown hK hH (ci := 9) rfl 37 (by decide) (hts _ wd_668) rfl h9 d_Model_put_21 ?_
        refine lv_bipush (v := 8) hx hb d_Model_put_24 (by decide) ?_
        refine lv_iload_n hx hb d_Model_put_26 rfl (lv_at hl 1 rfl) ?_
        refine lv_imul hx hb d_Model_put_27 ?_
        refine lv_iload_n hx hb d_Model_put_28 rfl (lv_at hl 2 rfl) ?_
        refine lv_iadd hx hb d_Model_put_29 ?_
        refine lv_iload_n hx hb d_Model_put_30 rfl (lv_at hl 3 rfl) ?_
        obtain ⟨w10, h11, hsh⟩ := im_bd hsh
        refine im_iast hx hb hK hH h11 d_Model_put_31 (fun H locs hH => ?_)
        refine lv_aload_n hx hb d_Model_put_32 rfl (lv_at hl 0 rfl) ?_
        obtain ⟨f12, h13, hsh⟩ := im_bd hsh
        refine im_getR hx hb hts inC_Model hown hK hH (ci := 9) rfl 38 (by decide) (hts _ wd_669) rfl h13 d_Model_put_33 ?_
        refine lv_bipush (v := 8) hx hb d_Model_put_36 (by decide) ?_
        refine lv_iload_n hx hb d_Model_put_38 rfl (lv_at hl 1 rfl) ?_
        refine lv_imul hx hb d_Model_put_39 ?_
        refine lv_iload_n hx hb d_Model_put_40 rfl (lv_at hl 2 rfl) ?_
        refine lv_iadd hx hb d_Model_put_41 ?_
        refine lv_iconst (v := 1) hx hb d_Model_put_42 (by decide) ?_
        obtain ⟨w14, h15, hsh⟩ := im_bd hsh
        refine im_zast hx hb hK hH h15 d_Model_put_43 (fun H locs hH => ?_)
        refine lv_iconst (v := 1) hx hb d_Model_put_44 (by decide) ?_
        obtain ⟨rfl, hn⟩ := im_rz_s hsh
        exact im_zret hx hb hr hlk hn hH d_Model_put_45
      · have hsh := im_if hsh cc
        exact bk_Model_put_18 X w5 hsh H locs ls hH (lv_sub hl [] rfl)
theorem d_Model_goOn_0 : decode c_Model_goOn 0 = .ok (.bipush (10), 2) := by decide +kernel
theorem d_Model_goOn_2 : decode c_Model_goOn 2 = .ok (.istore_n 1, 1) := by decide +kernel
theorem d_Model_goOn_3 : decode c_Model_goOn 3 = .ok (.iload_n 1, 1) := by decide +kernel
theorem d_Model_goOn_4 : decode c_Model_goOn 4 = .ok (.bipush (10), 2) := by decide +kernel
theorem d_Model_goOn_6 : decode c_Model_goOn 6 = .ok (.aload_n 0, 1) := by decide +kernel
theorem d_Model_goOn_7 : decode c_Model_goOn 7 = .ok (.getfield 42, 3) := by decide +kernel
theorem d_Model_goOn_10 : decode c_Model_goOn 10 = .ok (.iconst 1, 1) := by decide +kernel
theorem d_Model_goOn_11 : decode c_Model_goOn 11 = .ok (.iaload, 1) := by decide +kernel
theorem d_Model_goOn_12 : decode c_Model_goOn 12 = .ok (.iadd, 1) := by decide +kernel
theorem d_Model_goOn_13 : decode c_Model_goOn 13 = .ok (.if_icmp .ge (152), 3) := by decide +kernel
theorem d_Model_goOn_16 : decode c_Model_goOn 16 = .ok (.aload_n 0, 1) := by decide +kernel
theorem d_Model_goOn_17 : decode c_Model_goOn 17 = .ok (.aload_n 0, 1) := by decide +kernel
theorem d_Model_goOn_18 : decode c_Model_goOn 18 = .ok (.getfield 45, 3) := by decide +kernel
theorem d_Model_goOn_21 : decode c_Model_goOn 21 = .ok (.iload_n 1, 1) := by decide +kernel
theorem d_Model_goOn_22 : decode c_Model_goOn 22 = .ok (.iaload, 1) := by decide +kernel
theorem d_Model_goOn_23 : decode c_Model_goOn 23 = .ok (.aload_n 0, 1) := by decide +kernel
theorem d_Model_goOn_24 : decode c_Model_goOn 24 = .ok (.getfield 48, 3) := by decide +kernel
theorem d_Model_goOn_27 : decode c_Model_goOn 27 = .ok (.iload_n 1, 1) := by decide +kernel
theorem d_Model_goOn_28 : decode c_Model_goOn 28 = .ok (.iaload, 1) := by decide +kernel
theorem d_Model_goOn_29 : decode c_Model_goOn 29 = .ok (.aload_n 0, 1) := by decide +kernel
theorem d_Model_goOn_30 : decode c_Model_goOn 30 = .ok (.getfield 51, 3) := by decide +kernel
theorem d_Model_goOn_33 : decode c_Model_goOn 33 = .ok (.iload_n 1, 1) := by decide +kernel
theorem d_Model_goOn_34 : decode c_Model_goOn 34 = .ok (.iaload, 1) := by decide +kernel
theorem d_Model_goOn_35 : decode c_Model_goOn 35 = .ok (.invokevirtual 195, 3) := by decide +kernel
theorem d_Model_goOn_38 : decode c_Model_goOn 38 = .ok (.aload_n 0, 1) := by decide +kernel
theorem d_Model_goOn_39 : decode c_Model_goOn 39 = .ok (.getfield 177, 3) := by decide +kernel
theorem d_Model_goOn_42 : decode c_Model_goOn 42 = .ok (.aload_n 0, 1) := by decide +kernel
theorem d_Model_goOn_43 : decode c_Model_goOn 43 = .ok (.getfield 271, 3) := by decide +kernel
theorem d_Model_goOn_46 : decode c_Model_goOn 46 = .ok (.if_icmp .ne (7), 3) := by decide +kernel
theorem d_Model_goOn_49 : decode c_Model_goOn 49 = .ok (.iconst 1, 1) := by decide +kernel
theorem d_Model_goOn_50 : decode c_Model_goOn 50 = .ok (.goto (4), 3) := by decide +kernel
theorem d_Model_goOn_53 : decode c_Model_goOn 53 = .ok (.iconst 0, 1) := by decide +kernel
theorem d_Model_goOn_54 : decode c_Model_goOn 54 = .ok (.istore_n 2, 1) := by decide +kernel
theorem d_Model_goOn_55 : decode c_Model_goOn 55 = .ok (.iconst 0, 1) := by decide +kernel
theorem d_Model_goOn_56 : decode c_Model_goOn 56 = .ok (.istore_n 3, 1) := by decide +kernel
theorem d_Model_goOn_57 : decode c_Model_goOn 57 = .ok (.iload_n 3, 1) := by decide +kernel
theorem d_Model_goOn_58 : decode c_Model_goOn 58 = .ok (.aload_n 0, 1) := by decide +kernel
theorem d_Model_goOn_59 : decode c_Model_goOn 59 = .ok (.getfield 271, 3) := by decide +kernel
theorem d_Model_goOn_62 : decode c_Model_goOn 62 = .ok (.if_icmp .ge (34), 3) := by decide +kernel
theorem d_Model_goOn_65 : decode c_Model_goOn 65 = .ok (.iload_n 2, 1) := by decide +kernel
theorem d_Model_goOn_66 : decode c_Model_goOn 66 = .ok (.ifCond .eq (30), 3) := by decide +kernel
theorem d_Model_goOn_69 : decode c_Model_goOn 69 = .ok (.aload_n 0, 1) := by decide +kernel
theorem d_Model_goOn_70 : decode c_Model_goOn 70 = .ok (.getfield 26, 3) := by decide +kernel
theorem d_Model_goOn_73 : decode c_Model_goOn 73 = .ok (.iload_n 3, 1) := by decide +kernel
theorem d_Model_goOn_74 : decode c_Model_goOn 74 = .ok (.caload, 1) := by decide +kernel
theorem d_Model_goOn_75 : decode c_Model_goOn 75 = .ok (.aload_n 0, 1) := by decide +kernel
theorem d_Model_goOn_76 : decode c_Model_goOn 76 = .ok (.getfield 29, 3) := by decide +kernel
theorem d_Model_goOn_79 : decode c_Model_goOn 79 = .ok (.iload_n 3, 1) := by decide +kernel
theorem d_Model_goOn_80 : decode c_Model_goOn 80 = .ok (.caload, 1) := by decide +kernel
theorem d_Model_goOn_81 : decode c_Model_goOn 81 = .ok (.if_icmp .ne (7), 3) := by decide +kernel
theorem d_Model_goOn_84 : decode c_Model_goOn 84 = .ok (.iconst 1, 1) := by decide +kernel
theorem d_Model_goOn_85 : decode c_Model_goOn 85 = .ok (.goto (4), 3) := by decide +kernel
theorem d_Model_goOn_88 : decode c_Model_goOn 88 = .ok (.iconst 0, 1) := by decide +kernel
theorem d_Model_goOn_89 : decode c_Model_goOn 89 = .ok (.istore_n 2, 1) := by decide +kernel
theorem d_Model_goOn_90 : decode c_Model_goOn 90 = .ok (.iinc 3 (1), 3) := by decide +kernel
theorem d_Model_goOn_93 : decode c_Model_goOn 93 = .ok (.goto (-36), 3) := by decide +kernel
theorem d_Model_goOn_96 : decode c_Model_goOn 96 = .ok (.iload_n 2, 1) := by decide +kernel
theorem d_Model_goOn_97 : decode c_Model_goOn 97 = .ok (.ifCond .eq (62), 3) := by decide +kernel
theorem d_Model_goOn_100 : decode c_Model_goOn 100 = .ok (.aload_n 0, 1) := by decide +kernel
theorem d_Model_goOn_101 : decode c_Model_goOn 101 = .ok (.aload_n 0, 1) := by decide +kernel
theorem d_Model_goOn_102 : decode c_Model_goOn 102 = .ok (.getfield 54, 3) := by decide +kernel
theorem d_Model_goOn_105 : decode c_Model_goOn 105 = .ok (.iload_n 1, 1) := by decide +kernel
theorem d_Model_goOn_106 : decode c_Model_goOn 106 = .ok (.iaload, 1) := by decide +kernel
theorem d_Model_goOn_107 : decode c_Model_goOn 107 = .ok (.aload_n 0, 1) := by decide +kernel
theorem d_Model_goOn_108 : decode c_Model_goOn 108 = .ok (.getfield 57, 3) := by decide +kernel
theorem d_Model_goOn_111 : decode c_Model_goOn 111 = .ok (.iload_n 1, 1) := by decide +kernel
theorem d_Model_goOn_112 : decode c_Model_goOn 112 = .ok (.iaload, 1) := by decide +kernel
theorem d_Model_goOn_113 : decode c_Model_goOn 113 = .ok (.aload_n 0, 1) := by decide +kernel
theorem d_Model_goOn_114 : decode c_Model_goOn 114 = .ok (.getfield 60, 3) := by decide +kernel
theorem d_Model_goOn_117 : decode c_Model_goOn 117 = .ok (.iload_n 1, 1) := by decide +kernel
theorem d_Model_goOn_118 : decode c_Model_goOn 118 = .ok (.iaload, 1) := by decide +kernel
theorem d_Model_goOn_119 : decode c_Model_goOn 119 = .ok (.invokevirtual 195, 3) := by decide +kernel
theorem d_Model_goOn_122 : decode c_Model_goOn 122 = .ok (.aload_n 0, 1) := by decide +kernel
theorem d_Model_goOn_123 : decode c_Model_goOn 123 = .ok (.aload_n 0, 1) := by decide +kernel
theorem d_Model_goOn_124 : decode c_Model_goOn 124 = .ok (.getfield 177, 3) := by decide +kernel
theorem d_Model_goOn_127 : decode c_Model_goOn 127 = .ok (.putfield 271, 3) := by decide +kernel
theorem d_Model_goOn_130 : decode c_Model_goOn 130 = .ok (.iconst 0, 1) := by decide +kernel
theorem d_Model_goOn_131 : decode c_Model_goOn 131 = .ok (.istore_n 3, 1) := by decide +kernel
theorem d_Model_goOn_132 : decode c_Model_goOn 132 = .ok (.iload_n 3, 1) := by decide +kernel
theorem d_Model_goOn_133 : decode c_Model_goOn 133 = .ok (.aload_n 0, 1) := by decide +kernel
theorem d_Model_goOn_134 : decode c_Model_goOn 134 = .ok (.getfield 177, 3) := by decide +kernel
theorem d_Model_goOn_137 : decode c_Model_goOn 137 = .ok (.if_icmp .ge (21), 3) := by decide +kernel
theorem d_Model_goOn_140 : decode c_Model_goOn 140 = .ok (.aload_n 0, 1) := by decide +kernel
theorem d_Model_goOn_141 : decode c_Model_goOn 141 = .ok (.getfield 29, 3) := by decide +kernel
theorem d_Model_goOn_144 : decode c_Model_goOn 144 = .ok (.iload_n 3, 1) := by decide +kernel
theorem d_Model_goOn_145 : decode c_Model_goOn 145 = .ok (.aload_n 0, 1) := by decide +kernel
theorem d_Model_goOn_146 : decode c_Model_goOn 146 = .ok (.getfield 26, 3) := by decide +kernel
theorem d_Model_goOn_149 : decode c_Model_goOn 149 = .ok (.iload_n 3, 1) := by decide +kernel
theorem d_Model_goOn_150 : decode c_Model_goOn 150 = .ok (.caload, 1) := by decide +kernel
theorem d_Model_goOn_151 : decode c_Model_goOn 151 = .ok (.castore, 1) := by decide +kernel
theorem d_Model_goOn_152 : decode c_Model_goOn 152 = .ok (.iinc 3 (1), 3) := by decide +kernel
theorem d_Model_goOn_155 : decode c_Model_goOn 155 = .ok (.goto (-23), 3) := by decide +kernel
theorem d_Model_goOn_158 : decode c_Model_goOn 158 = .ok (.return_, 1) := by decide +kernel
theorem d_Model_goOn_159 : decode c_Model_goOn 159 = .ok (.iinc 1 (1), 3) := by decide +kernel
theorem d_Model_goOn_162 : decode c_Model_goOn 162 = .ok (.goto (-159), 3) := by decide +kernel
theorem d_Model_goOn_165 : decode c_Model_goOn 165 = .ok (.aload_n 0, 1) := by decide +kernel
theorem d_Model_goOn_166 : decode c_Model_goOn 166 = .ok (.invokevirtual 283, 3) := by decide +kernel
theorem d_Model_goOn_169 : decode c_Model_goOn 169 = .ok (.return_, 1) := by decide +kernel
def sh_Model_goOn_89 (F : Nat) (k3 : Nat → Int32 → im_W → Option (im_W)) (k57 : Nat → Int32 → Int32 → Int32 → im_W → Option (im_W)) (x0 : Nat) (x1 : Int32) (x3 : Int32) (y0 : Int32) (w : im_W) : Option (im_W) :=
  k57 x0 x1 y0 (x3 + (1 : Int32)) w
set_option maxHeartbeats 4000000 in
set_option maxRecDepth 100000 in
theorem bk_Model_goOn_89 {F : Nat} {r : im_W} (X : im_X D vwCl tA lo im_NW c_Model_goOn 4 none RC_Model im_T p s m args meth c) {k3 : Nat → Int32 → im_W → Option (im_W)} (hk3 : ∀ (x0 : Nat) (x1 : Int32) (w : im_W), k3 x0 x1 w = some r → im_WW D vwCl tA lo 4 p l e (im_rm 3 69) s m args below meth c 0 0 (MQ below (im_Post D vwCl tA lo none r) args s 0 0 (fun q => lo ≤ q)) 3 [(0, .ref (lo + x0)), (1, .int x1)] [] w) {k57 : Nat → Int32 → Int32 → Int32 → im_W → Option (im_W)} (hk57 : ∀ (x0 : Nat) (x1 : Int32) (x2 : Int32) (x3 : Int32) (w : im_W), k57 x0 x1 x2 x3 w = some r → im_WW D vwCl tA lo 4 p l e (im_rm 3 69) s m args below meth c 0 0 (MQ below (im_Post D vwCl tA lo none r) args s 0 0 (fun q => lo ≤ q)) 57 [(0, .ref (lo + x0)), (1, .int x1), (2, .int x2), (3, .int x3)] [] w) (x0 : Nat) (x1 : Int32) (x3 : Int32) (y0 : Int32) (w : im_W) (hsh : sh_Model_goOn_89 F k3 k57 x0 x1 x3 y0 w = some r) : im_WW D vwCl tA lo 4 p l e (im_rm 3 69) s m args below meth c 0 0 (MQ below (im_Post D vwCl tA lo none r) args s 0 0 (fun q => lo ≤ q)) 89 [(0, .ref (lo + x0)), (1, .int x1), (3, .int x3)] [.int y0] w := by
  obtain ⟨hx, hb, hr, hts, hown, hlk, hml, hK, hN⟩ := id X
  intro H locs ls hH hl
  unfold sh_Model_goOn_89 at hsh
  refine lv_istore_n (lv' := [(2, .int y0), (0, .ref (lo + x0)), (1, .int x1), (3, .int x3)]) hx hb d_Model_goOn_89 rfl hl (by decide) rfl (fun ls hl => ?_)
  refine lv_iinc (v := (x3 + (1 : Int32))) (lv' := [(3, .int (x3 + (1 : Int32))), (2, .int y0), (0, .ref (lo + x0)), (1, .int x1)]) hx hb d_Model_goOn_90 hl (k := 3) rfl rfl (by decide) rfl (fun ls hl => ?_)
  refine lv_goto (tgt := 57) hx hb d_Model_goOn_93 (by decide) ?_
  exact hk57 x0 x1 y0 (x3 + (1 : Int32)) w hsh H locs ls hH (lv_sub hl [2, 3, 1, 0] rfl)
def sh_Model_goOn_132 (F : Nat) : Nat → Nat → Int32 → im_W → Option (im_W)
  | 0, _, _, _ => none
  | f + 1, x0, x3, w => (im_gI w 9 x0 13).bind fun f1 => (if f1 ≤ x3 then some w else (im_gR w 9 x0 16).bind fun f3 => (im_gR w 9 x0 14).bind fun f5 => (im_lI w 2 f5 x3).bind fun e7 => (im_sI w 2 f3 x3 (vp_nar .char e7)).bind fun w9 => (sh_Model_goOn_132 F f) x0 (x3 + (1 : Int32)) w9)
set_option maxHeartbeats 4000000 in
set_option maxRecDepth 100000 in
theorem bk_Model_goOn_132 {F : Nat} {r : im_W} (X : im_X D vwCl tA lo im_NW c_Model_goOn 4 none RC_Model im_T p s m args meth c) : ∀ (f : Nat) (x0 : Nat) (x3 : Int32) (w : im_W), sh_Model_goOn_132 F f x0 x3 w = some r → im_WW D vwCl tA lo 4 p l e (im_rm 3 69) s m args below meth c 0 0 (MQ below (im_Post D vwCl tA lo none r) args s 0 0 (fun q => lo ≤ q)) 132 [(0, .ref (lo + x0)), (3, .int x3)] [] w := by
  obtain ⟨hx, hb, hr, hts, hown, hlk, hml, hK, hN⟩ := id X
  intro f
  induction f with
  | zero =>
    intro x0 x3 w hsh
    cases hsh
  | succ f ih =>
    intro x0 x3 w hsh H locs ls hH hl
    unfold sh_Model_goOn_132 at hsh
    refine lv_iload_n hx hb d_Model_goOn_132 rfl (lv_at hl 1 rfl) ?_
    refine lv_aload_n hx hb d_Model_goOn_133 rfl (lv_at hl 0 rfl) ?_
    obtain ⟨f1, h2, hsh⟩ := im_bd hsh
    refine im_getI hx hb hts inC_Model hown hK hH (ci := 9) rfl 13 (by decide) (hts _ wd_644) rfl h2 d_Model_goOn_134 ?_
    refine lv_icmp_ge (tgt := 158) hx hb d_Model_goOn_137 (by decide) (fun cc => ?_) (fun cc => ?_)
    · have hsh := im_it hsh cc
      obtain rfl := Option.some.inj hsh
      exact im_vret hx hb hr hlk hH d_Model_goOn_158
    · have hsh := im_if hsh cc
      refine lv_aload_n hx hb d_Model_goOn_140 rfl (lv_at hl 0 rfl) ?_
      obtain ⟨f3, h4, hsh⟩ := im_bd hsh
      refine im_getR hx hb hts inC_Model hown hK hH (ci := 9) rfl 16 (by decide) (hts _ wd_647) rfl h4 d_Model_goOn_141 ?_
      refine lv_iload_n hx hb d_Model_goOn_144 rfl (lv_at hl 1 rfl) ?_
      refine lv_aload_n hx hb d_Model_goOn_145 rfl (lv_at hl 0 rfl) ?_
      obtain ⟨f5, h6, hsh⟩ := im_bd hsh
      refine im_getR hx hb hts inC_Model hown hK hH (ci := 9) rfl 14 (by decide) (hts _ wd_645) rfl h6 d_Model_goOn_146 ?_
      refine lv_iload_n hx hb d_Model_goOn_149 rfl (lv_at hl 1 rfl) ?_
      obtain ⟨e7, h8, hsh⟩ := im_bd hsh
      refine im_cald hx hb hK hH h8 d_Model_goOn_150 ?_
      obtain ⟨w9, h10, hsh⟩ := im_bd hsh
      refine im_cast hx hb hK hH h10 d_Model_goOn_151 (fun H locs hH => ?_)
      refine lv_iinc (v := (x3 + (1 : Int32))) (lv' := [(3, .int (x3 + (1 : Int32))), (0, .ref (lo + x0))]) hx hb d_Model_goOn_152 hl (k := 1) rfl rfl (by decide) rfl (fun ls hl => ?_)
      refine lv_goto (tgt := 132) hx hb d_Model_goOn_155 (by decide) ?_
      exact ih x0 (x3 + (1 : Int32)) w9 hsh H locs ls hH (lv_sub hl [1, 0] rfl)
def sh_Model_goOn_96 (F : Nat) (k3 : Nat → Int32 → im_W → Option (im_W)) (x0 : Nat) (x1 : Int32) (x2 : Int32) (w : im_W) : Option (im_W) :=
  (if x2 = 0 then k3 x0 (x1 + (1 : Int32)) w else (im_gR w 9 x0 25).bind fun f1 => (im_lI w 0 f1 x1).bind fun e3 => (im_gR w 9 x0 26).bind fun f5 => (im_lI w 0 f5 x1).bind fun e7 => (im_gR w 9 x0 27).bind fun f9 => (im_lI w 0 f9 x1).bind fun e11 => (im_is w 9 x0).bind fun u13 => (sh_Model_putShort F x0 e3 e7 e11 w).bind fun w17 => (im_gI w17 9 x0 13).bind fun f19 => (im_pV w17 9 x0 15 (.int f19)).bind fun w21 => sh_Model_goOn_132 F F x0 (0 : Int32) w21)
set_option maxHeartbeats 4000000 in
set_option maxRecDepth 100000 in
theorem bk_Model_goOn_96 {F : Nat} {r : im_W} (X : im_X D vwCl tA lo im_NW c_Model_goOn 4 none RC_Model im_T p s m args meth c) {k3 : Nat → Int32 → im_W → Option (im_W)} (hk3 : ∀ (x0 : Nat) (x1 : Int32) (w : im_W), k3 x0 x1 w = some r → im_WW D vwCl tA lo 4 p l e (im_rm 3 69) s m args below meth c 0 0 (MQ below (im_Post D vwCl tA lo none r) args s 0 0 (fun q => lo ≤ q)) 3 [(0, .ref (lo + x0)), (1, .int x1)] [] w) (x0 : Nat) (x1 : Int32) (x2 : Int32) (w : im_W) (hsh : sh_Model_goOn_96 F k3 x0 x1 x2 w = some r) : im_WW D vwCl tA lo 4 p l e (im_rm 3 69) s m args below meth c 0 0 (MQ below (im_Post D vwCl tA lo none r) args s 0 0 (fun q => lo ≤ q)) 96 [(0, .ref (lo + x0)), (1, .int x1), (2, .int x2)] [] w := by
  obtain ⟨hx, hb, hr, hts, hown, hlk, hml, hK, hN⟩ := id X
  intro H locs ls hH hl
  unfold sh_Model_goOn_96 at hsh
  refine lv_iload_n hx hb d_Model_goOn_96 rfl (lv_at hl 2 rfl) ?_
  refine lv_if_eq (tgt := 159) hx hb d_Model_goOn_97 (by decide) (fun cc => ?_) (fun cc => ?_)
  · have hsh := im_it hsh cc
    refine lv_iinc (v := (x1 + (1 : Int32))) (lv' := [(1, .int (x1 + (1 : Int32))), (0, .ref (lo + x0)), (2, .int x2)]) hx hb d_Model_goOn_159 hl (k := 1) rfl rfl (by decide) rfl (fun ls hl => ?_)
    refine lv_goto (tgt := 3) hx hb d_Model_goOn_162 (by decide) ?_
    exact hk3 x0 (x1 + (1 : Int32)) w hsh H locs ls hH (lv_sub hl [1, 0] rfl)
  · have hsh := im_if hsh cc
    refine lv_aload_n hx hb d_Model_goOn_100 rfl (lv_at hl 0 rfl) ?_
    refine lv_aload_n hx hb d_Model_goOn_101 rfl (lv_at hl 0 rfl) ?_
    obtain ⟨f1, h2, hsh⟩ := im_bd hsh
    refine im_getR hx hb hts inC_Model hown hK hH (ci := 9) rfl 25 (by decide) (hts _ wd_656) rfl h2 d_Model_goOn_102 ?_
    refine lv_iload_n hx hb d_Model_goOn_105 rfl (lv_at hl 1 rfl) ?_
    obtain ⟨e3, h4, hsh⟩ := im_bd hsh
    refine im_iald hx hb hK hH h4 d_Model_goOn_106 ?_
    refine lv_aload_n hx hb d_Model_goOn_107 rfl (lv_at hl 0 rfl) ?_
    obtain ⟨f5, h6, hsh⟩ := im_bd hsh
    refine im_getR hx hb hts inC_Model hown hK hH (ci := 9) rfl 26 (by decide) (hts _ wd_657) rfl h6 d_Model_goOn_108 ?_
    refine lv_iload_n hx hb d_Model_goOn_111 rfl (lv_at hl 1 rfl) ?_
    obtain ⟨e7, h8, hsh⟩ := im_bd hsh
    refine im_iald hx hb hK hH h8 d_Model_goOn_112 ?_
    refine lv_aload_n hx hb d_Model_goOn_113 rfl (lv_at hl 0 rfl) ?_
    obtain ⟨f9, h10, hsh⟩ := im_bd hsh
    refine im_getR hx hb hts inC_Model hown hK hH (ci := 9) rfl 27 (by decide) (hts _ wd_658) rfl h10 d_Model_goOn_114 ?_
    refine lv_iload_n hx hb d_Model_goOn_117 rfl (lv_at hl 1 rfl) ?_
    obtain ⟨e11, h12, hsh⟩ := im_bd hsh
    refine im_iald hx hb hK hH h12 d_Model_goOn_118 ?_
    obtain ⟨u13, h14, hsh⟩ := im_bd hsh
    obtain ⟨g15, h16⟩ := im_is_s h14
    obtain ⟨w17, h18, hsh⟩ := im_bd hsh
    refine im_afterV (va_runV (As := [.int e3, .int e7, .int e11]) (rest := []) (C := RC_Model) ⟨hx, hb, hml, hown, hts⟩ (met_Model_putShort h18) ⟨(callB_of 3 hts (im_good wd_863) rfl rfl rfl (hts _ wd_10) (hts _ wd_860) (by decide +kernel) ⟨Nat.le_of_ble_eq_true rfl, Nat.le_of_ble_eq_true rfl⟩), hts _ wd_862, hts _ sl_Model_putShort⟩ (im_preV im_NW_ok hK hN hH (ci := 9) rfl rfl h16 _) rfl rfl hl.1 rfl (lv_room (Nat.le_of_ble_eq_true rfl)) d_Model_goOn_119 ⟨Nat.le_of_ble_eq_true rfl, Nat.le_of_ble_eq_true rfl⟩) hH (fun H locs hH => ?_)
    refine lv_aload_n hx hb d_Model_goOn_122 rfl (lv_at hl 0 rfl) ?_
    refine lv_aload_n hx hb d_Model_goOn_123 rfl (lv_at hl 0 rfl) ?_
    obtain ⟨f19, h20, hsh⟩ := im_bd hsh
    refine im_getI hx hb hts inC_Model hown hK hH (ci := 9) rfl 13 (by decide) (hts _ wd_644) rfl h20 d_Model_goOn_124 ?_
    obtain ⟨w21, h22, hsh⟩ := im_bd hsh
    refine im_put (v := .int f19) hx hb hts inC_Model tyC_Model tyC_Model_ok nmC_Model hown hK hH (ci := 9) rfl 15 (by decide) (hts _ wd_646) rfl rfl rfl rfl h22 d_Model_goOn_127 (fun H locs hH => ?_)
    refine lv_iconst (v := 0) hx hb d_Model_goOn_130 (by decide) ?_
    refine lv_istore_n (lv' := [(3, .int (0 : Int32)), (0, .ref (lo + x0)), (1, .int x1), (2, .int x2)]) hx hb d_Model_goOn_131 rfl hl (by decide) rfl (fun ls hl => ?_)
    exact bk_Model_goOn_132 X F x0 (0 : Int32) w21 hsh H locs ls hH (lv_sub hl [1, 0] rfl)
def sh_Model_goOn_57 (F : Nat) (k3 : Nat → Int32 → im_W → Option (im_W)) : Nat → Nat → Int32 → Int32 → Int32 → im_W → Option (im_W)
  | 0, _, _, _, _, _ => none
  | f + 1, x0, x1, x2, x3, w => (im_gI w 9 x0 15).bind fun f1 => (if f1 ≤ x3 then sh_Model_goOn_96 F k3 x0 x1 x2 w else (if x2 = 0 then sh_Model_goOn_96 F k3 x0 x1 x2 w else (im_gR w 9 x0 14).bind fun f3 => (im_lI w 2 f3 x3).bind fun e5 => (im_gR w 9 x0 16).bind fun f7 => (im_lI w 2 f7 x3).bind fun e9 => (if e5 = e9 then sh_Model_goOn_89 F k3 (sh_Model_goOn_57 F k3 f) x0 x1 x3 (1 : Int32) w else sh_Model_goOn_89 F k3 (sh_Model_goOn_57 F k3 f) x0 x1 x3 (0 : Int32) w)))
set_option maxHeartbeats 4000000 in
set_option maxRecDepth 100000 in
theorem bk_Model_goOn_57 {F : Nat} {r : im_W} (X : im_X D vwCl tA lo im_NW c_Model_goOn 4 none RC_Model im_T p s m args meth c) {k3 : Nat → Int32 → im_W → Option (im_W)} (hk3 : ∀ (x0 : Nat) (x1 : Int32) (w : im_W), k3 x0 x1 w = some r → im_WW D vwCl tA lo 4 p l e (im_rm 3 69) s m args below meth c 0 0 (MQ below (im_Post D vwCl tA lo none r) args s 0 0 (fun q => lo ≤ q)) 3 [(0, .ref (lo + x0)), (1, .int x1)] [] w) : ∀ (f : Nat) (x0 : Nat) (x1 : Int32) (x2 : Int32) (x3 : Int32) (w : im_W), sh_Model_goOn_57 F k3 f x0 x1 x2 x3 w = some r → im_WW D vwCl tA lo 4 p l e (im_rm 3 69) s m args below meth c 0 0 (MQ below (im_Post D vwCl tA lo none r) args s 0 0 (fun q => lo ≤ q)) 57 [(0, .ref (lo + x0)), (1, .int x1), (2, .int x2), (3, .int x3)] [] w := by
  obtain ⟨hx, hb, hr, hts, hown, hlk, hml, hK, hN⟩ := id X
  intro f
  induction f with
  | zero =>
    intro x0 x1 x2 x3 w hsh
    cases hsh
  | succ f ih =>
    intro x0 x1 x2 x3 w hsh H locs ls hH hl
    unfold sh_Model_goOn_57 at hsh
    refine lv_iload_n hx hb d_Model_goOn_57 rfl (lv_at hl 3 rfl) ?_
    refine lv_aload_n hx hb d_Model_goOn_58 rfl (lv_at hl 0 rfl) ?_
    obtain ⟨f1, h2, hsh⟩ := im_bd hsh
    refine im_getI hx hb hts inC_Model hown hK hH (ci := 9) rfl 15 (by decide) (hts _ wd_646) rfl h2 d_Model_goOn_59 ?_
    refine lv_icmp_ge (tgt := 96) hx hb d_Model_goOn_62 (by decide) (fun cc => ?_) (fun cc => ?_)
    · have hsh := im_it hsh cc
      exact bk_Model_goOn_96 X hk3 x0 x1 x2 w hsh H locs ls hH (lv_sub hl [0, 1, 2] rfl)
    · have hsh := im_if hsh cc
      refine lv_iload_n hx hb d_Model_goOn_65 rfl (lv_at hl 2 rfl) ?_
      refine lv_if_eq (tgt := 96) hx hb d_Model_goOn_66 (by decide) (fun cc => ?_) (fun cc => ?_)
      · have hsh := im_it hsh cc
        exact bk_Model_goOn_96 X hk3 x0 x1 x2 w hsh H locs ls hH (lv_sub hl [0, 1, 2] rfl)
      · have hsh := im_if hsh cc
        refine lv_aload_n hx hb d_Model_goOn_69 rfl (lv_at hl 0 rfl) ?_
        obtain ⟨f3, h4, hsh⟩ := im_bd hsh
        refine im_getR hx hb hts inC_Model hown hK hH (ci := 9) rfl 14 (by decide) (hts _ wd_645) rfl h4 d_Model_goOn_70 ?_
        refine lv_iload_n hx hb d_Model_goOn_73 rfl (lv_at hl 3 rfl) ?_
        obtain ⟨e5, h6, hsh⟩ := im_bd hsh
        refine im_cald hx hb hK hH h6 d_Model_goOn_74 ?_
        refine lv_aload_n hx hb d_Model_goOn_75 rfl (lv_at hl 0 rfl) ?_
        obtain ⟨f7, h8, hsh⟩ := im_bd hsh
        refine im_getR hx hb hts inC_Model hown hK hH (ci := 9) rfl 16 (by decide) (hts _ wd_647) rfl h8 d_Model_goOn_76 ?_
        refine lv_iload_n hx hb d_Model_goOn_79 rfl (lv_at hl 3 rfl) ?_
        obtain ⟨e9, h10, hsh⟩ := im_bd hsh
        refine im_cald hx hb hK hH h10 d_Model_goOn_80 ?_
        refine lv_icmp_ne (tgt := 88) hx hb d_Model_goOn_81 (by decide) (fun cc => ?_) (fun cc => ?_)
        · have hsh := im_if hsh cc
          refine lv_iconst (v := 0) hx hb d_Model_goOn_88 (by decide) ?_
          exact bk_Model_goOn_89 X hk3 ih x0 x1 x3 (0 : Int32) w hsh H locs ls hH (lv_sub hl [0, 1, 3] rfl)
        · have hsh := im_it hsh cc
          refine lv_iconst (v := 1) hx hb d_Model_goOn_84 (by decide) ?_
          refine lv_goto (tgt := 89) hx hb d_Model_goOn_85 (by decide) ?_
          exact bk_Model_goOn_89 X hk3 ih x0 x1 x3 (1 : Int32) w hsh H locs ls hH (lv_sub hl [0, 1, 3] rfl)
def sh_Model_goOn_54 (F : Nat) (k3 : Nat → Int32 → im_W → Option (im_W)) (x0 : Nat) (x1 : Int32) (y0 : Int32) (w : im_W) : Option (im_W) :=
  sh_Model_goOn_57 F k3 F x0 x1 y0 (0 : Int32) w
set_option maxHeartbeats 4000000 in
set_option maxRecDepth 100000 in
theorem bk_Model_goOn_54 {F : Nat} {r : im_W} (X : im_X D vwCl tA lo im_NW c_Model_goOn 4 none RC_Model im_T p s m args meth c) {k3 : Nat → Int32 → im_W → Option (im_W)} (hk3 : ∀ (x0 : Nat) (x1 : Int32) (w : im_W), k3 x0 x1 w = some r → im_WW D vwCl tA lo 4 p l e (im_rm 3 69) s m args below meth c 0 0 (MQ below (im_Post D vwCl tA lo none r) args s 0 0 (fun q => lo ≤ q)) 3 [(0, .ref (lo + x0)), (1, .int x1)] [] w) (x0 : Nat) (x1 : Int32) (y0 : Int32) (w : im_W) (hsh : sh_Model_goOn_54 F k3 x0 x1 y0 w = some r) : im_WW D vwCl tA lo 4 p l e (im_rm 3 69) s m args below meth c 0 0 (MQ below (im_Post D vwCl tA lo none r) args s 0 0 (fun q => lo ≤ q)) 54 [(0, .ref (lo + x0)), (1, .int x1)] [.int y0] w := by
  obtain ⟨hx, hb, hr, hts, hown, hlk, hml, hK, hN⟩ := id X
  intro H locs ls hH hl
  unfold sh_Model_goOn_54 at hsh
  refine lv_istore_n (lv' := [(2, .int y0), (0, .ref (lo + x0)), (1, .int x1)]) hx hb d_Model_goOn_54 rfl hl (by decide) rfl (fun ls hl => ?_)
  refine lv_iconst (v := 0) hx hb d_Model_goOn_55 (by decide) ?_
  refine lv_istore_n (lv' := [(3, .int (0 : Int32)), (2, .int y0), (0, .ref (lo + x0)), (1, .int x1)]) hx hb d_Model_goOn_56 rfl hl (by decide) rfl (fun ls hl => ?_)
  exact bk_Model_goOn_57 X hk3 F x0 x1 y0 (0 : Int32) w hsh H locs ls hH (lv_sub hl [2, 3, 1, 0] rfl)
def sh_Model_goOn_3 (F : Nat) : Nat → Nat → Int32 → im_W → Option (im_W)
  | 0, _, _, _ => none
  | f + 1, x0, x1, w => (im_gR w 9 x0 21).bind fun f1 => (im_lI w 0 f1 (1 : Int32)).bind fun e3 => (if ((10 : Int32) + e3) ≤ x1 then (im_is w 9 x0).bind fun u5 => (sh_Model_truncate F x0 w).bind fun w9 => some w9 else (im_gR w 9 x0 22).bind fun f11 => (im_lI w 0 f11 x1).bind fun e13 => (im_gR w 9 x0 23).bind fun f15 => (im_lI w 0 f15 x1).bind fun e17 => (im_gR w 9 x0 24).bind fun f19 => (im_lI w 0 f19 x1).bind fun e21 => (im_is w 9 x0).bind fun u23 => (sh_Model_putShort F x0 e13 e17 e21 w).bind fun w27 => (im_gI w27 9 x0 13).bind fun f29 => (im_gI w27 9 x0 15).bind fun f31 => (if f29 = f31 then sh_Model_goOn_54 F (sh_Model_goOn_3 F f) x0 x1 (1 : Int32) w27 else sh_Model_goOn_54 F (sh_Model_goOn_3 F f) x0 x1 (0 : Int32) w27))
set_option maxHeartbeats 4000000 in
set_option maxRecDepth 100000 in
theorem bk_Model_goOn_3 {F : Nat} {r : im_W} (X : im_X D vwCl tA lo im_NW c_Model_goOn 4 none RC_Model im_T p s m args meth c) : ∀ (f : Nat) (x0 : Nat) (x1 : Int32) (w : im_W), sh_Model_goOn_3 F f x0 x1 w = some r → im_WW D vwCl tA lo 4 p l e (im_rm 3 69) s m args below meth c 0 0 (MQ below (im_Post D vwCl tA lo none r) args s 0 0 (fun q => lo ≤ q)) 3 [(0, .ref (lo + x0)), (1, .int x1)] [] w := by
  obtain ⟨hx, hb, hr, hts, hown, hlk, hml, hK, hN⟩ := id X
  intro f
  induction f with
  | zero =>
    intro x0 x1 w hsh
    cases hsh
  | succ f ih =>
    intro x0 x1 w hsh H locs ls hH hl
    unfold sh_Model_goOn_3 at hsh
    refine lv_iload_n hx hb d_Model_goOn_3 rfl (lv_at hl 1 rfl) ?_
    refine lv_bipush (v := 10) hx hb d_Model_goOn_4 (by decide) ?_
    refine lv_aload_n hx hb d_Model_goOn_6 rfl (lv_at hl 0 rfl) ?_
    obtain ⟨f1, h2, hsh⟩ := im_bd hsh
    refine im_getR hx hb hts inC_Model hown hK hH (ci := 9) rfl 21 (by decide) (hts _ wd_652) rfl h2 d_Model_goOn_7 ?_
    refine lv_iconst (v := 1) hx hb d_Model_goOn_10 (by decide) ?_
    obtain ⟨e3, h4, hsh⟩ := im_bd hsh
    refine im_iald hx hb hK hH h4 d_Model_goOn_11 ?_
    refine lv_iadd hx hb d_Model_goOn_12 ?_
    refine lv_icmp_ge (tgt := 165) hx hb d_Model_goOn_13 (by decide) (fun cc => ?_) (fun cc => ?_)
    · have hsh := im_it hsh cc
      refine lv_aload_n hx hb d_Model_goOn_165 rfl (lv_at hl 0 rfl) ?_
      obtain ⟨u5, h6, hsh⟩ := im_bd hsh
      obtain ⟨g7, h8⟩ := im_is_s h6
      obtain ⟨w9, h10, hsh⟩ := im_bd hsh
      refine im_afterV (va_runV (As := []) (rest := []) (C := RC_Model) ⟨hx, hb, hml, hown, hts⟩ (met_Model_truncate h10) ⟨(callB_of 0 hts (im_good wd_971) rfl rfl rfl (hts _ wd_10) (hts _ wd_968) (by decide +kernel) ⟨Nat.le_of_ble_eq_true rfl, Nat.le_of_ble_eq_true rfl⟩), hts _ wd_970, hts _ sl_Model_truncate⟩ (im_preV im_NW_ok hK hN hH (ci := 9) rfl rfl h8 _) rfl rfl hl.1 rfl (lv_room (Nat.le_of_ble_eq_true rfl)) d_Model_goOn_166 ⟨Nat.le_of_ble_eq_true rfl, Nat.le_of_ble_eq_true rfl⟩) hH (fun H locs hH => ?_)
      obtain rfl := Option.some.inj hsh
      exact im_vret hx hb hr hlk hH d_Model_goOn_169
    · have hsh := im_if hsh cc
      refine lv_aload_n hx hb d_Model_goOn_16 rfl (lv_at hl 0 rfl) ?_
      refine lv_aload_n hx hb d_Model_goOn_17 rfl (lv_at hl 0 rfl) ?_
      obtain ⟨f11, h12, hsh⟩ := im_bd hsh
      refine im_getR hx hb hts inC_Model hown hK hH (ci := 9) rfl 22 (by decide) (hts _ wd_653) rfl h12 d_Model_goOn_18 ?_
      refine lv_iload_n hx hb d_Model_goOn_21 rfl (lv_at hl 1 rfl) ?_
      obtain ⟨e13, h14, hsh⟩ := im_bd hsh
      refine im_iald hx hb hK hH h14 d_Model_goOn_22 ?_
      refine lv_aload_n hx hb d_Model_goOn_23 rfl (lv_at hl 0 rfl) ?_
      obtain ⟨f15, h16, hsh⟩ := im_bd hsh
      refine im_getR hx hb hts inC_Model hown hK hH (ci := 9) rfl 23 (by decide) (hts _ wd_654) rfl h16 d_Model_goOn_24 ?_
      refine lv_iload_n hx hb d_Model_goOn_27 rfl (lv_at hl 1 rfl) ?_
      obtain ⟨e17, h18, hsh⟩ := im_bd hsh
      refine im_iald hx hb hK hH h18 d_Model_goOn_28 ?_
      refine lv_aload_n hx hb d_Model_goOn_29 rfl (lv_at hl 0 rfl) ?_
      obtain ⟨f19, h20, hsh⟩ := im_bd hsh
      refine im_getR hx hb hts inC_Model hown hK hH (ci := 9) rfl 24 (by decide) (hts _ wd_655) rfl h20 d_Model_goOn_30 ?_
      refine lv_iload_n hx hb d_Model_goOn_33 rfl (lv_at hl 1 rfl) ?_
      obtain ⟨e21, h22, hsh⟩ := im_bd hsh
      refine im_iald hx hb hK hH h22 d_Model_goOn_34 ?_
      obtain ⟨u23, h24, hsh⟩ := im_bd hsh
      obtain ⟨g25, h26⟩ := im_is_s h24
      obtain ⟨w27, h28, hsh⟩ := im_bd hsh
      refine im_afterV (va_runV (As := [.int e13, .int e17, .int e21]) (rest := []) (C := RC_Model) ⟨hx, hb, hml, hown, hts⟩ (met_Model_putShort h28) ⟨(callB_of 3 hts (im_good wd_863) rfl rfl rfl (hts _ wd_10) (hts _ wd_860) (by decide +kernel) ⟨Nat.le_of_ble_eq_true rfl, Nat.le_of_ble_eq_true rfl⟩), hts _ wd_862, hts _ sl_Model_putShort⟩ (im_preV im_NW_ok hK hN hH (ci := 9) rfl rfl h26 _) rfl rfl hl.1 rfl (lv_room (Nat.le_of_ble_eq_true rfl)) d_Model_goOn_35 ⟨Nat.le_of_ble_eq_true rfl, Nat.le_of_ble_eq_true rfl⟩) hH (fun H locs hH => ?_)
      refine lv_aload_n hx hb d_Model_goOn_38 rfl (lv_at hl 0 rfl) ?_
      obtain ⟨f29, h30, hsh⟩ := im_bd hsh
      refine im_getI hx hb hts inC_Model hown hK hH (ci := 9) rfl 13 (by decide) (hts _ wd_644) rfl h30 d_Model_goOn_39 ?_
      refine lv_aload_n hx hb d_Model_goOn_42 rfl (lv_at hl 0 rfl) ?_
      obtain ⟨f31, h32, hsh⟩ := im_bd hsh
      refine im_getI hx hb hts inC_Model hown hK hH (ci := 9) rfl 15 (by decide) (hts _ wd_646) rfl h32 d_Model_goOn_43 ?_
      refine lv_icmp_ne (tgt := 53) hx hb d_Model_goOn_46 (by decide) (fun cc => ?_) (fun cc => ?_)
      · have hsh := im_if hsh cc
        refine lv_iconst (v := 0) hx hb d_Model_goOn_53 (by decide) ?_
        exact bk_Model_goOn_54 X ih x0 x1 (0 : Int32) w27 hsh H locs ls hH (lv_sub hl [0, 1] rfl)
      · have hsh := im_it hsh cc
        refine lv_iconst (v := 1) hx hb d_Model_goOn_49 (by decide) ?_
        refine lv_goto (tgt := 54) hx hb d_Model_goOn_50 (by decide) ?_
        exact bk_Model_goOn_54 X ih x0 x1 (1 : Int32) w27 hsh H locs ls hH (lv_sub hl [0, 1] rfl)
def sh_Model_goOn (F : Nat) (x0 : Nat) (w : im_W) : Option (im_W) :=
  sh_Model_goOn_3 F F x0 (10 : Int32) w
set_option maxHeartbeats 4000000 in
set_option maxRecDepth 100000 in
theorem met_Model_goOn {F : Nat} {x0 : Nat} {w : im_W} {r : im_W} (hsh : sh_Model_goOn F x0 w = some r) : Met l y_Model_goOn (Cond.code y_Model_goOn c_Model_goOn 4 none :: im_T) (im_rm 3 69) (im_Pre D vwCl tA lo im_NW [.ref (lo + x0)] w) (im_Post D vwCl tA lo none r) 0 0 (fun q => lo ≤ q) := by
  refine im_ofW (cc := c_Model_goOn) (nL := 4) (ret := none) (by decide) (Nat.le_of_ble_eq_true rfl) ?_
  intro p e s m args below meth c X H locs ls hH hl
  obtain ⟨hx, hb, hr, hts, hown, hlk, hml, hK, hN⟩ := id X
  have hl : lv_has ls 4 [(0, .ref (lo + x0))] := hl
  unfold sh_Model_goOn at hsh
  refine lv_bipush (v := 10) hx hb d_Model_goOn_0 (by decide) ?_
  refine lv_istore_n (lv' := [(1, .int (10 : Int32)), (0, .ref (lo + x0))]) hx hb d_Model_goOn_2 rfl hl (by decide) rfl (fun ls hl => ?_)
  exact bk_Model_goOn_3 X F x0 (10 : Int32) w hsh H locs ls hH (lv_sub hl [1, 0] rfl)
theorem wd_674 : (Jvm.Cond.fieldLink "LanguageTagsModel" (289 : Nat) "LanguageTagsModel" "place" "I") ∈ im_T := im_memT (i := 674) (by decide +kernel) (by decide +kernel)
theorem wd_993 : (Jvm.Cond.methodLink "LanguageTagsModel" (292 : Nat) ({ cls := "LanguageTagsModel", name := "goOn", desc := "()V" } : Jvm.MethodName)) ∈ im_T := im_memT (i := 993) (by decide +kernel) (by decide +kernel)
theorem wd_995 : (Jvm.Cond.instanceMethod ({ cls := "LanguageTagsModel", name := "goOn", desc := "()V" } : Jvm.MethodName)) ∈ im_T := im_memT (i := 995) (by decide +kernel) (by decide +kernel)
theorem wd_996 : (Jvm.Cond.code ({ cls := "LanguageTagsModel", name := "goOn", desc := "()V" } : Jvm.MethodName) prog_12_method_58_code (4 : Nat) (Option.none : Option Jvm.ClassFile.FieldType)) ∈ im_T := im_memT (i := 996) (by decide +kernel) (by decide +kernel)
theorem d_Model_get_0 : decode c_Model_get 0 = .ok (.aload_n 0, 1) := by decide +kernel
theorem d_Model_get_1 : decode c_Model_get 1 = .ok (.iconst 0, 1) := by decide +kernel
theorem d_Model_get_2 : decode c_Model_get 2 = .ok (.putfield 289, 3) := by decide +kernel
theorem d_Model_get_5 : decode c_Model_get 5 = .ok (.aload_n 0, 1) := by decide +kernel
theorem d_Model_get_6 : decode c_Model_get 6 = .ok (.iload_n 1, 1) := by decide +kernel
theorem d_Model_get_7 : decode c_Model_get 7 = .ok (.invokevirtual 251, 3) := by decide +kernel
theorem d_Model_get_10 : decode c_Model_get 10 = .ok (.ifCond .ne (13), 3) := by decide +kernel
theorem d_Model_get_13 : decode c_Model_get 13 = .ok (.iload_n 2, 1) := by decide +kernel
theorem d_Model_get_14 : decode c_Model_get 14 = .ok (.ifCond .lt (9), 3) := by decide +kernel
theorem d_Model_get_17 : decode c_Model_get 17 = .ok (.iload_n 2, 1) := by decide +kernel
theorem d_Model_get_18 : decode c_Model_get 18 = .ok (.bipush (7), 2) := by decide +kernel
theorem d_Model_get_20 : decode c_Model_get 20 = .ok (.if_icmp .le (5), 3) := by decide +kernel
theorem d_Model_get_23 : decode c_Model_get 23 = .ok (.iconst 0, 1) := by decide +kernel
theorem d_Model_get_24 : decode c_Model_get 24 = .ok (.ireturn, 1) := by decide +kernel
theorem d_Model_get_25 : decode c_Model_get 25 = .ok (.aload_n 0, 1) := by decide +kernel
theorem d_Model_get_26 : decode c_Model_get 26 = .ok (.iload_n 1, 1) := by decide +kernel
theorem d_Model_get_27 : decode c_Model_get 27 = .ok (.invokevirtual 277, 3) := by decide +kernel
theorem d_Model_get_30 : decode c_Model_get 30 = .ok (.iconst 1, 1) := by decide +kernel
theorem d_Model_get_31 : decode c_Model_get 31 = .ok (.istore_n 3, 1) := by decide +kernel
theorem d_Model_get_32 : decode c_Model_get 32 = .ok (.iload_n 3, 1) := by decide +kernel
theorem d_Model_get_33 : decode c_Model_get 33 = .ok (.bipush (12), 2) := by decide +kernel
theorem d_Model_get_35 : decode c_Model_get 35 = .ok (.if_icmp .gt (64), 3) := by decide +kernel
theorem d_Model_get_38 : decode c_Model_get 38 = .ok (.aload_n 0, 1) := by decide +kernel
theorem d_Model_get_39 : decode c_Model_get 39 = .ok (.getfield 271, 3) := by decide +kernel
theorem d_Model_get_42 : decode c_Model_get 42 = .ok (.ifCond .le (57), 3) := by decide +kernel
theorem d_Model_get_45 : decode c_Model_get 45 = .ok (.aload_n 0, 1) := by decide +kernel
theorem d_Model_get_46 : decode c_Model_get 46 = .ok (.invokevirtual 280, 3) := by decide +kernel
theorem d_Model_get_49 : decode c_Model_get 49 = .ok (.istore 4, 2) := by decide +kernel
theorem d_Model_get_51 : decode c_Model_get 51 = .ok (.iload 4, 2) := by decide +kernel
theorem d_Model_get_53 : decode c_Model_get 53 = .ok (.ifCond .lt (36), 3) := by decide +kernel
theorem d_Model_get_56 : decode c_Model_get 56 = .ok (.aload_n 0, 1) := by decide +kernel
theorem d_Model_get_57 : decode c_Model_get 57 = .ok (.getfield 81, 3) := by decide +kernel
theorem d_Model_get_60 : decode c_Model_get 60 = .ok (.bipush (8), 2) := by decide +kernel
theorem d_Model_get_62 : decode c_Model_get 62 = .ok (.iload 4, 2) := by decide +kernel
theorem d_Model_get_64 : decode c_Model_get 64 = .ok (.imul, 1) := by decide +kernel
theorem d_Model_get_65 : decode c_Model_get 65 = .ok (.iload_n 2, 1) := by decide +kernel
theorem d_Model_get_66 : decode c_Model_get 66 = .ok (.iadd, 1) := by decide +kernel
theorem d_Model_get_67 : decode c_Model_get 67 = .ok (.baload, 1) := by decide +kernel
theorem d_Model_get_68 : decode c_Model_get 68 = .ok (.ifCond .eq (21), 3) := by decide +kernel
theorem d_Model_get_71 : decode c_Model_get 71 = .ok (.aload_n 0, 1) := by decide +kernel
theorem d_Model_get_72 : decode c_Model_get 72 = .ok (.iload_n 3, 1) := by decide +kernel
theorem d_Model_get_73 : decode c_Model_get 73 = .ok (.putfield 289, 3) := by decide +kernel
theorem d_Model_get_76 : decode c_Model_get 76 = .ok (.aload_n 0, 1) := by decide +kernel
theorem d_Model_get_77 : decode c_Model_get 77 = .ok (.getfield 78, 3) := by decide +kernel
theorem d_Model_get_80 : decode c_Model_get 80 = .ok (.bipush (8), 2) := by decide +kernel
theorem d_Model_get_82 : decode c_Model_get 82 = .ok (.iload 4, 2) := by decide +kernel
theorem d_Model_get_84 : decode c_Model_get 84 = .ok (.imul, 1) := by decide +kernel
theorem d_Model_get_85 : decode c_Model_get 85 = .ok (.iload_n 2, 1) := by decide +kernel
theorem d_Model_get_86 : decode c_Model_get 86 = .ok (.iadd, 1) := by decide +kernel
theorem d_Model_get_87 : decode c_Model_get 87 = .ok (.iaload, 1) := by decide +kernel
theorem d_Model_get_88 : decode c_Model_get 88 = .ok (.ireturn, 1) := by decide +kernel
theorem d_Model_get_89 : decode c_Model_get 89 = .ok (.aload_n 0, 1) := by decide +kernel
theorem d_Model_get_90 : decode c_Model_get 90 = .ok (.invokevirtual 292, 3) := by decide +kernel
theorem d_Model_get_93 : decode c_Model_get 93 = .ok (.iinc 3 (1), 3) := by decide +kernel
theorem d_Model_get_96 : decode c_Model_get 96 = .ok (.goto (-64), 3) := by decide +kernel
theorem d_Model_get_99 : decode c_Model_get 99 = .ok (.iconst 0, 1) := by decide +kernel
theorem d_Model_get_100 : decode c_Model_get 100 = .ok (.ireturn, 1) := by decide +kernel
def sh_Model_get_23 (F : Nat)  (w : im_W) : Option (Int32 × im_W) :=
  some ((0 : Int32), w)
set_option maxHeartbeats 4000000 in
set_option maxRecDepth 100000 in
theorem bk_Model_get_23 {F : Nat} {r : Int32 × im_W} (X : im_X D vwCl tA lo im_NW c_Model_get 5 (some .int) RC_Model im_T p s m args meth c)  (w : im_W) (hsh : sh_Model_get_23 F w = some r) : im_WW D vwCl tA lo 5 p l e (im_rm 4 92) s m args below meth c 0 0 (MQ below (im_Post D vwCl tA lo (some (.int r.1)) r.2) args s 0 0 (fun q => lo ≤ q)) 23 [] [] w := by
  obtain ⟨hx, hb, hr, hts, hown, hlk, hml, hK, hN⟩ := id X
  intro H locs ls hH hl
  unfold sh_Model_get_23 at hsh
  refine lv_iconst (v := 0) hx hb d_Model_get_23 (by decide) ?_
  obtain rfl := Option.some.inj hsh
  exact im_iret hx hb hr hlk hH d_Model_get_24
def sh_Model_get_89 (F : Nat) (k32 : Nat → Int32 → Int32 → im_W → Option (Int32 × im_W)) (x0 : Nat) (x2 : Int32) (x3 : Int32) (w : im_W) : Option (Int32 × im_W) :=
  (im_is w 9 x0).bind fun u1 => (sh_Model_goOn F x0 w).bind fun w5 => k32 x0 x2 (x3 + (1 : Int32)) w5
set_option maxHeartbeats 4000000 in
set_option maxRecDepth 100000 in
theorem bk_Model_get_89 {F : Nat} {r : Int32 × im_W} (X : im_X D vwCl tA lo im_NW c_Model_get 5 (some .int) RC_Model im_T p s m args meth c) {k32 : Nat → Int32 → Int32 → im_W → Option (Int32 × im_W)} (hk32 : ∀ (x0 : Nat) (x2 : Int32) (x3 : Int32) (w : im_W), k32 x0 x2 x3 w = some r → im_WW D vwCl tA lo 5 p l e (im_rm 4 92) s m args below meth c 0 0 (MQ below (im_Post D vwCl tA lo (some (.int r.1)) r.2) args s 0 0 (fun q => lo ≤ q)) 32 [(0, .ref (lo + x0)), (2, .int x2), (3, .int x3)] [] w) (x0 : Nat) (x2 : Int32) (x3 : Int32) (w : im_W) (hsh : sh_Model_get_89 F k32 x0 x2 x3 w = some r) : im_WW D vwCl tA lo 5 p l e (im_rm 4 92) s m args below meth c 0 0 (MQ below (im_Post D vwCl tA lo (some (.int r.1)) r.2) args s 0 0 (fun q => lo ≤ q)) 89 [(0, .ref (lo + x0)), (2, .int x2), (3, .int x3)] [] w := by
  obtain ⟨hx, hb, hr, hts, hown, hlk, hml, hK, hN⟩ := id X
  intro H locs ls hH hl
  unfold sh_Model_get_89 at hsh
  refine lv_aload_n hx hb d_Model_get_89 rfl (lv_at hl 0 rfl) ?_
  obtain ⟨u1, h2, hsh⟩ := im_bd hsh
  obtain ⟨g3, h4⟩ := im_is_s h2
  obtain ⟨w5, h6, hsh⟩ := im_bd hsh
  refine im_afterV (va_runV (As := []) (rest := []) (C := RC_Model) ⟨hx, hb, hml, hown, hts⟩ (met_Model_goOn h6) ⟨(callB_of 0 hts (im_good wd_996) rfl rfl rfl (hts _ wd_10) (hts _ wd_993) (by decide +kernel) ⟨Nat.le_of_ble_eq_true rfl, Nat.le_of_ble_eq_true rfl⟩), hts _ wd_995, hts _ sl_Model_goOn⟩ (im_preV im_NW_ok hK hN hH (ci := 9) rfl rfl h4 _) rfl rfl hl.1 rfl (lv_room (Nat.le_of_ble_eq_true rfl)) d_Model_get_90 ⟨Nat.le_of_ble_eq_true rfl, Nat.le_of_ble_eq_true rfl⟩) hH (fun H locs hH => ?_)
  refine lv_iinc (v := (x3 + (1 : Int32))) (lv' := [(3, .int (x3 + (1 : Int32))), (0, .ref (lo + x0)), (2, .int x2)]) hx hb d_Model_get_93 hl (k := 2) rfl rfl (by decide) rfl (fun ls hl => ?_)
  refine lv_goto (tgt := 32) hx hb d_Model_get_96 (by decide) ?_
  exact hk32 x0 x2 (x3 + (1 : Int32)) w5 hsh H locs ls hH (lv_sub hl [1, 2, 0] rfl)
def sh_Model_get_99 (F : Nat)  (w : im_W) : Option (Int32 × im_W) :=
  some ((0 : Int32), w)
set_option maxHeartbeats 4000000 in
set_option maxRecDepth 100000 in
theorem bk_Model_get_99 {F : Nat} {r : Int32 × im_W} (X : im_X D vwCl tA lo im_NW c_Model_get 5 (some .int) RC_Model im_T p s m args meth c)  (w : im_W) (hsh : sh_Model_get_99 F w = some r) : im_WW D vwCl tA lo 5 p l e (im_rm 4 92) s m args below meth c 0 0 (MQ below (im_Post D vwCl tA lo (some (.int r.1)) r.2) args s 0 0 (fun q => lo ≤ q)) 99 [] [] w := by
  obtain ⟨hx, hb, hr, hts, hown, hlk, hml, hK, hN⟩ := id X
  intro H locs ls hH hl
  unfold sh_Model_get_99 at hsh
  refine lv_iconst (v := 0) hx hb d_Model_get_99 (by decide) ?_
  obtain rfl := Option.some.inj hsh
  exact im_iret hx hb hr hlk hH d_Model_get_100
def sh_Model_get_32 (F : Nat) : Nat → Nat → Int32 → Int32 → im_W → Option (Int32 × im_W)
  | 0, _, _, _, _ => none
  | f + 1, x0, x2, x3, w => (if (12 : Int32) < x3 then sh_Model_get_99 F w else (im_gI w 9 x0 15).bind fun f1 => (if f1 ≤ 0 then sh_Model_get_99 F w else (im_is w 9 x0).bind fun u3 => im_b2 (sh_Model_cutTag F x0 w) fun v9 w7 => (if v9 < 0 then sh_Model_get_89 F (sh_Model_get_32 F f) x0 x2 x3 w7 else (im_gR w7 9 x0 38).bind fun f10 => (im_lI w7 3 f10 (((8 : Int32) * v9) + x2)).bind fun e12 => (if e12 = 0 then sh_Model_get_89 F (sh_Model_get_32 F f) x0 x2 x3 w7 else (im_pV w7 9 x0 43 (.int x3)).bind fun w14 => (im_gR w14 9 x0 37).bind fun f16 => (im_lI w14 0 f16 (((8 : Int32) * v9) + x2)).bind fun e18 => some (e18, w14)))))
set_option maxHeartbeats 4000000 in
set_option maxRecDepth 100000 in
theorem bk_Model_get_32 {F : Nat} {r : Int32 × im_W} (X : im_X D vwCl tA lo im_NW c_Model_get 5 (some .int) RC_Model im_T p s m args meth c) : ∀ (f : Nat) (x0 : Nat) (x2 : Int32) (x3 : Int32) (w : im_W), sh_Model_get_32 F f x0 x2 x3 w = some r → im_WW D vwCl tA lo 5 p l e (im_rm 4 92) s m args below meth c 0 0 (MQ below (im_Post D vwCl tA lo (some (.int r.1)) r.2) args s 0 0 (fun q => lo ≤ q)) 32 [(0, .ref (lo + x0)), (2, .int x2), (3, .int x3)] [] w := by
  obtain ⟨hx, hb, hr, hts, hown, hlk, hml, hK, hN⟩ := id X
  intro f
  induction f with
  | zero =>
    intro x0 x2 x3 w hsh
    cases hsh
  | succ f ih =>
    intro x0 x2 x3 w hsh H locs ls hH hl
    unfold sh_Model_get_32 at hsh
    refine lv_iload_n hx hb d_Model_get_32 rfl (lv_at hl 2 rfl) ?_
    refine lv_bipush (v := 12) hx hb d_Model_get_33 (by decide) ?_
    refine lv_icmp_gt (tgt := 99) hx hb d_Model_get_35 (by decide) (fun cc => ?_) (fun cc => ?_)
    · have hsh := im_it hsh cc
      exact bk_Model_get_99 X w hsh H locs ls hH (lv_sub hl [] rfl)
    · have hsh := im_if hsh cc
      refine lv_aload_n hx hb d_Model_get_38 rfl (lv_at hl 0 rfl) ?_
      obtain ⟨f1, h2, hsh⟩ := im_bd hsh
      refine im_getI hx hb hts inC_Model hown hK hH (ci := 9) rfl 15 (by decide) (hts _ wd_646) rfl h2 d_Model_get_39 ?_
      refine lv_if_le (tgt := 99) hx hb d_Model_get_42 (by decide) (fun cc => ?_) (fun cc => ?_)
      · have hsh := im_it hsh cc
        exact bk_Model_get_99 X w hsh H locs ls hH (lv_sub hl [] rfl)
      · have hsh := im_if hsh cc
        refine lv_aload_n hx hb d_Model_get_45 rfl (lv_at hl 0 rfl) ?_
        obtain ⟨u3, h4, hsh⟩ := im_bd hsh
        obtain ⟨g5, h6⟩ := im_is_s h4
        obtain ⟨v9, w7, h8, hsh⟩ := im_bd2 hsh
        refine im_afterI (va_runV (As := []) (rest := []) (C := RC_Model) ⟨hx, hb, hml, hown, hts⟩ (met_Model_cutTag h8) ⟨(callB_of 0 hts (im_good wd_967) rfl rfl rfl (hts _ wd_10) (hts _ wd_964) (by decide +kernel) ⟨Nat.le_of_ble_eq_true rfl, Nat.le_of_ble_eq_true rfl⟩), hts _ wd_966, hts _ sl_Model_cutTag⟩ (im_preV im_NW_ok hK hN hH (ci := 9) rfl rfl h6 _) rfl rfl hl.1 rfl (lv_room (Nat.le_of_ble_eq_true rfl)) d_Model_get_46 ⟨Nat.le_of_ble_eq_true rfl, Nat.le_of_ble_eq_true rfl⟩) hH (fun H locs hH => ?_)
        refine lv_istore (lv' := [(4, .int v9), (0, .ref (lo + x0)), (2, .int x2), (3, .int x3)]) hx hb d_Model_get_49 hl (by decide) rfl (fun ls hl => ?_)
        refine lv_iload hx hb d_Model_get_51 (lv_at hl 0 rfl) ?_
        refine lv_if_lt (tgt := 89) hx hb d_Model_get_53 (by decide) (fun cc => ?_) (fun cc => ?_)
        · have hsh := im_it hsh cc
          exact bk_Model_get_89 X ih x0 x2 x3 w7 hsh H locs ls hH (lv_sub hl [1, 2, 3] rfl)
        · have hsh := im_if hsh cc
          refine lv_aload_n hx hb d_Model_get_56 rfl (lv_at hl 1 rfl) ?_
          obtain ⟨f10, h11, hsh⟩ := im_bd hsh
          refine im_getR hx hb hts inC_Model hown hK hH (ci := 9) rfl 38 (by decide) (hts _ wd_669) rfl h11 d_Model_get_57 ?_
          refine lv_bipush (v := 8) hx hb d_Model_get_60 (by decide) ?_
          refine lv_iload hx hb d_Model_get_62 (lv_at hl 0 rfl) ?_
          refine lv_imul hx hb d_Model_get_64 ?_
          refine lv_iload_n hx hb d_Model_get_65 rfl (lv_at hl 2 rfl) ?_
          refine lv_iadd hx hb d_Model_get_66 ?_
          obtain ⟨e12, h13, hsh⟩ := im_bd hsh
          refine im_zald hx hb hK hH h13 d_Model_get_67 ?_
          refine lv_if_eq (tgt := 89) hx hb d_Model_get_68 (by decide) (fun cc => ?_) (fun cc => ?_)
          · have hsh := im_it hsh cc
            exact bk_Model_get_89 X ih x0 x2 x3 w7 hsh H locs ls hH (lv_sub hl [1, 2, 3] rfl)
          · have hsh := im_if hsh cc
            refine lv_aload_n hx hb d_Model_get_71 rfl (lv_at hl 1 rfl) ?_
            refine lv_iload_n hx hb d_Model_get_72 rfl (lv_at hl 3 rfl) ?_
            obtain ⟨w14, h15, hsh⟩ := im_bd hsh
            refine im_put (v := .int x3) hx hb hts inC_Model tyC_Model tyC_Model_ok nmC_Model hown hK hH (ci := 9) rfl 43 (by decide) (hts _ wd_674) rfl rfl rfl rfl h15 d_Model_get_73 (fun H locs hH => ?_)
            refine lv_aload_n hx hb d_Model_get_76 rfl (lv_at hl 1 rfl) ?_
            obtain ⟨f16, h17, hsh⟩ := im_bd hsh
            refine im_getR hx hb hts inC_Model hown hK hH (ci := 9) rfl 37 (by decide) (hts _ wd_668) rfl h17 d_Model_get_77 ?_
            refine lv_bipush (v := 8) hx hb d_Model_get_80 (by decide) ?_
            refine lv_iload hx hb d_Model_get_82 (lv_at hl 0 rfl) ?_
            refine lv_imul hx hb d_Model_get_84 ?_
            refine lv_iload_n hx hb d_Model_get_85 rfl (lv_at hl 2 rfl) ?_
            refine lv_iadd hx hb d_Model_get_86 ?_
            obtain ⟨e18, h19, hsh⟩ := im_bd hsh
            refine im_iald hx hb hK hH h19 d_Model_get_87 ?_
            obtain rfl := Option.some.inj hsh
            exact im_iret hx hb hr hlk hH d_Model_get_88
def sh_Model_get (F : Nat) (x0 : Nat) (x1 : Int32) (x2 : Int32) (w : im_W) : Option (Int32 × im_W) :=
  (im_pV w 9 x0 43 (.int (0 : Int32))).bind fun w1 => (im_is w1 9 x0).bind fun u3 => im_b2 (sh_Model_none F x0 x1 w1) fun v9 w7 => (if v9 = 0 then (if x2 < 0 then sh_Model_get_23 F w7 else (if x2 ≤ (7 : Int32) then (im_is w7 9 x0).bind fun u10 => (sh_Model_startCut F x0 x1 w7).bind fun w14 => sh_Model_get_32 F F x0 x2 (1 : Int32) w14 else sh_Model_get_23 F w7)) else sh_Model_get_23 F w7)
set_option maxHeartbeats 4000000 in
set_option maxRecDepth 100000 in
theorem met_Model_get {F : Nat} {x0 : Nat} {x1 : Int32} {x2 : Int32} {w : im_W} {r : Int32 × im_W} (hsh : sh_Model_get F x0 x1 x2 w = some r) : Met l y_Model_get (Cond.code y_Model_get c_Model_get 5 (some .int) :: im_T) (im_rm 4 92) (im_Pre D vwCl tA lo im_NW [.ref (lo + x0), .int x1, .int x2] w) (im_Post D vwCl tA lo (some (.int r.1)) r.2) 0 0 (fun q => lo ≤ q) := by
  refine im_ofW (cc := c_Model_get) (nL := 5) (ret := (some .int)) (by decide) (Nat.le_of_ble_eq_true rfl) ?_
  intro p e s m args below meth c X H locs ls hH hl
  obtain ⟨hx, hb, hr, hts, hown, hlk, hml, hK, hN⟩ := id X
  have hl : lv_has ls 5 [(0, .ref (lo + x0)), (1, .int x1), (2, .int x2)] := hl
  unfold sh_Model_get at hsh
  refine lv_aload_n hx hb d_Model_get_0 rfl (lv_at hl 0 rfl) ?_
  refine lv_iconst (v := 0) hx hb d_Model_get_1 (by decide) ?_
  obtain ⟨w1, h2, hsh⟩ := im_bd hsh
  refine im_put (v := .int (0 : Int32)) hx hb hts inC_Model tyC_Model tyC_Model_ok nmC_Model hown hK hH (ci := 9) rfl 43 (by decide) (hts _ wd_674) rfl rfl rfl rfl h2 d_Model_get_2 (fun H locs hH => ?_)
  refine lv_aload_n hx hb d_Model_get_5 rfl (lv_at hl 0 rfl) ?_
  refine lv_iload_n hx hb d_Model_get_6 rfl (lv_at hl 1 rfl) ?_
  obtain ⟨u3, h4, hsh⟩ := im_bd hsh
  obtain ⟨g5, h6⟩ := im_is_s h4
  obtain ⟨v9, w7, h8, hsh⟩ := im_bd2 hsh
  refine im_afterI (va_runV (As := [.int x1]) (rest := []) (C := RC_Model) ⟨hx, hb, hml, hown, hts⟩ (met_Model_none h8) ⟨(callB_of 1 hts (im_good wd_915) rfl rfl rfl (hts _ wd_10) (hts _ wd_912) (by decide +kernel) ⟨Nat.le_of_ble_eq_true rfl, Nat.le_of_ble_eq_true rfl⟩), hts _ wd_914, hts _ sl_Model_none⟩ (im_preV im_NW_ok hK hN hH (ci := 9) rfl rfl h6 _) rfl rfl hl.1 rfl (lv_room (Nat.le_of_ble_eq_true rfl)) d_Model_get_7 ⟨Nat.le_of_ble_eq_true rfl, Nat.le_of_ble_eq_true rfl⟩) hH (fun H locs hH => ?_)
  refine lv_if_ne (tgt := 23) hx hb d_Model_get_10 (by decide) (fun cc => ?_) (fun cc => ?_)
  · have hsh := im_if hsh cc
    exact bk_Model_get_23 X w7 hsh H locs ls hH (lv_sub hl [] rfl)
  · have hsh := im_it hsh cc
    refine lv_iload_n hx hb d_Model_get_13 rfl (lv_at hl 2 rfl) ?_
    refine lv_if_lt (tgt := 23) hx hb d_Model_get_14 (by decide) (fun cc => ?_) (fun cc => ?_)
    · have hsh := im_it hsh cc
      exact bk_Model_get_23 X w7 hsh H locs ls hH (lv_sub hl [] rfl)
    · have hsh := im_if hsh cc
      refine lv_iload_n hx hb d_Model_get_17 rfl (lv_at hl 2 rfl) ?_
      refine lv_bipush (v := 7) hx hb d_Model_get_18 (by decide) ?_
      refine lv_icmp_le (tgt := 25) hx hb d_Model_get_20 (by decide) (fun cc => ?_) (fun cc => ?_)
      · have hsh := im_it hsh cc
        refine lv_aload_n hx hb d_Model_get_25 rfl (lv_at hl 0 rfl) ?_
        refine lv_iload_n hx hb d_Model_get_26 rfl (lv_at hl 1 rfl) ?_
        obtain ⟨u10, h11, hsh⟩ := im_bd hsh
        obtain ⟨g12, h13⟩ := im_is_s h11
        obtain ⟨w14, h15, hsh⟩ := im_bd hsh
        refine im_afterV (va_runV (As := [.int x1]) (rest := []) (C := RC_Model) ⟨hx, hb, hml, hown, hts⟩ (met_Model_startCut h15) ⟨(callB_of 1 hts (im_good wd_963) rfl rfl rfl (hts _ wd_10) (hts _ wd_960) (by decide +kernel) ⟨Nat.le_of_ble_eq_true rfl, Nat.le_of_ble_eq_true rfl⟩), hts _ wd_962, hts _ sl_Model_startCut⟩ (im_preV im_NW_ok hK hN hH (ci := 9) rfl rfl h13 _) rfl rfl hl.1 rfl (lv_room (Nat.le_of_ble_eq_true rfl)) d_Model_get_27 ⟨Nat.le_of_ble_eq_true rfl, Nat.le_of_ble_eq_true rfl⟩) hH (fun H locs hH => ?_)
        refine lv_iconst (v := 1) hx hb d_Model_get_30 (by decide) ?_
        refine lv_istore_n (lv' := [(3, .int (1 : Int32)), (0, .ref (lo + x0)), (1, .int x1), (2, .int x2)]) hx hb d_Model_get_31 rfl hl (by decide) rfl (fun ls hl => ?_)
        exact bk_Model_get_32 X F x0 x2 (1 : Int32) w14 hsh H locs ls hH (lv_sub hl [1, 3, 0] rfl)
      · have hsh := im_if hsh cc
        exact bk_Model_get_23 X w7 hsh H locs ls hH (lv_sub hl [] rfl)
theorem d_Model_found_0 : decode c_Model_found 0 = .ok (.aload_n 0, 1) := by decide +kernel
theorem d_Model_found_1 : decode c_Model_found 1 = .ok (.getfield 289, 3) := by decide +kernel
theorem d_Model_found_4 : decode c_Model_found 4 = .ok (.ireturn, 1) := by decide +kernel
def sh_Model_found (F : Nat) (x0 : Nat) (w : im_W) : Option (Int32 × im_W) :=
  (im_gI w 9 x0 43).bind fun f1 => some (f1, w)
set_option maxHeartbeats 4000000 in
set_option maxRecDepth 100000 in
theorem met_Model_found {F : Nat} {x0 : Nat} {w : im_W} {r : Int32 × im_W} (hsh : sh_Model_found F x0 w = some r) : Met l y_Model_found (Cond.code y_Model_found c_Model_found 1 (some .int) :: im_T) (im_rm 0 0) (im_Pre D vwCl tA lo im_NW [.ref (lo + x0)] w) (im_Post D vwCl tA lo (some (.int r.1)) r.2) 0 0 (fun q => lo ≤ q) := by
  refine im_ofW (cc := c_Model_found) (nL := 1) (ret := (some .int)) (by decide) (Nat.le_of_ble_eq_true rfl) ?_
  intro p e s m args below meth c X H locs ls hH hl
  obtain ⟨hx, hb, hr, hts, hown, hlk, hml, hK, hN⟩ := id X
  have hl : lv_has ls 1 [(0, .ref (lo + x0))] := hl
  unfold sh_Model_found at hsh
  refine lv_aload_n hx hb d_Model_found_0 rfl (lv_at hl 0 rfl) ?_
  obtain ⟨f1, h2, hsh⟩ := im_bd hsh
  refine im_getI hx hb hts inC_Model hown hK hH (ci := 9) rfl 43 (by decide) (hts _ wd_674) rfl h2 d_Model_found_1 ?_
  obtain rfl := Option.some.inj hsh
  exact im_iret hx hb hr hlk hH d_Model_found_4
end GEN
