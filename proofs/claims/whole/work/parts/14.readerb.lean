section GEN
variable {l : Launch} {D : va_G} {tA : Nat → ClassId} {lo : Nat} {p : Program} {e : Env} {s : State} {m : MethodId} {args : Array Value} {below : List Frame} {meth : Method} {c : Code}
theorem wd_412 : (Jvm.Cond.methodLink "LanguageTags$Reader" (72 : Nat) ({ cls := "LanguageTags$Form", name := "append", desc := "(J)V" } : Jvm.MethodName)) ∈ im_T := im_memT (i := 412) (by decide +kernel) (by decide +kernel)
theorem wd_417 : (Jvm.Cond.constantLong "LanguageTags$Reader" (117 : Nat) (8390898132396802048 : Int64)) ∈ im_T := im_memT (i := 417) (by decide +kernel) (by decide +kernel)
theorem d_Reader_addTypes_0 : decode c_Reader_addTypes 0 = .ok (.iload_n 2, 1) := by decide +kernel
theorem d_Reader_addTypes_1 : decode c_Reader_addTypes 1 = .ok (.iconst 1, 1) := by decide +kernel
theorem d_Reader_addTypes_2 : decode c_Reader_addTypes 2 = .ok (.iadd, 1) := by decide +kernel
theorem d_Reader_addTypes_3 : decode c_Reader_addTypes 3 = .ok (.istore_n 3, 1) := by decide +kernel
theorem d_Reader_addTypes_4 : decode c_Reader_addTypes 4 = .ok (.iload_n 2, 1) := by decide +kernel
theorem d_Reader_addTypes_5 : decode c_Reader_addTypes 5 = .ok (.iconst 1, 1) := by decide +kernel
theorem d_Reader_addTypes_6 : decode c_Reader_addTypes 6 = .ok (.iadd, 1) := by decide +kernel
theorem d_Reader_addTypes_7 : decode c_Reader_addTypes 7 = .ok (.istore 4, 2) := by decide +kernel
theorem d_Reader_addTypes_9 : decode c_Reader_addTypes 9 = .ok (.iload 4, 2) := by decide +kernel
theorem d_Reader_addTypes_11 : decode c_Reader_addTypes 11 = .ok (.aload_n 0, 1) := by decide +kernel
theorem d_Reader_addTypes_12 : decode c_Reader_addTypes 12 = .ok (.getfield 19, 3) := by decide +kernel
theorem d_Reader_addTypes_15 : decode c_Reader_addTypes 15 = .ok (.if_icmp .ge (26), 3) := by decide +kernel
theorem d_Reader_addTypes_18 : decode c_Reader_addTypes 18 = .ok (.aload_n 0, 1) := by decide +kernel
theorem d_Reader_addTypes_19 : decode c_Reader_addTypes 19 = .ok (.getfield 15, 3) := by decide +kernel
theorem d_Reader_addTypes_22 : decode c_Reader_addTypes 22 = .ok (.iload 4, 2) := by decide +kernel
theorem d_Reader_addTypes_24 : decode c_Reader_addTypes 24 = .ok (.iaload, 1) := by decide +kernel
theorem d_Reader_addTypes_25 : decode c_Reader_addTypes 25 = .ok (.bipush (7), 2) := by decide +kernel
theorem d_Reader_addTypes_27 : decode c_Reader_addTypes 27 = .ok (.if_icmp .ne (14), 3) := by decide +kernel
theorem d_Reader_addTypes_30 : decode c_Reader_addTypes 30 = .ok (.iload 4, 2) := by decide +kernel
theorem d_Reader_addTypes_32 : decode c_Reader_addTypes 32 = .ok (.iconst 1, 1) := by decide +kernel
theorem d_Reader_addTypes_33 : decode c_Reader_addTypes 33 = .ok (.iadd, 1) := by decide +kernel
theorem d_Reader_addTypes_34 : decode c_Reader_addTypes 34 = .ok (.istore_n 3, 1) := by decide +kernel
theorem d_Reader_addTypes_35 : decode c_Reader_addTypes 35 = .ok (.iinc 4 (1), 3) := by decide +kernel
theorem d_Reader_addTypes_38 : decode c_Reader_addTypes 38 = .ok (.goto (-29), 3) := by decide +kernel
theorem d_Reader_addTypes_41 : decode c_Reader_addTypes 41 = .ok (.iload_n 3, 1) := by decide +kernel
theorem d_Reader_addTypes_42 : decode c_Reader_addTypes 42 = .ok (.iload_n 2, 1) := by decide +kernel
theorem d_Reader_addTypes_43 : decode c_Reader_addTypes 43 = .ok (.iconst 2, 1) := by decide +kernel
theorem d_Reader_addTypes_44 : decode c_Reader_addTypes 44 = .ok (.iadd, 1) := by decide +kernel
theorem d_Reader_addTypes_45 : decode c_Reader_addTypes 45 = .ok (.if_icmp .ne (19), 3) := by decide +kernel
theorem d_Reader_addTypes_48 : decode c_Reader_addTypes 48 = .ok (.aload_n 0, 1) := by decide +kernel
theorem d_Reader_addTypes_49 : decode c_Reader_addTypes 49 = .ok (.getfield 9, 3) := by decide +kernel
theorem d_Reader_addTypes_52 : decode c_Reader_addTypes 52 = .ok (.iload_n 2, 1) := by decide +kernel
theorem d_Reader_addTypes_53 : decode c_Reader_addTypes 53 = .ok (.iconst 1, 1) := by decide +kernel
theorem d_Reader_addTypes_54 : decode c_Reader_addTypes 54 = .ok (.iadd, 1) := by decide +kernel
theorem d_Reader_addTypes_55 : decode c_Reader_addTypes 55 = .ok (.laload, 1) := by decide +kernel
theorem d_Reader_addTypes_56 : decode c_Reader_addTypes 56 = .ok (.ldc2_w 117, 3) := by decide +kernel
theorem d_Reader_addTypes_59 : decode c_Reader_addTypes 59 = .ok (.lcmp, 1) := by decide +kernel
theorem d_Reader_addTypes_60 : decode c_Reader_addTypes 60 = .ok (.ifCond .ne (4), 3) := by decide +kernel
theorem d_Reader_addTypes_63 : decode c_Reader_addTypes 63 = .ok (.return_, 1) := by decide +kernel
theorem d_Reader_addTypes_64 : decode c_Reader_addTypes 64 = .ok (.iload_n 2, 1) := by decide +kernel
theorem d_Reader_addTypes_65 : decode c_Reader_addTypes 65 = .ok (.iconst 1, 1) := by decide +kernel
theorem d_Reader_addTypes_66 : decode c_Reader_addTypes 66 = .ok (.iadd, 1) := by decide +kernel
theorem d_Reader_addTypes_67 : decode c_Reader_addTypes 67 = .ok (.istore 4, 2) := by decide +kernel
theorem d_Reader_addTypes_69 : decode c_Reader_addTypes 69 = .ok (.iload 4, 2) := by decide +kernel
theorem d_Reader_addTypes_71 : decode c_Reader_addTypes 71 = .ok (.iload_n 3, 1) := by decide +kernel
theorem d_Reader_addTypes_72 : decode c_Reader_addTypes 72 = .ok (.if_icmp .ge (20), 3) := by decide +kernel
theorem d_Reader_addTypes_75 : decode c_Reader_addTypes 75 = .ok (.aload_n 1, 1) := by decide +kernel
theorem d_Reader_addTypes_76 : decode c_Reader_addTypes 76 = .ok (.aload_n 0, 1) := by decide +kernel
theorem d_Reader_addTypes_77 : decode c_Reader_addTypes 77 = .ok (.getfield 9, 3) := by decide +kernel
theorem d_Reader_addTypes_80 : decode c_Reader_addTypes 80 = .ok (.iload 4, 2) := by decide +kernel
theorem d_Reader_addTypes_82 : decode c_Reader_addTypes 82 = .ok (.laload, 1) := by decide +kernel
theorem d_Reader_addTypes_83 : decode c_Reader_addTypes 83 = .ok (.invokevirtual 72, 3) := by decide +kernel
theorem d_Reader_addTypes_86 : decode c_Reader_addTypes 86 = .ok (.iinc 4 (1), 3) := by decide +kernel
theorem d_Reader_addTypes_89 : decode c_Reader_addTypes 89 = .ok (.goto (-20), 3) := by decide +kernel
theorem d_Reader_addTypes_92 : decode c_Reader_addTypes 92 = .ok (.return_, 1) := by decide +kernel
def sh_Reader_addTypes_69 (F : Nat) : Nat → Nat → Nat → Int32 → Int32 → im_W → Option (im_W)
  | 0, _, _, _, _, _ => none
  | f + 1, x0, x1, x3, x4, w => (if x3 ≤ x4 then some w else (im_gR w 5 x0 0).bind fun f1 => (im_lL w 1 f1 x4).bind fun e3 => (im_is w 2 x1).bind fun u5 => (sh_Form_append F x1 e3 w).bind fun w9 => (sh_Reader_addTypes_69 F f) x0 x1 x3 (x4 + (1 : Int32)) w9)
set_option maxHeartbeats 4000000 in
set_option maxRecDepth 100000 in
theorem bk_Reader_addTypes_69 {F : Nat} {r : im_W} (X : im_X D vwCl tA lo im_NW c_Reader_addTypes 5 none RC_Reader im_T p s m args meth c) : ∀ (f : Nat) (x0 : Nat) (x1 : Nat) (x3 : Int32) (x4 : Int32) (w : im_W), sh_Reader_addTypes_69 F f x0 x1 x3 x4 w = some r → im_WW D vwCl tA lo 5 p l e (im_rm 1 22) s m args below meth c 0 0 (MQ below (im_Post D vwCl tA lo none r) args s 0 0 (fun q => lo ≤ q)) 69 [(0, .ref (lo + x0)), (1, .ref (lo + x1)), (3, .int x3), (4, .int x4)] [] w := by
  obtain ⟨hx, hb, hr, hts, hown, hlk, hml, hK, hN⟩ := id X
  intro f
  induction f with
  | zero =>
    intro x0 x1 x3 x4 w hsh
    cases hsh
  | succ f ih =>
    intro x0 x1 x3 x4 w hsh H locs ls hH hl
    unfold sh_Reader_addTypes_69 at hsh
    refine lv_iload hx hb d_Reader_addTypes_69 (lv_at hl 3 rfl) ?_
    refine lv_iload_n hx hb d_Reader_addTypes_71 rfl (lv_at hl 2 rfl) ?_
    refine lv_icmp_ge (tgt := 92) hx hb d_Reader_addTypes_72 (by decide) (fun cc => ?_) (fun cc => ?_)
    · have hsh := im_it hsh cc
      obtain rfl := Option.some.inj hsh
      exact im_vret hx hb hr hlk hH d_Reader_addTypes_92
    · have hsh := im_if hsh cc
      refine lv_aload_n hx hb d_Reader_addTypes_75 rfl (lv_at hl 1 rfl) ?_
      refine lv_aload_n hx hb d_Reader_addTypes_76 rfl (lv_at hl 0 rfl) ?_
      obtain ⟨f1, h2, hsh⟩ := im_bd hsh
      refine im_getR hx hb hts inC_Reader hown hK hH (ci := 5) rfl 0 (by decide) (hts _ wd_40) rfl h2 d_Reader_addTypes_77 ?_
      refine lv_iload hx hb d_Reader_addTypes_80 (lv_at hl 3 rfl) ?_
      obtain ⟨e3, h4, hsh⟩ := im_bd hsh
      refine im_lald hx hb hK hH h4 d_Reader_addTypes_82 ?_
      obtain ⟨u5, h6, hsh⟩ := im_bd hsh
      obtain ⟨g7, h8⟩ := im_is_s h6
      obtain ⟨w9, h10, hsh⟩ := im_bd hsh
      refine im_afterV (va_runV (As := [.long e3]) (rest := []) (C := RC_Form) ⟨hx, hb, hml, hown, hts⟩ (met_Form_append h10) ⟨(callB_of 1 hts (im_good wd_395) rfl rfl rfl (hts _ wd_6) (hts _ wd_412) (by decide +kernel) ⟨Nat.le_of_ble_eq_true rfl, Nat.le_of_ble_eq_true rfl⟩), hts _ wd_393, hts _ wd_394⟩ (im_preV im_NW_ok hK hN hH (ci := 2) rfl rfl h8 _) rfl rfl hl.1 rfl (lv_room (Nat.le_of_ble_eq_true rfl)) d_Reader_addTypes_83 ⟨Nat.le_of_ble_eq_true rfl, Nat.le_of_ble_eq_true rfl⟩) hH (fun H locs hH => ?_)
      refine lv_iinc (v := (x4 + (1 : Int32))) (lv' := [(4, .int (x4 + (1 : Int32))), (0, .ref (lo + x0)), (1, .ref (lo + x1)), (3, .int x3)]) hx hb d_Reader_addTypes_86 hl (k := 3) rfl rfl (by decide) rfl (fun ls hl => ?_)
      refine lv_goto (tgt := 69) hx hb d_Reader_addTypes_89 (by decide) ?_
      exact ih x0 x1 x3 (x4 + (1 : Int32)) w9 hsh H locs ls hH (lv_sub hl [1, 2, 3, 0] rfl)
def sh_Reader_addTypes_64 (F : Nat) (x0 : Nat) (x1 : Nat) (x2 : Int32) (x3 : Int32) (w : im_W) : Option (im_W) :=
  sh_Reader_addTypes_69 F F x0 x1 x3 (x2 + (1 : Int32)) w
set_option maxHeartbeats 4000000 in
set_option maxRecDepth 100000 in
theorem bk_Reader_addTypes_64 {F : Nat} {r : im_W} (X : im_X D vwCl tA lo im_NW c_Reader_addTypes 5 none RC_Reader im_T p s m args meth c) (x0 : Nat) (x1 : Nat) (x2 : Int32) (x3 : Int32) (w : im_W) (hsh : sh_Reader_addTypes_64 F x0 x1 x2 x3 w = some r) : im_WW D vwCl tA lo 5 p l e (im_rm 1 22) s m args below meth c 0 0 (MQ below (im_Post D vwCl tA lo none r) args s 0 0 (fun q => lo ≤ q)) 64 [(0, .ref (lo + x0)), (1, .ref (lo + x1)), (2, .int x2), (3, .int x3)] [] w := by
  obtain ⟨hx, hb, hr, hts, hown, hlk, hml, hK, hN⟩ := id X
  intro H locs ls hH hl
  unfold sh_Reader_addTypes_64 at hsh
  refine lv_iload_n hx hb d_Reader_addTypes_64 rfl (lv_at hl 2 rfl) ?_
  refine lv_iconst (v := 1) hx hb d_Reader_addTypes_65 (by decide) ?_
  refine lv_iadd hx hb d_Reader_addTypes_66 ?_
  refine lv_istore (lv' := [(4, .int (x2 + (1 : Int32))), (0, .ref (lo + x0)), (1, .ref (lo + x1)), (2, .int x2), (3, .int x3)]) hx hb d_Reader_addTypes_67 hl (by decide) rfl (fun ls hl => ?_)
  exact bk_Reader_addTypes_69 X F x0 x1 x3 (x2 + (1 : Int32)) w hsh H locs ls hH (lv_sub hl [1, 2, 4, 0] rfl)
def sh_Reader_addTypes_41 (F : Nat) (x0 : Nat) (x1 : Nat) (x2 : Int32) (x3 : Int32) (w : im_W) : Option (im_W) :=
  (if x3 = (x2 + (2 : Int32)) then (im_gR w 5 x0 0).bind fun f1 => (im_lL w 1 f1 (x2 + (1 : Int32))).bind fun e3 => (if (lg_cmp e3 (8390898132396802048 : Int64)) = 0 then some w else sh_Reader_addTypes_64 F x0 x1 x2 x3 w) else sh_Reader_addTypes_64 F x0 x1 x2 x3 w)
set_option maxHeartbeats 4000000 in
set_option maxRecDepth 100000 in
theorem bk_Reader_addTypes_41 {F : Nat} {r : im_W} (X : im_X D vwCl tA lo im_NW c_Reader_addTypes 5 none RC_Reader im_T p s m args meth c) (x0 : Nat) (x1 : Nat) (x2 : Int32) (x3 : Int32) (w : im_W) (hsh : sh_Reader_addTypes_41 F x0 x1 x2 x3 w = some r) : im_WW D vwCl tA lo 5 p l e (im_rm 1 22) s m args below meth c 0 0 (MQ below (im_Post D vwCl tA lo none r) args s 0 0 (fun q => lo ≤ q)) 41 [(0, .ref (lo + x0)), (1, .ref (lo + x1)), (2, .int x2), (3, .int x3)] [] w := by
  obtain ⟨hx, hb, hr, hts, hown, hlk, hml, hK, hN⟩ := id X
  intro H locs ls hH hl
  unfold sh_Reader_addTypes_41 at hsh
  refine lv_iload_n hx hb d_Reader_addTypes_41 rfl (lv_at hl 3 rfl) ?_
  refine lv_iload_n hx hb d_Reader_addTypes_42 rfl (lv_at hl 2 rfl) ?_
  refine lv_iconst (v := 2) hx hb d_Reader_addTypes_43 (by decide) ?_
  refine lv_iadd hx hb d_Reader_addTypes_44 ?_
  refine lv_icmp_ne (tgt := 64) hx hb d_Reader_addTypes_45 (by decide) (fun cc => ?_) (fun cc => ?_)
  · have hsh := im_if hsh cc
    exact bk_Reader_addTypes_64 X x0 x1 x2 x3 w hsh H locs ls hH (lv_sub hl [0, 1, 2, 3] rfl)
  · have hsh := im_it hsh cc
    refine lv_aload_n hx hb d_Reader_addTypes_48 rfl (lv_at hl 0 rfl) ?_
    obtain ⟨f1, h2, hsh⟩ := im_bd hsh
    refine im_getR hx hb hts inC_Reader hown hK hH (ci := 5) rfl 0 (by decide) (hts _ wd_40) rfl h2 d_Reader_addTypes_49 ?_
    refine lv_iload_n hx hb d_Reader_addTypes_52 rfl (lv_at hl 2 rfl) ?_
    refine lv_iconst (v := 1) hx hb d_Reader_addTypes_53 (by decide) ?_
    refine lv_iadd hx hb d_Reader_addTypes_54 ?_
    obtain ⟨e3, h4, hsh⟩ := im_bd hsh
    refine im_lald hx hb hK hH h4 d_Reader_addTypes_55 ?_
    refine lv_ldc2 (v := 8390898132396802048) hx hb hown (hts _ wd_417) d_Reader_addTypes_56 ?_
    refine W.lcmp hx hb d_Reader_addTypes_59 ?_
    refine lv_if_ne (tgt := 64) hx hb d_Reader_addTypes_60 (by decide) (fun cc => ?_) (fun cc => ?_)
    · have hsh := im_if hsh cc
      exact bk_Reader_addTypes_64 X x0 x1 x2 x3 w hsh H locs ls hH (lv_sub hl [0, 1, 2, 3] rfl)
    · have hsh := im_it hsh cc
      obtain rfl := Option.some.inj hsh
      exact im_vret hx hb hr hlk hH d_Reader_addTypes_63
def sh_Reader_addTypes_9 (F : Nat) : Nat → Nat → Nat → Int32 → Int32 → Int32 → im_W → Option (im_W)
  | 0, _, _, _, _, _, _ => none
  | f + 1, x0, x1, x2, x3, x4, w => (im_gI w 5 x0 2).bind fun f1 => (if f1 ≤ x4 then sh_Reader_addTypes_41 F x0 x1 x2 x3 w else (im_gR w 5 x0 1).bind fun f3 => (im_lI w 0 f3 x4).bind fun e5 => (if e5 = (7 : Int32) then (sh_Reader_addTypes_9 F f) x0 x1 x2 (x4 + (1 : Int32)) (x4 + (1 : Int32)) w else sh_Reader_addTypes_41 F x0 x1 x2 x3 w))
set_option maxHeartbeats 4000000 in
set_option maxRecDepth 100000 in
theorem bk_Reader_addTypes_9 {F : Nat} {r : im_W} (X : im_X D vwCl tA lo im_NW c_Reader_addTypes 5 none RC_Reader im_T p s m args meth c) : ∀ (f : Nat) (x0 : Nat) (x1 : Nat) (x2 : Int32) (x3 : Int32) (x4 : Int32) (w : im_W), sh_Reader_addTypes_9 F f x0 x1 x2 x3 x4 w = some r → im_WW D vwCl tA lo 5 p l e (im_rm 1 22) s m args below meth c 0 0 (MQ below (im_Post D vwCl tA lo none r) args s 0 0 (fun q => lo ≤ q)) 9 [(0, .ref (lo + x0)), (1, .ref (lo + x1)), (2, .int x2), (3, .int x3), (4, .int x4)] [] w := by
  obtain ⟨hx, hb, hr, hts, hown, hlk, hml, hK, hN⟩ := id X
  intro f
  induction f with
  | zero =>
    intro x0 x1 x2 x3 x4 w hsh
    cases hsh
  | succ f ih =>
    intro x0 x1 x2 x3 x4 w hsh H locs ls hH hl
    unfold sh_Reader_addTypes_9 at hsh
    refine lv_iload hx hb d_Reader_addTypes_9 (lv_at hl 4 rfl) ?_
    refine lv_aload_n hx hb d_Reader_addTypes_11 rfl (lv_at hl 0 rfl) ?_
    obtain ⟨f1, h2, hsh⟩ := im_bd hsh
    refine im_getI hx hb hts inC_Reader hown hK hH (ci := 5) rfl 2 (by decide) (hts _ wd_42) rfl h2 d_Reader_addTypes_12 ?_
    refine lv_icmp_ge (tgt := 41) hx hb d_Reader_addTypes_15 (by decide) (fun cc => ?_) (fun cc => ?_)
    · have hsh := im_it hsh cc
      exact bk_Reader_addTypes_41 X x0 x1 x2 x3 w hsh H locs ls hH (lv_sub hl [0, 1, 2, 3] rfl)
    · have hsh := im_if hsh cc
      refine lv_aload_n hx hb d_Reader_addTypes_18 rfl (lv_at hl 0 rfl) ?_
      obtain ⟨f3, h4, hsh⟩ := im_bd hsh
      refine im_getR hx hb hts inC_Reader hown hK hH (ci := 5) rfl 1 (by decide) (hts _ wd_41) rfl h4 d_Reader_addTypes_19 ?_
      refine lv_iload hx hb d_Reader_addTypes_22 (lv_at hl 4 rfl) ?_
      obtain ⟨e5, h6, hsh⟩ := im_bd hsh
      refine im_iald hx hb hK hH h6 d_Reader_addTypes_24 ?_
      refine lv_bipush (v := 7) hx hb d_Reader_addTypes_25 (by decide) ?_
      refine lv_icmp_ne (tgt := 41) hx hb d_Reader_addTypes_27 (by decide) (fun cc => ?_) (fun cc => ?_)
      · have hsh := im_if hsh cc
        exact bk_Reader_addTypes_41 X x0 x1 x2 x3 w hsh H locs ls hH (lv_sub hl [0, 1, 2, 3] rfl)
      · have hsh := im_it hsh cc
        refine lv_iload hx hb d_Reader_addTypes_30 (lv_at hl 4 rfl) ?_
        refine lv_iconst (v := 1) hx hb d_Reader_addTypes_32 (by decide) ?_
        refine lv_iadd hx hb d_Reader_addTypes_33 ?_
        refine lv_istore_n (lv' := [(3, .int (x4 + (1 : Int32))), (0, .ref (lo + x0)), (1, .ref (lo + x1)), (2, .int x2), (4, .int x4)]) hx hb d_Reader_addTypes_34 rfl hl (by decide) rfl (fun ls hl => ?_)
        refine lv_iinc (v := (x4 + (1 : Int32))) (lv' := [(4, .int (x4 + (1 : Int32))), (3, .int (x4 + (1 : Int32))), (0, .ref (lo + x0)), (1, .ref (lo + x1)), (2, .int x2)]) hx hb d_Reader_addTypes_35 hl (k := 4) rfl rfl (by decide) rfl (fun ls hl => ?_)
        refine lv_goto (tgt := 9) hx hb d_Reader_addTypes_38 (by decide) ?_
        exact ih x0 x1 x2 (x4 + (1 : Int32)) (x4 + (1 : Int32)) w hsh H locs ls hH (lv_sub hl [2, 3, 4, 1, 0] rfl)
def sh_Reader_addTypes (F : Nat) (x0 : Nat) (x1 : Nat) (x2 : Int32) (w : im_W) : Option (im_W) :=
  sh_Reader_addTypes_9 F F x0 x1 x2 (x2 + (1 : Int32)) (x2 + (1 : Int32)) w
set_option maxHeartbeats 4000000 in
set_option maxRecDepth 100000 in
theorem met_Reader_addTypes {F : Nat} {x0 : Nat} {x1 : Nat} {x2 : Int32} {w : im_W} {r : im_W} (hsh : sh_Reader_addTypes F x0 x1 x2 w = some r) : Met l y_Reader_addTypes (Cond.code y_Reader_addTypes c_Reader_addTypes 5 none :: im_T) (im_rm 1 22) (im_Pre D vwCl tA lo im_NW [.ref (lo + x0), .ref (lo + x1), .int x2] w) (im_Post D vwCl tA lo none r) 0 0 (fun q => lo ≤ q) := by
  refine im_ofW (cc := c_Reader_addTypes) (nL := 5) (ret := none) (by decide) (Nat.le_of_ble_eq_true rfl) ?_
  intro p e s m args below meth c X H locs ls hH hl
  obtain ⟨hx, hb, hr, hts, hown, hlk, hml, hK, hN⟩ := id X
  have hl : lv_has ls 5 [(0, .ref (lo + x0)), (1, .ref (lo + x1)), (2, .int x2)] := hl
  unfold sh_Reader_addTypes at hsh
  refine lv_iload_n hx hb d_Reader_addTypes_0 rfl (lv_at hl 2 rfl) ?_
  refine lv_iconst (v := 1) hx hb d_Reader_addTypes_1 (by decide) ?_
  refine lv_iadd hx hb d_Reader_addTypes_2 ?_
  refine lv_istore_n (lv' := [(3, .int (x2 + (1 : Int32))), (0, .ref (lo + x0)), (1, .ref (lo + x1)), (2, .int x2)]) hx hb d_Reader_addTypes_3 rfl hl (by decide) rfl (fun ls hl => ?_)
  refine lv_iload_n hx hb d_Reader_addTypes_4 rfl (lv_at hl 3 rfl) ?_
  refine lv_iconst (v := 1) hx hb d_Reader_addTypes_5 (by decide) ?_
  refine lv_iadd hx hb d_Reader_addTypes_6 ?_
  refine lv_istore (lv' := [(4, .int (x2 + (1 : Int32))), (3, .int (x2 + (1 : Int32))), (0, .ref (lo + x0)), (1, .ref (lo + x1)), (2, .int x2)]) hx hb d_Reader_addTypes_7 hl (by decide) rfl (fun ls hl => ?_)
  exact bk_Reader_addTypes_9 X F x0 x1 x2 (x2 + (1 : Int32)) (x2 + (1 : Int32)) w hsh H locs ls hH (lv_sub hl [2, 3, 4, 1, 0] rfl)
theorem wd_408 : (Jvm.Cond.methodLink "LanguageTags$Reader" (111 : Nat) ({ cls := "LanguageTags$Reader", name := "leastAbove", desc := "(JI)I" } : Jvm.MethodName)) ∈ im_T := im_memT (i := 408) (by decide +kernel) (by decide +kernel)
theorem wd_410 : (Jvm.Cond.instanceMethod ({ cls := "LanguageTags$Reader", name := "leastAbove", desc := "(JI)I" } : Jvm.MethodName)) ∈ im_T := im_memT (i := 410) (by decide +kernel) (by decide +kernel)
theorem wd_411 : (Jvm.Cond.code ({ cls := "LanguageTags$Reader", name := "leastAbove", desc := "(JI)I" } : Jvm.MethodName) prog_7_method_10_code (6 : Nat) (Option.some Jvm.ClassFile.FieldType.int)) ∈ im_T := im_memT (i := 411) (by decide +kernel) (by decide +kernel)
theorem wd_413 : (Jvm.Cond.methodLink "LanguageTags$Reader" (114 : Nat) ({ cls := "LanguageTags$Reader", name := "addTypes", desc := "(LLanguageTags$Form;I)V" } : Jvm.MethodName)) ∈ im_T := im_memT (i := 413) (by decide +kernel) (by decide +kernel)
theorem wd_415 : (Jvm.Cond.instanceMethod ({ cls := "LanguageTags$Reader", name := "addTypes", desc := "(LLanguageTags$Form;I)V" } : Jvm.MethodName)) ∈ im_T := im_memT (i := 415) (by decide +kernel) (by decide +kernel)
theorem wd_416 : (Jvm.Cond.code ({ cls := "LanguageTags$Reader", name := "addTypes", desc := "(LLanguageTags$Form;I)V" } : Jvm.MethodName) prog_7_method_11_code (5 : Nat) (Option.none : Option Jvm.ClassFile.FieldType)) ∈ im_T := im_memT (i := 416) (by decide +kernel) (by decide +kernel)
theorem d_Reader_addInOrder_0 : decode c_Reader_addInOrder 0 = .ok (.lconst 0, 1) := by decide +kernel
theorem d_Reader_addInOrder_1 : decode c_Reader_addInOrder 1 = .ok (.lstore_n 3, 1) := by decide +kernel
theorem d_Reader_addInOrder_2 : decode c_Reader_addInOrder 2 = .ok (.iconst 0, 1) := by decide +kernel
theorem d_Reader_addInOrder_3 : decode c_Reader_addInOrder 3 = .ok (.istore 5, 2) := by decide +kernel
theorem d_Reader_addInOrder_5 : decode c_Reader_addInOrder 5 = .ok (.iload 5, 2) := by decide +kernel
theorem d_Reader_addInOrder_7 : decode c_Reader_addInOrder 7 = .ok (.aload_n 0, 1) := by decide +kernel
theorem d_Reader_addInOrder_8 : decode c_Reader_addInOrder 8 = .ok (.getfield 19, 3) := by decide +kernel
theorem d_Reader_addInOrder_11 : decode c_Reader_addInOrder 11 = .ok (.if_icmp .ge (43), 3) := by decide +kernel
theorem d_Reader_addInOrder_14 : decode c_Reader_addInOrder 14 = .ok (.aload_n 0, 1) := by decide +kernel
theorem d_Reader_addInOrder_15 : decode c_Reader_addInOrder 15 = .ok (.lload_n 3, 1) := by decide +kernel
theorem d_Reader_addInOrder_16 : decode c_Reader_addInOrder 16 = .ok (.iload_n 2, 1) := by decide +kernel
theorem d_Reader_addInOrder_17 : decode c_Reader_addInOrder 17 = .ok (.invokevirtual 111, 3) := by decide +kernel
theorem d_Reader_addInOrder_20 : decode c_Reader_addInOrder 20 = .ok (.istore 6, 2) := by decide +kernel
theorem d_Reader_addInOrder_22 : decode c_Reader_addInOrder 22 = .ok (.iload 6, 2) := by decide +kernel
theorem d_Reader_addInOrder_24 : decode c_Reader_addInOrder 24 = .ok (.ifCond .ge (4), 3) := by decide +kernel
theorem d_Reader_addInOrder_27 : decode c_Reader_addInOrder 27 = .ok (.return_, 1) := by decide +kernel
theorem d_Reader_addInOrder_28 : decode c_Reader_addInOrder 28 = .ok (.aload_n 0, 1) := by decide +kernel
theorem d_Reader_addInOrder_29 : decode c_Reader_addInOrder 29 = .ok (.getfield 9, 3) := by decide +kernel
theorem d_Reader_addInOrder_32 : decode c_Reader_addInOrder 32 = .ok (.iload 6, 2) := by decide +kernel
theorem d_Reader_addInOrder_34 : decode c_Reader_addInOrder 34 = .ok (.laload, 1) := by decide +kernel
theorem d_Reader_addInOrder_35 : decode c_Reader_addInOrder 35 = .ok (.lstore_n 3, 1) := by decide +kernel
theorem d_Reader_addInOrder_36 : decode c_Reader_addInOrder 36 = .ok (.aload_n 1, 1) := by decide +kernel
theorem d_Reader_addInOrder_37 : decode c_Reader_addInOrder 37 = .ok (.lload_n 3, 1) := by decide +kernel
theorem d_Reader_addInOrder_38 : decode c_Reader_addInOrder 38 = .ok (.invokevirtual 72, 3) := by decide +kernel
theorem d_Reader_addInOrder_41 : decode c_Reader_addInOrder 41 = .ok (.aload_n 0, 1) := by decide +kernel
theorem d_Reader_addInOrder_42 : decode c_Reader_addInOrder 42 = .ok (.aload_n 1, 1) := by decide +kernel
theorem d_Reader_addInOrder_43 : decode c_Reader_addInOrder 43 = .ok (.iload 6, 2) := by decide +kernel
theorem d_Reader_addInOrder_45 : decode c_Reader_addInOrder 45 = .ok (.invokevirtual 114, 3) := by decide +kernel
theorem d_Reader_addInOrder_48 : decode c_Reader_addInOrder 48 = .ok (.iinc 5 (1), 3) := by decide +kernel
theorem d_Reader_addInOrder_51 : decode c_Reader_addInOrder 51 = .ok (.goto (-46), 3) := by decide +kernel
theorem d_Reader_addInOrder_54 : decode c_Reader_addInOrder 54 = .ok (.return_, 1) := by decide +kernel
def sh_Reader_addInOrder_5 (F : Nat) : Nat → Nat → Nat → Int32 → Int64 → Int32 → im_W → Option (im_W)
  | 0, _, _, _, _, _, _ => none
  | f + 1, x0, x1, x2, x3, x5, w => (im_gI w 5 x0 2).bind fun f1 => (if f1 ≤ x5 then some w else (im_is w 5 x0).bind fun u3 => im_b2 (sh_Reader_leastAbove F x0 x3 x2 w) fun v9 w7 => (if 0 ≤ v9 then (im_gR w7 5 x0 0).bind fun f10 => (im_lL w7 1 f10 v9).bind fun e12 => (im_is w7 2 x1).bind fun u14 => (sh_Form_append F x1 e12 w7).bind fun w18 => (im_is w18 5 x0).bind fun u20 => (sh_Reader_addTypes F x0 x1 v9 w18).bind fun w24 => (sh_Reader_addInOrder_5 F f) x0 x1 x2 e12 (x5 + (1 : Int32)) w24 else some w7))
set_option maxHeartbeats 4000000 in
set_option maxRecDepth 100000 in
theorem bk_Reader_addInOrder_5 {F : Nat} {r : im_W} (X : im_X D vwCl tA lo im_NW c_Reader_addInOrder 7 none RC_Reader im_T p s m args meth c) : ∀ (f : Nat) (x0 : Nat) (x1 : Nat) (x2 : Int32) (x3 : Int64) (x5 : Int32) (w : im_W), sh_Reader_addInOrder_5 F f x0 x1 x2 x3 x5 w = some r → im_WW D vwCl tA lo 7 p l e (im_rm 2 46) s m args below meth c 0 0 (MQ below (im_Post D vwCl tA lo none r) args s 0 0 (fun q => lo ≤ q)) 5 [(0, .ref (lo + x0)), (1, .ref (lo + x1)), (2, .int x2), (3, .long x3), (5, .int x5)] [] w := by
  obtain ⟨hx, hb, hr, hts, hown, hlk, hml, hK, hN⟩ := id X
  intro f
  induction f with
  | zero =>
    intro x0 x1 x2 x3 x5 w hsh
    cases hsh
  | succ f ih =>
    intro x0 x1 x2 x3 x5 w hsh H locs ls hH hl
    unfold sh_Reader_addInOrder_5 at hsh
    refine lv_iload hx hb d_Reader_addInOrder_5 (lv_at hl 4 rfl) ?_
    refine lv_aload_n hx hb d_Reader_addInOrder_7 rfl (lv_at hl 0 rfl) ?_
    obtain ⟨f1, h2, hsh⟩ := im_bd hsh
    refine im_getI hx hb hts inC_Reader hown hK hH (ci := 5) rfl 2 (by decide) (hts _ wd_42) rfl h2 d_Reader_addInOrder_8 ?_
    refine lv_icmp_ge (tgt := 54) hx hb d_Reader_addInOrder_11 (by decide) (fun cc => ?_) (fun cc => ?_)
    · have hsh := im_it hsh cc
      obtain rfl := Option.some.inj hsh
      exact im_vret hx hb hr hlk hH d_Reader_addInOrder_54
    · have hsh := im_if hsh cc
      refine lv_aload_n hx hb d_Reader_addInOrder_14 rfl (lv_at hl 0 rfl) ?_
      refine lv_lload_n hx hb d_Reader_addInOrder_15 rfl (lv_at hl 3 rfl) ?_
      refine lv_iload_n hx hb d_Reader_addInOrder_16 rfl (lv_at hl 2 rfl) ?_
      obtain ⟨u3, h4, hsh⟩ := im_bd hsh
      obtain ⟨g5, h6⟩ := im_is_s h4
      obtain ⟨v9, w7, h8, hsh⟩ := im_bd2 hsh
      refine im_afterI (va_runV (As := [.long x3, .int x2]) (rest := []) (C := RC_Reader) ⟨hx, hb, hml, hown, hts⟩ (met_Reader_leastAbove h8) ⟨(callB_of 2 hts (im_good wd_411) rfl rfl rfl (hts _ wd_3) (hts _ wd_408) (by decide +kernel) ⟨Nat.le_of_ble_eq_true rfl, Nat.le_of_ble_eq_true rfl⟩), hts _ wd_410, hts _ sl_Reader_leastAbove⟩ (im_preV im_NW_ok hK hN hH (ci := 5) rfl rfl h6 _) rfl rfl hl.1 rfl (lv_room (Nat.le_of_ble_eq_true rfl)) d_Reader_addInOrder_17 ⟨Nat.le_of_ble_eq_true rfl, Nat.le_of_ble_eq_true rfl⟩) hH (fun H locs hH => ?_)
      refine lv_istore (lv' := [(6, .int v9), (0, .ref (lo + x0)), (1, .ref (lo + x1)), (2, .int x2), (3, .long x3), (5, .int x5)]) hx hb d_Reader_addInOrder_20 hl (by decide) rfl (fun ls hl => ?_)
      refine lv_iload hx hb d_Reader_addInOrder_22 (lv_at hl 0 rfl) ?_
      refine lv_if_ge (tgt := 28) hx hb d_Reader_addInOrder_24 (by decide) (fun cc => ?_) (fun cc => ?_)
      · have hsh := im_it hsh cc
        refine lv_aload_n hx hb d_Reader_addInOrder_28 rfl (lv_at hl 1 rfl) ?_
        obtain ⟨f10, h11, hsh⟩ := im_bd hsh
        refine im_getR hx hb hts inC_Reader hown hK hH (ci := 5) rfl 0 (by decide) (hts _ wd_40) rfl h11 d_Reader_addInOrder_29 ?_
        refine lv_iload hx hb d_Reader_addInOrder_32 (lv_at hl 0 rfl) ?_
        obtain ⟨e12, h13, hsh⟩ := im_bd hsh
        refine im_lald hx hb hK hH h13 d_Reader_addInOrder_34 ?_
        refine lv_lstore_n (lv' := [(3, .long e12), (6, .int v9), (0, .ref (lo + x0)), (1, .ref (lo + x1)), (2, .int x2), (5, .int x5)]) hx hb d_Reader_addInOrder_35 rfl hl (by decide) rfl (fun ls hl => ?_)
        refine lv_aload_n hx hb d_Reader_addInOrder_36 rfl (lv_at hl 3 rfl) ?_
        refine lv_lload_n hx hb d_Reader_addInOrder_37 rfl (lv_at hl 0 rfl) ?_
        obtain ⟨u14, h15, hsh⟩ := im_bd hsh
        obtain ⟨g16, h17⟩ := im_is_s h15
        obtain ⟨w18, h19, hsh⟩ := im_bd hsh
        refine im_afterV (va_runV (As := [.long e12]) (rest := []) (C := RC_Form) ⟨hx, hb, hml, hown, hts⟩ (met_Form_append h19) ⟨(callB_of 1 hts (im_good wd_395) rfl rfl rfl (hts _ wd_6) (hts _ wd_412) (by decide +kernel) ⟨Nat.le_of_ble_eq_true rfl, Nat.le_of_ble_eq_true rfl⟩), hts _ wd_393, hts _ wd_394⟩ (im_preV im_NW_ok hK hN hH (ci := 2) rfl rfl h17 _) rfl rfl hl.1 rfl (lv_room (Nat.le_of_ble_eq_true rfl)) d_Reader_addInOrder_38 ⟨Nat.le_of_ble_eq_true rfl, Nat.le_of_ble_eq_true rfl⟩) hH (fun H locs hH => ?_)
        refine lv_aload_n hx hb d_Reader_addInOrder_41 rfl (lv_at hl 2 rfl) ?_
        refine lv_aload_n hx hb d_Reader_addInOrder_42 rfl (lv_at hl 3 rfl) ?_
        refine lv_iload hx hb d_Reader_addInOrder_43 (lv_at hl 1 rfl) ?_
        obtain ⟨u20, h21, hsh⟩ := im_bd hsh
        obtain ⟨g22, h23⟩ := im_is_s h21
        obtain ⟨w24, h25, hsh⟩ := im_bd hsh
        refine im_afterV (va_runV (As := [.ref (lo + x1), .int v9]) (rest := []) (C := RC_Reader) ⟨hx, hb, hml, hown, hts⟩ (met_Reader_addTypes h25) ⟨(callB_of 2 hts (im_good wd_416) rfl rfl rfl (hts _ wd_3) (hts _ wd_413) (by decide +kernel) ⟨Nat.le_of_ble_eq_true rfl, Nat.le_of_ble_eq_true rfl⟩), hts _ wd_415, hts _ sl_Reader_addTypes⟩ (im_preV im_NW_ok hK hN hH (ci := 5) rfl rfl h23 _) rfl rfl hl.1 rfl (lv_room (Nat.le_of_ble_eq_true rfl)) d_Reader_addInOrder_45 ⟨Nat.le_of_ble_eq_true rfl, Nat.le_of_ble_eq_true rfl⟩) hH (fun H locs hH => ?_)
        refine lv_iinc (v := (x5 + (1 : Int32))) (lv' := [(5, .int (x5 + (1 : Int32))), (3, .long e12), (6, .int v9), (0, .ref (lo + x0)), (1, .ref (lo + x1)), (2, .int x2)]) hx hb d_Reader_addInOrder_48 hl (k := 5) rfl rfl (by decide) rfl (fun ls hl => ?_)
        refine lv_goto (tgt := 5) hx hb d_Reader_addInOrder_51 (by decide) ?_
        exact ih x0 x1 x2 e12 (x5 + (1 : Int32)) w24 hsh H locs ls hH (lv_sub hl [3, 4, 5, 1, 0] rfl)
      · have hsh := im_if hsh cc
        obtain rfl := Option.some.inj hsh
        exact im_vret hx hb hr hlk hH d_Reader_addInOrder_27
def sh_Reader_addInOrder (F : Nat) (x0 : Nat) (x1 : Nat) (x2 : Int32) (w : im_W) : Option (im_W) :=
  sh_Reader_addInOrder_5 F F x0 x1 x2 (0 : Int64) (0 : Int32) w
set_option maxHeartbeats 4000000 in
set_option maxRecDepth 100000 in
theorem met_Reader_addInOrder {F : Nat} {x0 : Nat} {x1 : Nat} {x2 : Int32} {w : im_W} {r : im_W} (hsh : sh_Reader_addInOrder F x0 x1 x2 w = some r) : Met l y_Reader_addInOrder (Cond.code y_Reader_addInOrder c_Reader_addInOrder 7 none :: im_T) (im_rm 2 46) (im_Pre D vwCl tA lo im_NW [.ref (lo + x0), .ref (lo + x1), .int x2] w) (im_Post D vwCl tA lo none r) 0 0 (fun q => lo ≤ q) := by
  refine im_ofW (cc := c_Reader_addInOrder) (nL := 7) (ret := none) (by decide) (Nat.le_of_ble_eq_true rfl) ?_
  intro p e s m args below meth c X H locs ls hH hl
  obtain ⟨hx, hb, hr, hts, hown, hlk, hml, hK, hN⟩ := id X
  have hl : lv_has ls 7 [(0, .ref (lo + x0)), (1, .ref (lo + x1)), (2, .int x2)] := hl
  unfold sh_Reader_addInOrder at hsh
  refine lv_lconst (v := 0) hx hb d_Reader_addInOrder_0 (by decide) ?_
  refine lv_lstore_n (lv' := [(3, .long (0 : Int64)), (0, .ref (lo + x0)), (1, .ref (lo + x1)), (2, .int x2)]) hx hb d_Reader_addInOrder_1 rfl hl (by decide) rfl (fun ls hl => ?_)
  refine lv_iconst (v := 0) hx hb d_Reader_addInOrder_2 (by decide) ?_
  refine lv_istore (lv' := [(5, .int (0 : Int32)), (3, .long (0 : Int64)), (0, .ref (lo + x0)), (1, .ref (lo + x1)), (2, .int x2)]) hx hb d_Reader_addInOrder_3 hl (by decide) rfl (fun ls hl => ?_)
  exact bk_Reader_addInOrder_5 X F x0 x1 x2 (0 : Int64) (0 : Int32) w hsh H locs ls hH (lv_sub hl [2, 3, 4, 1, 0] rfl)
theorem d_Reader_addPrivate_0 : decode c_Reader_addPrivate 0 = .ok (.iconst 0, 1) := by decide +kernel
theorem d_Reader_addPrivate_1 : decode c_Reader_addPrivate 1 = .ok (.istore_n 2, 1) := by decide +kernel
theorem d_Reader_addPrivate_2 : decode c_Reader_addPrivate 2 = .ok (.iload_n 2, 1) := by decide +kernel
theorem d_Reader_addPrivate_3 : decode c_Reader_addPrivate 3 = .ok (.aload_n 0, 1) := by decide +kernel
theorem d_Reader_addPrivate_4 : decode c_Reader_addPrivate 4 = .ok (.getfield 19, 3) := by decide +kernel
theorem d_Reader_addPrivate_7 : decode c_Reader_addPrivate 7 = .ok (.if_icmp .ge (30), 3) := by decide +kernel
theorem d_Reader_addPrivate_10 : decode c_Reader_addPrivate 10 = .ok (.aload_n 0, 1) := by decide +kernel
theorem d_Reader_addPrivate_11 : decode c_Reader_addPrivate 11 = .ok (.getfield 15, 3) := by decide +kernel
theorem d_Reader_addPrivate_14 : decode c_Reader_addPrivate 14 = .ok (.iload_n 2, 1) := by decide +kernel
theorem d_Reader_addPrivate_15 : decode c_Reader_addPrivate 15 = .ok (.iaload, 1) := by decide +kernel
theorem d_Reader_addPrivate_16 : decode c_Reader_addPrivate 16 = .ok (.bipush (8), 2) := by decide +kernel
theorem d_Reader_addPrivate_18 : decode c_Reader_addPrivate 18 = .ok (.if_icmp .lt (13), 3) := by decide +kernel
theorem d_Reader_addPrivate_21 : decode c_Reader_addPrivate 21 = .ok (.aload_n 1, 1) := by decide +kernel
theorem d_Reader_addPrivate_22 : decode c_Reader_addPrivate 22 = .ok (.aload_n 0, 1) := by decide +kernel
theorem d_Reader_addPrivate_23 : decode c_Reader_addPrivate 23 = .ok (.getfield 9, 3) := by decide +kernel
theorem d_Reader_addPrivate_26 : decode c_Reader_addPrivate 26 = .ok (.iload_n 2, 1) := by decide +kernel
theorem d_Reader_addPrivate_27 : decode c_Reader_addPrivate 27 = .ok (.laload, 1) := by decide +kernel
theorem d_Reader_addPrivate_28 : decode c_Reader_addPrivate 28 = .ok (.invokevirtual 72, 3) := by decide +kernel
theorem d_Reader_addPrivate_31 : decode c_Reader_addPrivate 31 = .ok (.iinc 2 (1), 3) := by decide +kernel
theorem d_Reader_addPrivate_34 : decode c_Reader_addPrivate 34 = .ok (.goto (-32), 3) := by decide +kernel
theorem d_Reader_addPrivate_37 : decode c_Reader_addPrivate 37 = .ok (.return_, 1) := by decide +kernel
def sh_Reader_addPrivate_31 (F : Nat) (k2 : Nat → Nat → Int32 → im_W → Option (im_W)) (x0 : Nat) (x1 : Nat) (x2 : Int32) (w : im_W) : Option (im_W) :=
  k2 x0 x1 (x2 + (1 : Int32)) w
set_option maxHeartbeats 4000000 in
set_option maxRecDepth 100000 in
theorem bk_Reader_addPrivate_31 {F : Nat} {r : im_W} (X : im_X D vwCl tA lo im_NW c_Reader_addPrivate 3 none RC_Reader im_T p s m args meth c) {k2 : Nat → Nat → Int32 → im_W → Option (im_W)} (hk2 : ∀ (x0 : Nat) (x1 : Nat) (x2 : Int32) (w : im_W), k2 x0 x1 x2 w = some r → im_WW D vwCl tA lo 3 p l e (im_rm 1 22) s m args below meth c 0 0 (MQ below (im_Post D vwCl tA lo none r) args s 0 0 (fun q => lo ≤ q)) 2 [(0, .ref (lo + x0)), (1, .ref (lo + x1)), (2, .int x2)] [] w) (x0 : Nat) (x1 : Nat) (x2 : Int32) (w : im_W) (hsh : sh_Reader_addPrivate_31 F k2 x0 x1 x2 w = some r) : im_WW D vwCl tA lo 3 p l e (im_rm 1 22) s m args below meth c 0 0 (MQ below (im_Post D vwCl tA lo none r) args s 0 0 (fun q => lo ≤ q)) 31 [(0, .ref (lo + x0)), (1, .ref (lo + x1)), (2, .int x2)] [] w := by
  obtain ⟨hx, hb, hr, hts, hown, hlk, hml, hK, hN⟩ := id X
  intro H locs ls hH hl
  unfold sh_Reader_addPrivate_31 at hsh
  refine lv_iinc (v := (x2 + (1 : Int32))) (lv' := [(2, .int (x2 + (1 : Int32))), (0, .ref (lo + x0)), (1, .ref (lo + x1))]) hx hb d_Reader_addPrivate_31 hl (k := 2) rfl rfl (by decide) rfl (fun ls hl => ?_)
  refine lv_goto (tgt := 2) hx hb d_Reader_addPrivate_34 (by decide) ?_
  exact hk2 x0 x1 (x2 + (1 : Int32)) w hsh H locs ls hH (lv_sub hl [1, 2, 0] rfl)
def sh_Reader_addPrivate_2 (F : Nat) : Nat → Nat → Nat → Int32 → im_W → Option (im_W)
  | 0, _, _, _, _ => none
  | f + 1, x0, x1, x2, w => (im_gI w 5 x0 2).bind fun f1 => (if f1 ≤ x2 then some w else (im_gR w 5 x0 1).bind fun f3 => (im_lI w 0 f3 x2).bind fun e5 => (if e5 < (8 : Int32) then sh_Reader_addPrivate_31 F (sh_Reader_addPrivate_2 F f) x0 x1 x2 w else (im_gR w 5 x0 0).bind fun f7 => (im_lL w 1 f7 x2).bind fun e9 => (im_is w 2 x1).bind fun u11 => (sh_Form_append F x1 e9 w).bind fun w15 => sh_Reader_addPrivate_31 F (sh_Reader_addPrivate_2 F f) x0 x1 x2 w15))
set_option maxHeartbeats 4000000 in
set_option maxRecDepth 100000 in
theorem bk_Reader_addPrivate_2 {F : Nat} {r : im_W} (X : im_X D vwCl tA lo im_NW c_Reader_addPrivate 3 none RC_Reader im_T p s m args meth c) : ∀ (f : Nat) (x0 : Nat) (x1 : Nat) (x2 : Int32) (w : im_W), sh_Reader_addPrivate_2 F f x0 x1 x2 w = some r → im_WW D vwCl tA lo 3 p l e (im_rm 1 22) s m args below meth c 0 0 (MQ below (im_Post D vwCl tA lo none r) args s 0 0 (fun q => lo ≤ q)) 2 [(0, .ref (lo + x0)), (1, .ref (lo + x1)), (2, .int x2)] [] w := by
  obtain ⟨hx, hb, hr, hts, hown, hlk, hml, hK, hN⟩ := id X
  intro f
  induction f with
  | zero =>
    intro x0 x1 x2 w hsh
    cases hsh
  | succ f ih =>
    intro x0 x1 x2 w hsh H locs ls hH hl
    unfold sh_Reader_addPrivate_2 at hsh
    refine lv_iload_n hx hb d_Reader_addPrivate_2 rfl (lv_at hl 2 rfl) ?_
    refine lv_aload_n hx hb d_Reader_addPrivate_3 rfl (lv_at hl 0 rfl) ?_
    obtain ⟨f1, h2, hsh⟩ := im_bd hsh
    refine im_getI hx hb hts inC_Reader hown hK hH (ci := 5) rfl 2 (by decide) (hts _ wd_42) rfl h2 d_Reader_addPrivate_4 ?_
    refine lv_icmp_ge (tgt := 37) hx hb d_Reader_addPrivate_7 (by decide) (fun cc => ?_) (fun cc => ?_)
    · have hsh := im_it hsh cc
      obtain rfl := Option.some.inj hsh
      exact im_vret hx hb hr hlk hH d_Reader_addPrivate_37
    · have hsh := im_if hsh cc
      refine lv_aload_n hx hb d_Reader_addPrivate_10 rfl (lv_at hl 0 rfl) ?_
      obtain ⟨f3, h4, hsh⟩ := im_bd hsh
      refine im_getR hx hb hts inC_Reader hown hK hH (ci := 5) rfl 1 (by decide) (hts _ wd_41) rfl h4 d_Reader_addPrivate_11 ?_
      refine lv_iload_n hx hb d_Reader_addPrivate_14 rfl (lv_at hl 2 rfl) ?_
      obtain ⟨e5, h6, hsh⟩ := im_bd hsh
      refine im_iald hx hb hK hH h6 d_Reader_addPrivate_15 ?_
      refine lv_bipush (v := 8) hx hb d_Reader_addPrivate_16 (by decide) ?_
      refine lv_icmp_lt (tgt := 31) hx hb d_Reader_addPrivate_18 (by decide) (fun cc => ?_) (fun cc => ?_)
      · have hsh := im_it hsh cc
        exact bk_Reader_addPrivate_31 X ih x0 x1 x2 w hsh H locs ls hH (lv_sub hl [0, 1, 2] rfl)
      · have hsh := im_if hsh cc
        refine lv_aload_n hx hb d_Reader_addPrivate_21 rfl (lv_at hl 1 rfl) ?_
        refine lv_aload_n hx hb d_Reader_addPrivate_22 rfl (lv_at hl 0 rfl) ?_
        obtain ⟨f7, h8, hsh⟩ := im_bd hsh
        refine im_getR hx hb hts inC_Reader hown hK hH (ci := 5) rfl 0 (by decide) (hts _ wd_40) rfl h8 d_Reader_addPrivate_23 ?_
        refine lv_iload_n hx hb d_Reader_addPrivate_26 rfl (lv_at hl 2 rfl) ?_
        obtain ⟨e9, h10, hsh⟩ := im_bd hsh
        refine im_lald hx hb hK hH h10 d_Reader_addPrivate_27 ?_
        obtain ⟨u11, h12, hsh⟩ := im_bd hsh
        obtain ⟨g13, h14⟩ := im_is_s h12
        obtain ⟨w15, h16, hsh⟩ := im_bd hsh
        refine im_afterV (va_runV (As := [.long e9]) (rest := []) (C := RC_Form) ⟨hx, hb, hml, hown, hts⟩ (met_Form_append h16) ⟨(callB_of 1 hts (im_good wd_395) rfl rfl rfl (hts _ wd_6) (hts _ wd_412) (by decide +kernel) ⟨Nat.le_of_ble_eq_true rfl, Nat.le_of_ble_eq_true rfl⟩), hts _ wd_393, hts _ wd_394⟩ (im_preV im_NW_ok hK hN hH (ci := 2) rfl rfl h14 _) rfl rfl hl.1 rfl (lv_room (Nat.le_of_ble_eq_true rfl)) d_Reader_addPrivate_28 ⟨Nat.le_of_ble_eq_true rfl, Nat.le_of_ble_eq_true rfl⟩) hH (fun H locs hH => ?_)
        exact bk_Reader_addPrivate_31 X ih x0 x1 x2 w15 hsh H locs ls hH (lv_sub hl [0, 1, 2] rfl)
def sh_Reader_addPrivate (F : Nat) (x0 : Nat) (x1 : Nat) (w : im_W) : Option (im_W) :=
  sh_Reader_addPrivate_2 F F x0 x1 (0 : Int32) w
set_option maxHeartbeats 4000000 in
set_option maxRecDepth 100000 in
theorem met_Reader_addPrivate {F : Nat} {x0 : Nat} {x1 : Nat} {w : im_W} {r : im_W} (hsh : sh_Reader_addPrivate F x0 x1 w = some r) : Met l y_Reader_addPrivate (Cond.code y_Reader_addPrivate c_Reader_addPrivate 3 none :: im_T) (im_rm 1 22) (im_Pre D vwCl tA lo im_NW [.ref (lo + x0), .ref (lo + x1)] w) (im_Post D vwCl tA lo none r) 0 0 (fun q => lo ≤ q) := by
  refine im_ofW (cc := c_Reader_addPrivate) (nL := 3) (ret := none) (by decide) (Nat.le_of_ble_eq_true rfl) ?_
  intro p e s m args below meth c X H locs ls hH hl
  obtain ⟨hx, hb, hr, hts, hown, hlk, hml, hK, hN⟩ := id X
  have hl : lv_has ls 3 [(0, .ref (lo + x0)), (1, .ref (lo + x1))] := hl
  unfold sh_Reader_addPrivate at hsh
  refine lv_iconst (v := 0) hx hb d_Reader_addPrivate_0 (by decide) ?_
  refine lv_istore_n (lv' := [(2, .int (0 : Int32)), (0, .ref (lo + x0)), (1, .ref (lo + x1))]) hx hb d_Reader_addPrivate_1 rfl hl (by decide) rfl (fun ls hl => ?_)
  exact bk_Reader_addPrivate_2 X F x0 x1 (0 : Int32) w hsh H locs ls hH (lv_sub hl [1, 2, 0] rfl)
theorem wd_311 : (Jvm.Cond.instanceMethod ({ cls := "LanguageTags$Aliases", name := "replaced", desc := "(JZ)J" } : Jvm.MethodName)) ∈ im_T := im_memT (i := 311) (by decide +kernel) (by decide +kernel)
theorem wd_312 : (Jvm.Cond.selects "LanguageTags$Aliases" ({ cls := "LanguageTags$Aliases", name := "replaced", desc := "(JZ)J" } : Jvm.MethodName) ({ cls := "LanguageTags$Aliases", name := "replaced", desc := "(JZ)J" } : Jvm.MethodName)) ∈ im_T := im_memT (i := 312) (by decide +kernel) (by decide +kernel)
theorem wd_313 : (Jvm.Cond.code ({ cls := "LanguageTags$Aliases", name := "replaced", desc := "(JZ)J" } : Jvm.MethodName) prog_2_method_6_code (8 : Nat) (Option.some Jvm.ClassFile.FieldType.long)) ∈ im_T := im_memT (i := 313) (by decide +kernel) (by decide +kernel)
theorem wd_371 : (Jvm.Cond.methodLink "LanguageTags$Reader" (43 : Nat) ({ cls := "LanguageTags$Reader", name := "partWith", desc := "(I)J" } : Jvm.MethodName)) ∈ im_T := im_memT (i := 371) (by decide +kernel) (by decide +kernel)
theorem wd_373 : (Jvm.Cond.instanceMethod ({ cls := "LanguageTags$Reader", name := "partWith", desc := "(I)J" } : Jvm.MethodName)) ∈ im_T := im_memT (i := 373) (by decide +kernel) (by decide +kernel)
theorem wd_374 : (Jvm.Cond.code ({ cls := "LanguageTags$Reader", name := "partWith", desc := "(I)J" } : Jvm.MethodName) prog_7_method_8_code (3 : Nat) (Option.some Jvm.ClassFile.FieldType.long)) ∈ im_T := im_memT (i := 374) (by decide +kernel) (by decide +kernel)
theorem wd_375 : (Jvm.Cond.methodLink "LanguageTags$Reader" (47 : Nat) ({ cls := "LanguageTags$Aliases", name := "replaced", desc := "(JZ)J" } : Jvm.MethodName)) ∈ im_T := im_memT (i := 375) (by decide +kernel) (by decide +kernel)
theorem wd_376 : (Jvm.Cond.methodLink "LanguageTags$Reader" (53 : Nat) ({ cls := "LanguageTags$Subtag", name := "titled", desc := "(J)J" } : Jvm.MethodName)) ∈ im_T := im_memT (i := 376) (by decide +kernel) (by decide +kernel)
theorem wd_377 : (Jvm.Cond.static ({ cls := "LanguageTags$Subtag", name := "titled", desc := "(J)J" } : Jvm.MethodName)) ∈ im_T := im_memT (i := 377) (by decide +kernel) (by decide +kernel)
theorem wd_378 : (Jvm.Cond.code ({ cls := "LanguageTags$Subtag", name := "titled", desc := "(J)J" } : Jvm.MethodName) prog_8_method_14_code (2 : Nat) (Option.some Jvm.ClassFile.FieldType.long)) ∈ im_T := im_memT (i := 378) (by decide +kernel) (by decide +kernel)
theorem wd_380 : (Jvm.Cond.methodLink "LanguageTags$Reader" (57 : Nat) ({ cls := "LanguageTags$Subtag", name := "capitals", desc := "(J)J" } : Jvm.MethodName)) ∈ im_T := im_memT (i := 380) (by decide +kernel) (by decide +kernel)
theorem wd_381 : (Jvm.Cond.static ({ cls := "LanguageTags$Subtag", name := "capitals", desc := "(J)J" } : Jvm.MethodName)) ∈ im_T := im_memT (i := 381) (by decide +kernel) (by decide +kernel)
theorem wd_382 : (Jvm.Cond.code ({ cls := "LanguageTags$Subtag", name := "capitals", desc := "(J)J" } : Jvm.MethodName) prog_8_method_15_code (2 : Nat) (Option.some Jvm.ClassFile.FieldType.long)) ∈ im_T := im_memT (i := 382) (by decide +kernel) (by decide +kernel)
theorem wd_384 : (Jvm.Cond.methodLink "LanguageTags$Reader" (60 : Nat) ({ cls := "LanguageTags$Form", name := "begin", desc := "(JJJ)V" } : Jvm.MethodName)) ∈ im_T := im_memT (i := 384) (by decide +kernel) (by decide +kernel)
theorem wd_385 : (Jvm.Cond.instanceMethod ({ cls := "LanguageTags$Form", name := "begin", desc := "(JJJ)V" } : Jvm.MethodName)) ∈ im_T := im_memT (i := 385) (by decide +kernel) (by decide +kernel)
theorem wd_386 : (Jvm.Cond.selects "LanguageTags$Form" ({ cls := "LanguageTags$Form", name := "begin", desc := "(JJJ)V" } : Jvm.MethodName) ({ cls := "LanguageTags$Form", name := "begin", desc := "(JJJ)V" } : Jvm.MethodName)) ∈ im_T := im_memT (i := 386) (by decide +kernel) (by decide +kernel)
theorem wd_387 : (Jvm.Cond.code ({ cls := "LanguageTags$Form", name := "begin", desc := "(JJJ)V" } : Jvm.MethodName) prog_4_method_5_code (7 : Nat) (Option.none : Option Jvm.ClassFile.FieldType)) ∈ im_T := im_memT (i := 387) (by decide +kernel) (by decide +kernel)
theorem wd_404 : (Jvm.Cond.methodLink "LanguageTags$Reader" (66 : Nat) ({ cls := "LanguageTags$Reader", name := "addInOrder", desc := "(LLanguageTags$Form;I)V" } : Jvm.MethodName)) ∈ im_T := im_memT (i := 404) (by decide +kernel) (by decide +kernel)
theorem wd_406 : (Jvm.Cond.instanceMethod ({ cls := "LanguageTags$Reader", name := "addInOrder", desc := "(LLanguageTags$Form;I)V" } : Jvm.MethodName)) ∈ im_T := im_memT (i := 406) (by decide +kernel) (by decide +kernel)
theorem wd_407 : (Jvm.Cond.code ({ cls := "LanguageTags$Reader", name := "addInOrder", desc := "(LLanguageTags$Form;I)V" } : Jvm.MethodName) prog_7_method_9_code (7 : Nat) (Option.none : Option Jvm.ClassFile.FieldType)) ∈ im_T := im_memT (i := 407) (by decide +kernel) (by decide +kernel)
theorem wd_418 : (Jvm.Cond.methodLink "LanguageTags$Reader" (76 : Nat) ({ cls := "LanguageTags$Reader", name := "addPrivate", desc := "(LLanguageTags$Form;)V" } : Jvm.MethodName)) ∈ im_T := im_memT (i := 418) (by decide +kernel) (by decide +kernel)
theorem wd_420 : (Jvm.Cond.instanceMethod ({ cls := "LanguageTags$Reader", name := "addPrivate", desc := "(LLanguageTags$Form;)V" } : Jvm.MethodName)) ∈ im_T := im_memT (i := 420) (by decide +kernel) (by decide +kernel)
theorem wd_421 : (Jvm.Cond.code ({ cls := "LanguageTags$Reader", name := "addPrivate", desc := "(LLanguageTags$Form;)V" } : Jvm.MethodName) prog_7_method_12_code (3 : Nat) (Option.none : Option Jvm.ClassFile.FieldType)) ∈ im_T := im_memT (i := 421) (by decide +kernel) (by decide +kernel)
theorem d_Reader_fillForm_0 : decode c_Reader_fillForm 0 = .ok (.aload_n 2, 1) := by decide +kernel
theorem d_Reader_fillForm_1 : decode c_Reader_fillForm 1 = .ok (.aload_n 0, 1) := by decide +kernel
theorem d_Reader_fillForm_2 : decode c_Reader_fillForm 2 = .ok (.iconst 1, 1) := by decide +kernel
theorem d_Reader_fillForm_3 : decode c_Reader_fillForm 3 = .ok (.invokevirtual 43, 3) := by decide +kernel
theorem d_Reader_fillForm_6 : decode c_Reader_fillForm 6 = .ok (.iconst 0, 1) := by decide +kernel
theorem d_Reader_fillForm_7 : decode c_Reader_fillForm 7 = .ok (.invokevirtual 47, 3) := by decide +kernel
theorem d_Reader_fillForm_10 : decode c_Reader_fillForm 10 = .ok (.lstore_n 3, 1) := by decide +kernel
theorem d_Reader_fillForm_11 : decode c_Reader_fillForm 11 = .ok (.aload_n 0, 1) := by decide +kernel
theorem d_Reader_fillForm_12 : decode c_Reader_fillForm 12 = .ok (.iconst 2, 1) := by decide +kernel
theorem d_Reader_fillForm_13 : decode c_Reader_fillForm 13 = .ok (.invokevirtual 43, 3) := by decide +kernel
theorem d_Reader_fillForm_16 : decode c_Reader_fillForm 16 = .ok (.invokestatic 53, 3) := by decide +kernel
theorem d_Reader_fillForm_19 : decode c_Reader_fillForm 19 = .ok (.lstore 5, 2) := by decide +kernel
theorem d_Reader_fillForm_21 : decode c_Reader_fillForm 21 = .ok (.aload_n 2, 1) := by decide +kernel
theorem d_Reader_fillForm_22 : decode c_Reader_fillForm 22 = .ok (.aload_n 0, 1) := by decide +kernel
theorem d_Reader_fillForm_23 : decode c_Reader_fillForm 23 = .ok (.iconst 3, 1) := by decide +kernel
theorem d_Reader_fillForm_24 : decode c_Reader_fillForm 24 = .ok (.invokevirtual 43, 3) := by decide +kernel
theorem d_Reader_fillForm_27 : decode c_Reader_fillForm 27 = .ok (.iconst 1, 1) := by decide +kernel
theorem d_Reader_fillForm_28 : decode c_Reader_fillForm 28 = .ok (.invokevirtual 47, 3) := by decide +kernel
theorem d_Reader_fillForm_31 : decode c_Reader_fillForm 31 = .ok (.invokestatic 57, 3) := by decide +kernel
theorem d_Reader_fillForm_34 : decode c_Reader_fillForm 34 = .ok (.lstore 7, 2) := by decide +kernel
theorem d_Reader_fillForm_36 : decode c_Reader_fillForm 36 = .ok (.aload_n 1, 1) := by decide +kernel
theorem d_Reader_fillForm_37 : decode c_Reader_fillForm 37 = .ok (.lload_n 3, 1) := by decide +kernel
theorem d_Reader_fillForm_38 : decode c_Reader_fillForm 38 = .ok (.lload 5, 2) := by decide +kernel
theorem d_Reader_fillForm_40 : decode c_Reader_fillForm 40 = .ok (.lload 7, 2) := by decide +kernel
theorem d_Reader_fillForm_42 : decode c_Reader_fillForm 42 = .ok (.invokevirtual 60, 3) := by decide +kernel
theorem d_Reader_fillForm_45 : decode c_Reader_fillForm 45 = .ok (.aload_n 0, 1) := by decide +kernel
theorem d_Reader_fillForm_46 : decode c_Reader_fillForm 46 = .ok (.aload_n 1, 1) := by decide +kernel
theorem d_Reader_fillForm_47 : decode c_Reader_fillForm 47 = .ok (.iconst 4, 1) := by decide +kernel
theorem d_Reader_fillForm_48 : decode c_Reader_fillForm 48 = .ok (.invokevirtual 66, 3) := by decide +kernel
theorem d_Reader_fillForm_51 : decode c_Reader_fillForm 51 = .ok (.aload_n 0, 1) := by decide +kernel
theorem d_Reader_fillForm_52 : decode c_Reader_fillForm 52 = .ok (.iconst 5, 1) := by decide +kernel
theorem d_Reader_fillForm_53 : decode c_Reader_fillForm 53 = .ok (.invokevirtual 43, 3) := by decide +kernel
theorem d_Reader_fillForm_56 : decode c_Reader_fillForm 56 = .ok (.lconst 0, 1) := by decide +kernel
theorem d_Reader_fillForm_57 : decode c_Reader_fillForm 57 = .ok (.lcmp, 1) := by decide +kernel
theorem d_Reader_fillForm_58 : decode c_Reader_fillForm 58 = .ok (.ifCond .eq (17), 3) := by decide +kernel
theorem d_Reader_fillForm_61 : decode c_Reader_fillForm 61 = .ok (.aload_n 1, 1) := by decide +kernel
theorem d_Reader_fillForm_62 : decode c_Reader_fillForm 62 = .ok (.ldc2_w 70, 3) := by decide +kernel
theorem d_Reader_fillForm_65 : decode c_Reader_fillForm 65 = .ok (.invokevirtual 72, 3) := by decide +kernel
theorem d_Reader_fillForm_68 : decode c_Reader_fillForm 68 = .ok (.aload_n 0, 1) := by decide +kernel
theorem d_Reader_fillForm_69 : decode c_Reader_fillForm 69 = .ok (.aload_n 1, 1) := by decide +kernel
theorem d_Reader_fillForm_70 : decode c_Reader_fillForm 70 = .ok (.bipush (6), 2) := by decide +kernel
theorem d_Reader_fillForm_72 : decode c_Reader_fillForm 72 = .ok (.invokevirtual 66, 3) := by decide +kernel
theorem d_Reader_fillForm_75 : decode c_Reader_fillForm 75 = .ok (.aload_n 0, 1) := by decide +kernel
theorem d_Reader_fillForm_76 : decode c_Reader_fillForm 76 = .ok (.aload_n 1, 1) := by decide +kernel
theorem d_Reader_fillForm_77 : decode c_Reader_fillForm 77 = .ok (.invokevirtual 76, 3) := by decide +kernel
theorem d_Reader_fillForm_80 : decode c_Reader_fillForm 80 = .ok (.return_, 1) := by decide +kernel
def sh_Reader_fillForm_75 (F : Nat) (x0 : Nat) (x1 : Nat) (w : im_W) : Option (im_W) :=
  (im_is w 5 x0).bind fun u1 => (sh_Reader_addPrivate F x0 x1 w).bind fun w5 => some w5
set_option maxHeartbeats 4000000 in
set_option maxRecDepth 100000 in
theorem bk_Reader_fillForm_75 {F : Nat} {r : im_W} (X : im_X D vwCl tA lo im_NW c_Reader_fillForm 9 none RC_Reader im_T p s m args meth c) (x0 : Nat) (x1 : Nat) (w : im_W) (hsh : sh_Reader_fillForm_75 F x0 x1 w = some r) : im_WW D vwCl tA lo 9 p l e (im_rm 3 72) s m args below meth c 0 0 (MQ below (im_Post D vwCl tA lo none r) args s 0 0 (fun q => lo ≤ q)) 75 [(0, .ref (lo + x0)), (1, .ref (lo + x1))] [] w := by
  obtain ⟨hx, hb, hr, hts, hown, hlk, hml, hK, hN⟩ := id X
  intro H locs ls hH hl
  unfold sh_Reader_fillForm_75 at hsh
  refine lv_aload_n hx hb d_Reader_fillForm_75 rfl (lv_at hl 0 rfl) ?_
  refine lv_aload_n hx hb d_Reader_fillForm_76 rfl (lv_at hl 1 rfl) ?_
  obtain ⟨u1, h2, hsh⟩ := im_bd hsh
  obtain ⟨g3, h4⟩ := im_is_s h2
  obtain ⟨w5, h6, hsh⟩ := im_bd hsh
  refine im_afterV (va_runV (As := [.ref (lo + x1)]) (rest := []) (C := RC_Reader) ⟨hx, hb, hml, hown, hts⟩ (met_Reader_addPrivate h6) ⟨(callB_of 1 hts (im_good wd_421) rfl rfl rfl (hts _ wd_3) (hts _ wd_418) (by decide +kernel) ⟨Nat.le_of_ble_eq_true rfl, Nat.le_of_ble_eq_true rfl⟩), hts _ wd_420, hts _ sl_Reader_addPrivate⟩ (im_preV im_NW_ok hK hN hH (ci := 5) rfl rfl h4 _) rfl rfl hl.1 rfl (lv_room (Nat.le_of_ble_eq_true rfl)) d_Reader_fillForm_77 ⟨Nat.le_of_ble_eq_true rfl, Nat.le_of_ble_eq_true rfl⟩) hH (fun H locs hH => ?_)
  obtain rfl := Option.some.inj hsh
  exact im_vret hx hb hr hlk hH d_Reader_fillForm_80
def sh_Reader_fillForm (F : Nat) (x0 : Nat) (x1 : Nat) (x2 : Nat) (w : im_W) : Option (im_W) :=
  (im_is w 5 x0).bind fun u1 => im_b2 (sh_Reader_partWith F x0 (1 : Int32) w) fun v7 w5 => (im_is w5 0 x2).bind fun u8 => im_b2 (sh_Aliases_replaced F x2 v7 (0 : Int32) w5) fun v14 w12 => (im_is w12 5 x0).bind fun u15 => im_b2 (sh_Reader_partWith F x0 (2 : Int32) w12) fun v21 w19 => im_b2 (sh_Subtag_titled F v21 w19) fun v24 w22 => (im_is w22 5 x0).bind fun u25 => im_b2 (sh_Reader_partWith F x0 (3 : Int32) w22) fun v31 w29 => (im_is w29 0 x2).bind fun u32 => im_b2 (sh_Aliases_replaced F x2 v31 (1 : Int32) w29) fun v38 w36 => im_b2 (sh_Subtag_capitals F v38 w36) fun v41 w39 => (im_is w39 2 x1).bind fun u42 => (sh_Form_begin F x1 v14 v24 v41 w39).bind fun w46 => (im_is w46 5 x0).bind fun u48 => (sh_Reader_addInOrder F x0 x1 (4 : Int32) w46).bind fun w52 => (im_is w52 5 x0).bind fun u54 => im_b2 (sh_Reader_partWith F x0 (5 : Int32) w52) fun v60 w58 => (if (lg_cmp v60 (0 : Int64)) = 0 then sh_Reader_fillForm_75 F x0 x1 w58 else (im_is w58 2 x1).bind fun u61 => (sh_Form_append F x1 (8430738502437568512 : Int64) w58).bind fun w65 => (im_is w65 5 x0).bind fun u67 => (sh_Reader_addInOrder F x0 x1 (6 : Int32) w65).bind fun w71 => sh_Reader_fillForm_75 F x0 x1 w71)
set_option maxHeartbeats 4000000 in
set_option maxRecDepth 100000 in
theorem met_Reader_fillForm {F : Nat} {x0 : Nat} {x1 : Nat} {x2 : Nat} {w : im_W} {r : im_W} (hsh : sh_Reader_fillForm F x0 x1 x2 w = some r) : Met l y_Reader_fillForm (Cond.code y_Reader_fillForm c_Reader_fillForm 9 none :: im_T) (im_rm 3 72) (im_Pre D vwCl tA lo im_NW [.ref (lo + x0), .ref (lo + x1), .ref (lo + x2)] w) (im_Post D vwCl tA lo none r) 0 0 (fun q => lo ≤ q) := by
  refine im_ofW (cc := c_Reader_fillForm) (nL := 9) (ret := none) (by decide) (Nat.le_of_ble_eq_true rfl) ?_
  intro p e s m args below meth c X H locs ls hH hl
  obtain ⟨hx, hb, hr, hts, hown, hlk, hml, hK, hN⟩ := id X
  have hl : lv_has ls 9 [(0, .ref (lo + x0)), (1, .ref (lo + x1)), (2, .ref (lo + x2))] := hl
  unfold sh_Reader_fillForm at hsh
  refine lv_aload_n hx hb d_Reader_fillForm_0 rfl (lv_at hl 2 rfl) ?_
  refine lv_aload_n hx hb d_Reader_fillForm_1 rfl (lv_at hl 0 rfl) ?_
  refine lv_iconst (v := 1) hx hb d_Reader_fillForm_2 (by decide) ?_
  obtain ⟨u1, h2, hsh⟩ := im_bd hsh
  obtain ⟨g3, h4⟩ := im_is_s h2
  obtain ⟨v7, w5, h6, hsh⟩ := im_bd2 hsh
  refine im_afterL (va_runV (As := [.int (1 : Int32)]) (rest := [.ref (lo + x2)]) (C := RC_Reader) ⟨hx, hb, hml, hown, hts⟩ (met_Reader_partWith h6) ⟨(callB_of 1 hts (im_good wd_374) rfl rfl rfl (hts _ wd_3) (hts _ wd_371) (by decide +kernel) ⟨Nat.le_of_ble_eq_true rfl, Nat.le_of_ble_eq_true rfl⟩), hts _ wd_373, hts _ sl_Reader_partWith⟩ (im_preV im_NW_ok hK hN hH (ci := 5) rfl rfl h4 _) rfl rfl hl.1 rfl (lv_room (Nat.le_of_ble_eq_true rfl)) d_Reader_fillForm_3 ⟨Nat.le_of_ble_eq_true rfl, Nat.le_of_ble_eq_true rfl⟩) hH (fun H locs hH => ?_)
  refine lv_iconst (v := 0) hx hb d_Reader_fillForm_6 (by decide) ?_
  obtain ⟨u8, h9, hsh⟩ := im_bd hsh
  obtain ⟨g10, h11⟩ := im_is_s h9
  obtain ⟨v14, w12, h13, hsh⟩ := im_bd2 hsh
  refine im_afterL (va_runV (As := [.long v7, .int (0 : Int32)]) (rest := []) (C := RC_Aliases) ⟨hx, hb, hml, hown, hts⟩ (met_Aliases_replaced h13) ⟨(callB_of 2 hts (im_good wd_313) rfl rfl rfl (hts _ wd_4) (hts _ wd_375) (by decide +kernel) ⟨Nat.le_of_ble_eq_true rfl, Nat.le_of_ble_eq_true rfl⟩), hts _ wd_311, hts _ wd_312⟩ (im_preV im_NW_ok hK hN hH (ci := 0) rfl rfl h11 _) rfl rfl hl.1 rfl (lv_room (Nat.le_of_ble_eq_true rfl)) d_Reader_fillForm_7 ⟨Nat.le_of_ble_eq_true rfl, Nat.le_of_ble_eq_true rfl⟩) hH (fun H locs hH => ?_)
  refine lv_lstore_n (lv' := [(3, .long v14), (0, .ref (lo + x0)), (1, .ref (lo + x1)), (2, .ref (lo + x2))]) hx hb d_Reader_fillForm_10 rfl hl (by decide) rfl (fun ls hl => ?_)
  refine lv_aload_n hx hb d_Reader_fillForm_11 rfl (lv_at hl 1 rfl) ?_
  refine lv_iconst (v := 2) hx hb d_Reader_fillForm_12 (by decide) ?_
  obtain ⟨u15, h16, hsh⟩ := im_bd hsh
  obtain ⟨g17, h18⟩ := im_is_s h16
  obtain ⟨v21, w19, h20, hsh⟩ := im_bd2 hsh
  refine im_afterL (va_runV (As := [.int (2 : Int32)]) (rest := []) (C := RC_Reader) ⟨hx, hb, hml, hown, hts⟩ (met_Reader_partWith h20) ⟨(callB_of 1 hts (im_good wd_374) rfl rfl rfl (hts _ wd_3) (hts _ wd_371) (by decide +kernel) ⟨Nat.le_of_ble_eq_true rfl, Nat.le_of_ble_eq_true rfl⟩), hts _ wd_373, hts _ sl_Reader_partWith⟩ (im_preV im_NW_ok hK hN hH (ci := 5) rfl rfl h18 _) rfl rfl hl.1 rfl (lv_room (Nat.le_of_ble_eq_true rfl)) d_Reader_fillForm_13 ⟨Nat.le_of_ble_eq_true rfl, Nat.le_of_ble_eq_true rfl⟩) hH (fun H locs hH => ?_)
  obtain ⟨v24, w22, h23, hsh⟩ := im_bd2 hsh
  refine im_afterL (va_runS (As := [.long v21]) (rest := []) ⟨hx, hb, hml, hown, hts⟩ (met_Subtag_titled h23) ⟨(callB_of 1 hts (im_good wd_378) rfl rfl rfl (hts _ wd_11) (hts _ wd_376) (by decide +kernel) ⟨Nat.le_of_ble_eq_true rfl, Nat.le_of_ble_eq_true rfl⟩), hts _ wd_377⟩ (im_pre im_NW_ok hK hN hH _) rfl rfl hl.1 rfl (lv_room (Nat.le_of_ble_eq_true rfl)) d_Reader_fillForm_16 ⟨Nat.le_of_ble_eq_true rfl, Nat.le_of_ble_eq_true rfl⟩) hH (fun H locs hH => ?_)
  refine lv_lstore (lv' := [(5, .long v24), (3, .long v14), (0, .ref (lo + x0)), (1, .ref (lo + x1)), (2, .ref (lo + x2))]) hx hb d_Reader_fillForm_19 hl (by decide) rfl (fun ls hl => ?_)
  refine lv_aload_n hx hb d_Reader_fillForm_21 rfl (lv_at hl 4 rfl) ?_
  refine lv_aload_n hx hb d_Reader_fillForm_22 rfl (lv_at hl 2 rfl) ?_
  refine lv_iconst (v := 3) hx hb d_Reader_fillForm_23 (by decide) ?_
  obtain ⟨u25, h26, hsh⟩ := im_bd hsh
  obtain ⟨g27, h28⟩ := im_is_s h26
  obtain ⟨v31, w29, h30, hsh⟩ := im_bd2 hsh
  refine im_afterL (va_runV (As := [.int (3 : Int32)]) (rest := [.ref (lo + x2)]) (C := RC_Reader) ⟨hx, hb, hml, hown, hts⟩ (met_Reader_partWith h30) ⟨(callB_of 1 hts (im_good wd_374) rfl rfl rfl (hts _ wd_3) (hts _ wd_371) (by decide +kernel) ⟨Nat.le_of_ble_eq_true rfl, Nat.le_of_ble_eq_true rfl⟩), hts _ wd_373, hts _ sl_Reader_partWith⟩ (im_preV im_NW_ok hK hN hH (ci := 5) rfl rfl h28 _) rfl rfl hl.1 rfl (lv_room (Nat.le_of_ble_eq_true rfl)) d_Reader_fillForm_24 ⟨Nat.le_of_ble_eq_true rfl, Nat.le_of_ble_eq_true rfl⟩) hH (fun H locs hH => ?_)
  refine lv_iconst (v := 1) hx hb d_Reader_fillForm_27 (by decide) ?_
  obtain ⟨u32, h33, hsh⟩ := im_bd hsh
  obtain ⟨g34, h35⟩ := im_is_s h33
  obtain ⟨v38, w36, h37, hsh⟩ := im_bd2 hsh
  refine im_afterL (va_runV (As := [.long v31, .int (1 : Int32)]) (rest := []) (C := RC_Aliases) ⟨hx, hb, hml, hown, hts⟩ (met_Aliases_replaced h37) ⟨(callB_of 2 hts (im_good wd_313) rfl rfl rfl (hts _ wd_4) (hts _ wd_375) (by decide +kernel) ⟨Nat.le_of_ble_eq_true rfl, Nat.le_of_ble_eq_true rfl⟩), hts _ wd_311, hts _ wd_312⟩ (im_preV im_NW_ok hK hN hH (ci := 0) rfl rfl h35 _) rfl rfl hl.1 rfl (lv_room (Nat.le_of_ble_eq_true rfl)) d_Reader_fillForm_28 ⟨Nat.le_of_ble_eq_true rfl, Nat.le_of_ble_eq_true rfl⟩) hH (fun H locs hH => ?_)
  obtain ⟨v41, w39, h40, hsh⟩ := im_bd2 hsh
  refine im_afterL (va_runS (As := [.long v38]) (rest := []) ⟨hx, hb, hml, hown, hts⟩ (met_Subtag_capitals h40) ⟨(callB_of 1 hts (im_good wd_382) rfl rfl rfl (hts _ wd_11) (hts _ wd_380) (by decide +kernel) ⟨Nat.le_of_ble_eq_true rfl, Nat.le_of_ble_eq_true rfl⟩), hts _ wd_381⟩ (im_pre im_NW_ok hK hN hH _) rfl rfl hl.1 rfl (lv_room (Nat.le_of_ble_eq_true rfl)) d_Reader_fillForm_31 ⟨Nat.le_of_ble_eq_true rfl, Nat.le_of_ble_eq_true rfl⟩) hH (fun H locs hH => ?_)
  refine lv_lstore (lv' := [(7, .long v41), (5, .long v24), (3, .long v14), (0, .ref (lo + x0)), (1, .ref (lo + x1)), (2, .ref (lo + x2))]) hx hb d_Reader_fillForm_34 hl (by decide) rfl (fun ls hl => ?_)
  refine lv_aload_n hx hb d_Reader_fillForm_36 rfl (lv_at hl 4 rfl) ?_
  refine lv_lload_n hx hb d_Reader_fillForm_37 rfl (lv_at hl 2 rfl) ?_
  refine lv_lload hx hb d_Reader_fillForm_38 (lv_at hl 1 rfl) ?_
  refine lv_lload hx hb d_Reader_fillForm_40 (lv_at hl 0 rfl) ?_
  obtain ⟨u42, h43, hsh⟩ := im_bd hsh
  obtain ⟨g44, h45⟩ := im_is_s h43
  obtain ⟨w46, h47, hsh⟩ := im_bd hsh
  refine im_afterV (va_runV (As := [.long v14, .long v24, .long v41]) (rest := []) (C := RC_Form) ⟨hx, hb, hml, hown, hts⟩ (met_Form_begin h47) ⟨(callB_of 3 hts (im_good wd_387) rfl rfl rfl (hts _ wd_6) (hts _ wd_384) (by decide +kernel) ⟨Nat.le_of_ble_eq_true rfl, Nat.le_of_ble_eq_true rfl⟩), hts _ wd_385, hts _ wd_386⟩ (im_preV im_NW_ok hK hN hH (ci := 2) rfl rfl h45 _) rfl rfl hl.1 rfl (lv_room (Nat.le_of_ble_eq_true rfl)) d_Reader_fillForm_42 ⟨Nat.le_of_ble_eq_true rfl, Nat.le_of_ble_eq_true rfl⟩) hH (fun H locs hH => ?_)
  refine lv_aload_n hx hb d_Reader_fillForm_45 rfl (lv_at hl 3 rfl) ?_
  refine lv_aload_n hx hb d_Reader_fillForm_46 rfl (lv_at hl 4 rfl) ?_
  refine lv_iconst (v := 4) hx hb d_Reader_fillForm_47 (by decide) ?_
  obtain ⟨u48, h49, hsh⟩ := im_bd hsh
  obtain ⟨g50, h51⟩ := im_is_s h49
  obtain ⟨w52, h53, hsh⟩ := im_bd hsh
  refine im_afterV (va_runV (As := [.ref (lo + x1), .int (4 : Int32)]) (rest := []) (C := RC_Reader) ⟨hx, hb, hml, hown, hts⟩ (met_Reader_addInOrder h53) ⟨(callB_of 2 hts (im_good wd_407) rfl rfl rfl (hts _ wd_3) (hts _ wd_404) (by decide +kernel) ⟨Nat.le_of_ble_eq_true rfl, Nat.le_of_ble_eq_true rfl⟩), hts _ wd_406, hts _ sl_Reader_addInOrder⟩ (im_preV im_NW_ok hK hN hH (ci := 5) rfl rfl h51 _) rfl rfl hl.1 rfl (lv_room (Nat.le_of_ble_eq_true rfl)) d_Reader_fillForm_48 ⟨Nat.le_of_ble_eq_true rfl, Nat.le_of_ble_eq_true rfl⟩) hH (fun H locs hH => ?_)
  refine lv_aload_n hx hb d_Reader_fillForm_51 rfl (lv_at hl 3 rfl) ?_
  refine lv_iconst (v := 5) hx hb d_Reader_fillForm_52 (by decide) ?_
  obtain ⟨u54, h55, hsh⟩ := im_bd hsh
  obtain ⟨g56, h57⟩ := im_is_s h55
  obtain ⟨v60, w58, h59, hsh⟩ := im_bd2 hsh
  refine im_afterL (va_runV (As := [.int (5 : Int32)]) (rest := []) (C := RC_Reader) ⟨hx, hb, hml, hown, hts⟩ (met_Reader_partWith h59) ⟨(callB_of 1 hts (im_good wd_374) rfl rfl rfl (hts _ wd_3) (hts _ wd_371) (by decide +kernel) ⟨Nat.le_of_ble_eq_true rfl, Nat.le_of_ble_eq_true rfl⟩), hts _ wd_373, hts _ sl_Reader_partWith⟩ (im_preV im_NW_ok hK hN hH (ci := 5) rfl rfl h57 _) rfl rfl hl.1 rfl (lv_room (Nat.le_of_ble_eq_true rfl)) d_Reader_fillForm_53 ⟨Nat.le_of_ble_eq_true rfl, Nat.le_of_ble_eq_true rfl⟩) hH (fun H locs hH => ?_)
  refine lv_lconst (v := 0) hx hb d_Reader_fillForm_56 (by decide) ?_
  refine W.lcmp hx hb d_Reader_fillForm_57 ?_
  refine lv_if_eq (tgt := 75) hx hb d_Reader_fillForm_58 (by decide) (fun cc => ?_) (fun cc => ?_)
  · have hsh := im_it hsh cc
    exact bk_Reader_fillForm_75 X x0 x1 w58 hsh H locs ls hH (lv_sub hl [3, 4] rfl)
  · have hsh := im_if hsh cc
    refine lv_aload_n hx hb d_Reader_fillForm_61 rfl (lv_at hl 4 rfl) ?_
    refine lv_ldc2 (v := 8430738502437568512) hx hb hown (hts _ wd_359) d_Reader_fillForm_62 ?_
    obtain ⟨u61, h62, hsh⟩ := im_bd hsh
    obtain ⟨g63, h64⟩ := im_is_s h62
    obtain ⟨w65, h66, hsh⟩ := im_bd hsh
    refine im_afterV (va_runV (As := [.long (8430738502437568512 : Int64)]) (rest := []) (C := RC_Form) ⟨hx, hb, hml, hown, hts⟩ (met_Form_append h66) ⟨(callB_of 1 hts (im_good wd_395) rfl rfl rfl (hts _ wd_6) (hts _ wd_412) (by decide +kernel) ⟨Nat.le_of_ble_eq_true rfl, Nat.le_of_ble_eq_true rfl⟩), hts _ wd_393, hts _ wd_394⟩ (im_preV im_NW_ok hK hN hH (ci := 2) rfl rfl h64 _) rfl rfl hl.1 rfl (lv_room (Nat.le_of_ble_eq_true rfl)) d_Reader_fillForm_65 ⟨Nat.le_of_ble_eq_true rfl, Nat.le_of_ble_eq_true rfl⟩) hH (fun H locs hH => ?_)
    refine lv_aload_n hx hb d_Reader_fillForm_68 rfl (lv_at hl 3 rfl) ?_
    refine lv_aload_n hx hb d_Reader_fillForm_69 rfl (lv_at hl 4 rfl) ?_
    refine lv_bipush (v := 6) hx hb d_Reader_fillForm_70 (by decide) ?_
    obtain ⟨u67, h68, hsh⟩ := im_bd hsh
    obtain ⟨g69, h70⟩ := im_is_s h68
    obtain ⟨w71, h72, hsh⟩ := im_bd hsh
    refine im_afterV (va_runV (As := [.ref (lo + x1), .int (6 : Int32)]) (rest := []) (C := RC_Reader) ⟨hx, hb, hml, hown, hts⟩ (met_Reader_addInOrder h72) ⟨(callB_of 2 hts (im_good wd_407) rfl rfl rfl (hts _ wd_3) (hts _ wd_404) (by decide +kernel) ⟨Nat.le_of_ble_eq_true rfl, Nat.le_of_ble_eq_true rfl⟩), hts _ wd_406, hts _ sl_Reader_addInOrder⟩ (im_preV im_NW_ok hK hN hH (ci := 5) rfl rfl h70 _) rfl rfl hl.1 rfl (lv_room (Nat.le_of_ble_eq_true rfl)) d_Reader_fillForm_72 ⟨Nat.le_of_ble_eq_true rfl, Nat.le_of_ble_eq_true rfl⟩) hH (fun H locs hH => ?_)
    exact bk_Reader_fillForm_75 X x0 x1 w71 hsh H locs ls hH (lv_sub hl [3, 4] rfl)
end GEN
