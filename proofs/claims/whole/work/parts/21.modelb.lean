section GEN
variable {l : Launch} {D : va_G} {tA : Nat → ClassId} {lo : Nat} {p : Program} {e : Env} {s : State} {m : MethodId} {args : Array Value} {below : List Frame} {meth : Method} {c : Code}
theorem wd_639 : (Jvm.Cond.fieldLink "LanguageTagsModel" (161 : Nat) "LanguageTagsModel" "keywords" "I") ∈ im_T := im_memT (i := 639) (by decide +kernel) (by decide +kernel)
theorem wd_640 : (Jvm.Cond.fieldLink "LanguageTagsModel" (20 : Nat) "LanguageTagsModel" "keyFrom" "[I") ∈ im_T := im_memT (i := 640) (by decide +kernel) (by decide +kernel)
theorem wd_641 : (Jvm.Cond.fieldLink "LanguageTagsModel" (23 : Nat) "LanguageTagsModel" "keyTo" "[I") ∈ im_T := im_memT (i := 641) (by decide +kernel) (by decide +kernel)
theorem wd_852 : (Jvm.Cond.methodLink "LanguageTagsModel" (164 : Nat) ({ cls := "LanguageTagsModel", name := "isKey", desc := "(II)Z" } : Jvm.MethodName)) ∈ im_T := im_memT (i := 852) (by decide +kernel) (by decide +kernel)
theorem wd_854 : (Jvm.Cond.instanceMethod ({ cls := "LanguageTagsModel", name := "isKey", desc := "(II)Z" } : Jvm.MethodName)) ∈ im_T := im_memT (i := 854) (by decide +kernel) (by decide +kernel)
theorem wd_855 : (Jvm.Cond.code ({ cls := "LanguageTagsModel", name := "isKey", desc := "(II)Z" } : Jvm.MethodName) prog_12_method_14_code (3 : Nat) (Option.some Jvm.ClassFile.FieldType.boolean)) ∈ im_T := im_memT (i := 855) (by decide +kernel) (by decide +kernel)
theorem d_Model_standKeyword_0 : decode c_Model_standKeyword 0 = .ok (.iload_n 1, 1) := by decide +kernel
theorem d_Model_standKeyword_1 : decode c_Model_standKeyword 1 = .ok (.iconst 5, 1) := by decide +kernel
theorem d_Model_standKeyword_2 : decode c_Model_standKeyword 2 = .ok (.if_icmp .ne (41), 3) := by decide +kernel
theorem d_Model_standKeyword_5 : decode c_Model_standKeyword 5 = .ok (.iload_n 3, 1) := by decide +kernel
theorem d_Model_standKeyword_6 : decode c_Model_standKeyword 6 = .ok (.iload_n 2, 1) := by decide +kernel
theorem d_Model_standKeyword_7 : decode c_Model_standKeyword 7 = .ok (.isub, 1) := by decide +kernel
theorem d_Model_standKeyword_8 : decode c_Model_standKeyword 8 = .ok (.iconst 3, 1) := by decide +kernel
theorem d_Model_standKeyword_9 : decode c_Model_standKeyword 9 = .ok (.if_icmp .lt (34), 3) := by decide +kernel
theorem d_Model_standKeyword_12 : decode c_Model_standKeyword 12 = .ok (.iload_n 3, 1) := by decide +kernel
theorem d_Model_standKeyword_13 : decode c_Model_standKeyword 13 = .ok (.iload_n 2, 1) := by decide +kernel
theorem d_Model_standKeyword_14 : decode c_Model_standKeyword 14 = .ok (.isub, 1) := by decide +kernel
theorem d_Model_standKeyword_15 : decode c_Model_standKeyword 15 = .ok (.bipush (8), 2) := by decide +kernel
theorem d_Model_standKeyword_17 : decode c_Model_standKeyword 17 = .ok (.if_icmp .gt (26), 3) := by decide +kernel
theorem d_Model_standKeyword_20 : decode c_Model_standKeyword 20 = .ok (.aload_n 0, 1) := by decide +kernel
theorem d_Model_standKeyword_21 : decode c_Model_standKeyword 21 = .ok (.iload_n 2, 1) := by decide +kernel
theorem d_Model_standKeyword_22 : decode c_Model_standKeyword 22 = .ok (.iload_n 3, 1) := by decide +kernel
theorem d_Model_standKeyword_23 : decode c_Model_standKeyword 23 = .ok (.invokevirtual 112, 3) := by decide +kernel
theorem d_Model_standKeyword_26 : decode c_Model_standKeyword 26 = .ok (.ifCond .eq (17), 3) := by decide +kernel
theorem d_Model_standKeyword_29 : decode c_Model_standKeyword 29 = .ok (.aload_n 0, 1) := by decide +kernel
theorem d_Model_standKeyword_30 : decode c_Model_standKeyword 30 = .ok (.getfield 23, 3) := by decide +kernel
theorem d_Model_standKeyword_33 : decode c_Model_standKeyword 33 = .ok (.aload_n 0, 1) := by decide +kernel
theorem d_Model_standKeyword_34 : decode c_Model_standKeyword 34 = .ok (.getfield 161, 3) := by decide +kernel
theorem d_Model_standKeyword_37 : decode c_Model_standKeyword 37 = .ok (.iconst 1, 1) := by decide +kernel
theorem d_Model_standKeyword_38 : decode c_Model_standKeyword 38 = .ok (.isub, 1) := by decide +kernel
theorem d_Model_standKeyword_39 : decode c_Model_standKeyword 39 = .ok (.iload_n 3, 1) := by decide +kernel
theorem d_Model_standKeyword_40 : decode c_Model_standKeyword 40 = .ok (.iastore, 1) := by decide +kernel
theorem d_Model_standKeyword_41 : decode c_Model_standKeyword 41 = .ok (.iconst 5, 1) := by decide +kernel
theorem d_Model_standKeyword_42 : decode c_Model_standKeyword 42 = .ok (.ireturn, 1) := by decide +kernel
theorem d_Model_standKeyword_43 : decode c_Model_standKeyword 43 = .ok (.aload_n 0, 1) := by decide +kernel
theorem d_Model_standKeyword_44 : decode c_Model_standKeyword 44 = .ok (.iload_n 2, 1) := by decide +kernel
theorem d_Model_standKeyword_45 : decode c_Model_standKeyword 45 = .ok (.iload_n 3, 1) := by decide +kernel
theorem d_Model_standKeyword_46 : decode c_Model_standKeyword 46 = .ok (.invokevirtual 164, 3) := by decide +kernel
theorem d_Model_standKeyword_49 : decode c_Model_standKeyword 49 = .ok (.istore 4, 2) := by decide +kernel
theorem d_Model_standKeyword_51 : decode c_Model_standKeyword 51 = .ok (.iconst 0, 1) := by decide +kernel
theorem d_Model_standKeyword_52 : decode c_Model_standKeyword 52 = .ok (.istore 5, 2) := by decide +kernel
theorem d_Model_standKeyword_54 : decode c_Model_standKeyword 54 = .ok (.iload 5, 2) := by decide +kernel
theorem d_Model_standKeyword_56 : decode c_Model_standKeyword 56 = .ok (.aload_n 0, 1) := by decide +kernel
theorem d_Model_standKeyword_57 : decode c_Model_standKeyword 57 = .ok (.getfield 161, 3) := by decide +kernel
theorem d_Model_standKeyword_60 : decode c_Model_standKeyword 60 = .ok (.if_icmp .ge (46), 3) := by decide +kernel
theorem d_Model_standKeyword_63 : decode c_Model_standKeyword 63 = .ok (.iload 4, 2) := by decide +kernel
theorem d_Model_standKeyword_65 : decode c_Model_standKeyword 65 = .ok (.ifCond .eq (41), 3) := by decide +kernel
theorem d_Model_standKeyword_68 : decode c_Model_standKeyword 68 = .ok (.aload_n 0, 1) := by decide +kernel
theorem d_Model_standKeyword_69 : decode c_Model_standKeyword 69 = .ok (.iload_n 2, 1) := by decide +kernel
theorem d_Model_standKeyword_70 : decode c_Model_standKeyword 70 = .ok (.iload_n 3, 1) := by decide +kernel
theorem d_Model_standKeyword_71 : decode c_Model_standKeyword 71 = .ok (.aload_n 0, 1) := by decide +kernel
theorem d_Model_standKeyword_72 : decode c_Model_standKeyword 72 = .ok (.getfield 20, 3) := by decide +kernel
theorem d_Model_standKeyword_75 : decode c_Model_standKeyword 75 = .ok (.iload 5, 2) := by decide +kernel
theorem d_Model_standKeyword_77 : decode c_Model_standKeyword 77 = .ok (.iaload, 1) := by decide +kernel
theorem d_Model_standKeyword_78 : decode c_Model_standKeyword 78 = .ok (.aload_n 0, 1) := by decide +kernel
theorem d_Model_standKeyword_79 : decode c_Model_standKeyword 79 = .ok (.getfield 20, 3) := by decide +kernel
theorem d_Model_standKeyword_82 : decode c_Model_standKeyword 82 = .ok (.iload 5, 2) := by decide +kernel
theorem d_Model_standKeyword_84 : decode c_Model_standKeyword 84 = .ok (.iaload, 1) := by decide +kernel
theorem d_Model_standKeyword_85 : decode c_Model_standKeyword 85 = .ok (.iconst 2, 1) := by decide +kernel
theorem d_Model_standKeyword_86 : decode c_Model_standKeyword 86 = .ok (.iadd, 1) := by decide +kernel
theorem d_Model_standKeyword_87 : decode c_Model_standKeyword 87 = .ok (.invokevirtual 157, 3) := by decide +kernel
theorem d_Model_standKeyword_90 : decode c_Model_standKeyword 90 = .ok (.ifCond .ne (7), 3) := by decide +kernel
theorem d_Model_standKeyword_93 : decode c_Model_standKeyword 93 = .ok (.iconst 1, 1) := by decide +kernel
theorem d_Model_standKeyword_94 : decode c_Model_standKeyword 94 = .ok (.goto (4), 3) := by decide +kernel
theorem d_Model_standKeyword_97 : decode c_Model_standKeyword 97 = .ok (.iconst 0, 1) := by decide +kernel
theorem d_Model_standKeyword_98 : decode c_Model_standKeyword 98 = .ok (.istore 4, 2) := by decide +kernel
theorem d_Model_standKeyword_100 : decode c_Model_standKeyword 100 = .ok (.iinc 5 (1), 3) := by decide +kernel
theorem d_Model_standKeyword_103 : decode c_Model_standKeyword 103 = .ok (.goto (-49), 3) := by decide +kernel
theorem d_Model_standKeyword_106 : decode c_Model_standKeyword 106 = .ok (.iload 4, 2) := by decide +kernel
theorem d_Model_standKeyword_108 : decode c_Model_standKeyword 108 = .ok (.ifCond .ne (5), 3) := by decide +kernel
theorem d_Model_standKeyword_111 : decode c_Model_standKeyword 111 = .ok (.iconst (-1), 1) := by decide +kernel
theorem d_Model_standKeyword_112 : decode c_Model_standKeyword 112 = .ok (.ireturn, 1) := by decide +kernel
theorem d_Model_standKeyword_113 : decode c_Model_standKeyword 113 = .ok (.aload_n 0, 1) := by decide +kernel
theorem d_Model_standKeyword_114 : decode c_Model_standKeyword 114 = .ok (.getfield 20, 3) := by decide +kernel
theorem d_Model_standKeyword_117 : decode c_Model_standKeyword 117 = .ok (.aload_n 0, 1) := by decide +kernel
theorem d_Model_standKeyword_118 : decode c_Model_standKeyword 118 = .ok (.getfield 161, 3) := by decide +kernel
theorem d_Model_standKeyword_121 : decode c_Model_standKeyword 121 = .ok (.iload_n 2, 1) := by decide +kernel
theorem d_Model_standKeyword_122 : decode c_Model_standKeyword 122 = .ok (.iastore, 1) := by decide +kernel
theorem d_Model_standKeyword_123 : decode c_Model_standKeyword 123 = .ok (.aload_n 0, 1) := by decide +kernel
theorem d_Model_standKeyword_124 : decode c_Model_standKeyword 124 = .ok (.getfield 23, 3) := by decide +kernel
theorem d_Model_standKeyword_127 : decode c_Model_standKeyword 127 = .ok (.aload_n 0, 1) := by decide +kernel
theorem d_Model_standKeyword_128 : decode c_Model_standKeyword 128 = .ok (.getfield 161, 3) := by decide +kernel
theorem d_Model_standKeyword_131 : decode c_Model_standKeyword 131 = .ok (.iload_n 3, 1) := by decide +kernel
theorem d_Model_standKeyword_132 : decode c_Model_standKeyword 132 = .ok (.iastore, 1) := by decide +kernel
theorem d_Model_standKeyword_133 : decode c_Model_standKeyword 133 = .ok (.aload_n 0, 1) := by decide +kernel
theorem d_Model_standKeyword_134 : decode c_Model_standKeyword 134 = .ok (.dup, 1) := by decide +kernel
theorem d_Model_standKeyword_135 : decode c_Model_standKeyword 135 = .ok (.getfield 161, 3) := by decide +kernel
theorem d_Model_standKeyword_138 : decode c_Model_standKeyword 138 = .ok (.iconst 1, 1) := by decide +kernel
theorem d_Model_standKeyword_139 : decode c_Model_standKeyword 139 = .ok (.iadd, 1) := by decide +kernel
theorem d_Model_standKeyword_140 : decode c_Model_standKeyword 140 = .ok (.putfield 161, 3) := by decide +kernel
theorem d_Model_standKeyword_143 : decode c_Model_standKeyword 143 = .ok (.iconst 5, 1) := by decide +kernel
theorem d_Model_standKeyword_144 : decode c_Model_standKeyword 144 = .ok (.ireturn, 1) := by decide +kernel
def sh_Model_standKeyword_98 (F : Nat) (k54 : Nat → Int32 → Int32 → Int32 → Int32 → im_W → Option (Int32 × im_W)) (x0 : Nat) (x2 : Int32) (x3 : Int32) (x5 : Int32) (y0 : Int32) (w : im_W) : Option (Int32 × im_W) :=
  k54 x0 x2 x3 y0 (x5 + (1 : Int32)) w
set_option maxHeartbeats 4000000 in
set_option maxRecDepth 100000 in
theorem bk_Model_standKeyword_98 {F : Nat} {r : Int32 × im_W} (X : im_X D vwCl tA lo im_NW c_Model_standKeyword 6 (some .int) RC_Model im_T p s m args meth c) {k54 : Nat → Int32 → Int32 → Int32 → Int32 → im_W → Option (Int32 × im_W)} (hk54 : ∀ (x0 : Nat) (x2 : Int32) (x3 : Int32) (x4 : Int32) (x5 : Int32) (w : im_W), k54 x0 x2 x3 x4 x5 w = some r → im_WW D vwCl tA lo 6 p l e (im_rm 4 88) s m args below meth c 0 0 (MQ below (im_Post D vwCl tA lo (some (.int r.1)) r.2) args s 0 0 (fun q => lo ≤ q)) 54 [(0, .ref (lo + x0)), (2, .int x2), (3, .int x3), (4, .int x4), (5, .int x5)] [] w) (x0 : Nat) (x2 : Int32) (x3 : Int32) (x5 : Int32) (y0 : Int32) (w : im_W) (hsh : sh_Model_standKeyword_98 F k54 x0 x2 x3 x5 y0 w = some r) : im_WW D vwCl tA lo 6 p l e (im_rm 4 88) s m args below meth c 0 0 (MQ below (im_Post D vwCl tA lo (some (.int r.1)) r.2) args s 0 0 (fun q => lo ≤ q)) 98 [(0, .ref (lo + x0)), (2, .int x2), (3, .int x3), (5, .int x5)] [.int y0] w := by
  obtain ⟨hx, hb, hr, hts, hown, hlk, hml, hK, hN⟩ := id X
  intro H locs ls hH hl
  unfold sh_Model_standKeyword_98 at hsh
  refine lv_istore (lv' := [(4, .int y0), (0, .ref (lo + x0)), (2, .int x2), (3, .int x3), (5, .int x5)]) hx hb d_Model_standKeyword_98 hl (by decide) rfl (fun ls hl => ?_)
  refine lv_iinc (v := (x5 + (1 : Int32))) (lv' := [(5, .int (x5 + (1 : Int32))), (4, .int y0), (0, .ref (lo + x0)), (2, .int x2), (3, .int x3)]) hx hb d_Model_standKeyword_100 hl (k := 4) rfl rfl (by decide) rfl (fun ls hl => ?_)
  refine lv_goto (tgt := 54) hx hb d_Model_standKeyword_103 (by decide) ?_
  exact hk54 x0 x2 x3 y0 (x5 + (1 : Int32)) w hsh H locs ls hH (lv_sub hl [2, 3, 4, 1, 0] rfl)
def sh_Model_standKeyword_106 (F : Nat) (x0 : Nat) (x2 : Int32) (x3 : Int32) (x4 : Int32) (w : im_W) : Option (Int32 × im_W) :=
  (if x4 = 0 then some ((-1 : Int32), w) else (im_gR w 9 x0 9).bind fun f1 => (im_gI w 9 x0 8).bind fun f3 => (im_sI w 0 f1 f3 x2).bind fun w5 => (im_gR w5 9 x0 10).bind fun f7 => (im_gI w5 9 x0 8).bind fun f9 => (im_sI w5 0 f7 f9 x3).bind fun w11 => (im_gI w11 9 x0 8).bind fun f13 => (im_pV w11 9 x0 8 (.int (f13 + (1 : Int32)))).bind fun w15 => some ((5 : Int32), w15))
set_option maxHeartbeats 4000000 in
set_option maxRecDepth 100000 in
theorem bk_Model_standKeyword_106 {F : Nat} {r : Int32 × im_W} (X : im_X D vwCl tA lo im_NW c_Model_standKeyword 6 (some .int) RC_Model im_T p s m args meth c) (x0 : Nat) (x2 : Int32) (x3 : Int32) (x4 : Int32) (w : im_W) (hsh : sh_Model_standKeyword_106 F x0 x2 x3 x4 w = some r) : im_WW D vwCl tA lo 6 p l e (im_rm 4 88) s m args below meth c 0 0 (MQ below (im_Post D vwCl tA lo (some (.int r.1)) r.2) args s 0 0 (fun q => lo ≤ q)) 106 [(0, .ref (lo + x0)), (2, .int x2), (3, .int x3), (4, .int x4)] [] w := by
  obtain ⟨hx, hb, hr, hts, hown, hlk, hml, hK, hN⟩ := id X
  intro H locs ls hH hl
  unfold sh_Model_standKeyword_106 at hsh
  refine lv_iload hx hb d_Model_standKeyword_106 (lv_at hl 3 rfl) ?_
  refine lv_if_ne (tgt := 113) hx hb d_Model_standKeyword_108 (by decide) (fun cc => ?_) (fun cc => ?_)
  · have hsh := im_if hsh cc
    refine lv_aload_n hx hb d_Model_standKeyword_113 rfl (lv_at hl 0 rfl) ?_
    obtain ⟨f1, h2, hsh⟩ := im_bd hsh
    refine im_getR hx hb hts inC_Model hown hK hH (ci := 9) rfl 9 (by decide) (hts _ wd_640) rfl h2 d_Model_standKeyword_114 ?_
    refine lv_aload_n hx hb d_Model_standKeyword_117 rfl (lv_at hl 0 rfl) ?_
    obtain ⟨f3, h4, hsh⟩ := im_bd hsh
    refine im_getI hx hb hts inC_Model hown hK hH (ci := 9) rfl 8 (by decide) (hts _ wd_639) rfl h4 d_Model_standKeyword_118 ?_
    refine lv_iload_n hx hb d_Model_standKeyword_121 rfl (lv_at hl 1 rfl) ?_
    obtain ⟨w5, h6, hsh⟩ := im_bd hsh
    refine im_iast hx hb hK hH h6 d_Model_standKeyword_122 (fun H locs hH => ?_)
    refine lv_aload_n hx hb d_Model_standKeyword_123 rfl (lv_at hl 0 rfl) ?_
    obtain ⟨f7, h8, hsh⟩ := im_bd hsh
    refine im_getR hx hb hts inC_Model hown hK hH (ci := 9) rfl 10 (by decide) (hts _ wd_641) rfl h8 d_Model_standKeyword_124 ?_
    refine lv_aload_n hx hb d_Model_standKeyword_127 rfl (lv_at hl 0 rfl) ?_
    obtain ⟨f9, h10, hsh⟩ := im_bd hsh
    refine im_getI hx hb hts inC_Model hown hK hH (ci := 9) rfl 8 (by decide) (hts _ wd_639) rfl h10 d_Model_standKeyword_128 ?_
    refine lv_iload_n hx hb d_Model_standKeyword_131 rfl (lv_at hl 2 rfl) ?_
    obtain ⟨w11, h12, hsh⟩ := im_bd hsh
    refine im_iast hx hb hK hH h12 d_Model_standKeyword_132 (fun H locs hH => ?_)
    refine lv_aload_n hx hb d_Model_standKeyword_133 rfl (lv_at hl 0 rfl) ?_
    refine lv_dup hx hb d_Model_standKeyword_134 rfl ?_
    obtain ⟨f13, h14, hsh⟩ := im_bd hsh
    refine im_getI hx hb hts inC_Model hown hK hH (ci := 9) rfl 8 (by decide) (hts _ wd_639) rfl h14 d_Model_standKeyword_135 ?_
    refine lv_iconst (v := 1) hx hb d_Model_standKeyword_138 (by decide) ?_
    refine lv_iadd hx hb d_Model_standKeyword_139 ?_
    obtain ⟨w15, h16, hsh⟩ := im_bd hsh
    refine im_put (v := .int (f13 + (1 : Int32))) hx hb hts inC_Model tyC_Model tyC_Model_ok nmC_Model hown hK hH (ci := 9) rfl 8 (by decide) (hts _ wd_639) rfl rfl rfl rfl h16 d_Model_standKeyword_140 (fun H locs hH => ?_)
    refine lv_iconst (v := 5) hx hb d_Model_standKeyword_143 (by decide) ?_
    obtain rfl := Option.some.inj hsh
    exact im_iret hx hb hr hlk hH d_Model_standKeyword_144
  · have hsh := im_it hsh cc
    refine lv_iconst (v := -1) hx hb d_Model_standKeyword_111 (by decide) ?_
    obtain rfl := Option.some.inj hsh
    exact im_iret hx hb hr hlk hH d_Model_standKeyword_112
def sh_Model_standKeyword_54 (F : Nat) : Nat → Nat → Int32 → Int32 → Int32 → Int32 → im_W → Option (Int32 × im_W)
  | 0, _, _, _, _, _, _ => none
  | f + 1, x0, x2, x3, x4, x5, w => (im_gI w 9 x0 8).bind fun f1 => (if f1 ≤ x5 then sh_Model_standKeyword_106 F x0 x2 x3 x4 w else (if x4 = 0 then sh_Model_standKeyword_106 F x0 x2 x3 x4 w else (im_gR w 9 x0 9).bind fun f3 => (im_lI w 0 f3 x5).bind fun e5 => (im_gR w 9 x0 9).bind fun f7 => (im_lI w 0 f7 x5).bind fun e9 => (im_is w 9 x0).bind fun u11 => im_b2 (sh_Model_same F x0 x2 x3 e5 (e9 + (2 : Int32)) w) fun v17 w15 => (if v17 = 0 then sh_Model_standKeyword_98 F (sh_Model_standKeyword_54 F f) x0 x2 x3 x5 (1 : Int32) w15 else sh_Model_standKeyword_98 F (sh_Model_standKeyword_54 F f) x0 x2 x3 x5 (0 : Int32) w15)))
set_option maxHeartbeats 4000000 in
set_option maxRecDepth 100000 in
theorem bk_Model_standKeyword_54 {F : Nat} {r : Int32 × im_W} (X : im_X D vwCl tA lo im_NW c_Model_standKeyword 6 (some .int) RC_Model im_T p s m args meth c) : ∀ (f : Nat) (x0 : Nat) (x2 : Int32) (x3 : Int32) (x4 : Int32) (x5 : Int32) (w : im_W), sh_Model_standKeyword_54 F f x0 x2 x3 x4 x5 w = some r → im_WW D vwCl tA lo 6 p l e (im_rm 4 88) s m args below meth c 0 0 (MQ below (im_Post D vwCl tA lo (some (.int r.1)) r.2) args s 0 0 (fun q => lo ≤ q)) 54 [(0, .ref (lo + x0)), (2, .int x2), (3, .int x3), (4, .int x4), (5, .int x5)] [] w := by
  obtain ⟨hx, hb, hr, hts, hown, hlk, hml, hK, hN⟩ := id X
  intro f
  induction f with
  | zero =>
    intro x0 x2 x3 x4 x5 w hsh
    cases hsh
  | succ f ih =>
    intro x0 x2 x3 x4 x5 w hsh H locs ls hH hl
    unfold sh_Model_standKeyword_54 at hsh
    refine lv_iload hx hb d_Model_standKeyword_54 (lv_at hl 4 rfl) ?_
    refine lv_aload_n hx hb d_Model_standKeyword_56 rfl (lv_at hl 0 rfl) ?_
    obtain ⟨f1, h2, hsh⟩ := im_bd hsh
    refine im_getI hx hb hts inC_Model hown hK hH (ci := 9) rfl 8 (by decide) (hts _ wd_639) rfl h2 d_Model_standKeyword_57 ?_
    refine lv_icmp_ge (tgt := 106) hx hb d_Model_standKeyword_60 (by decide) (fun cc => ?_) (fun cc => ?_)
    · have hsh := im_it hsh cc
      exact bk_Model_standKeyword_106 X x0 x2 x3 x4 w hsh H locs ls hH (lv_sub hl [0, 1, 2, 3] rfl)
    · have hsh := im_if hsh cc
      refine lv_iload hx hb d_Model_standKeyword_63 (lv_at hl 3 rfl) ?_
      refine lv_if_eq (tgt := 106) hx hb d_Model_standKeyword_65 (by decide) (fun cc => ?_) (fun cc => ?_)
      · have hsh := im_it hsh cc
        exact bk_Model_standKeyword_106 X x0 x2 x3 x4 w hsh H locs ls hH (lv_sub hl [0, 1, 2, 3] rfl)
      · have hsh := im_if hsh cc
        refine lv_aload_n hx hb d_Model_standKeyword_68 rfl (lv_at hl 0 rfl) ?_
        refine lv_iload_n hx hb d_Model_standKeyword_69 rfl (lv_at hl 1 rfl) ?_
        refine lv_iload_n hx hb d_Model_standKeyword_70 rfl (lv_at hl 2 rfl) ?_
        refine lv_aload_n hx hb d_Model_standKeyword_71 rfl (lv_at hl 0 rfl) ?_
        obtain ⟨f3, h4, hsh⟩ := im_bd hsh
        refine im_getR hx hb hts inC_Model hown hK hH (ci := 9) rfl 9 (by decide) (hts _ wd_640) rfl h4 d_Model_standKeyword_72 ?_
        refine lv_iload hx hb d_Model_standKeyword_75 (lv_at hl 4 rfl) ?_
        obtain ⟨e5, h6, hsh⟩ := im_bd hsh
        refine im_iald hx hb hK hH h6 d_Model_standKeyword_77 ?_
        refine lv_aload_n hx hb d_Model_standKeyword_78 rfl (lv_at hl 0 rfl) ?_
        obtain ⟨f7, h8, hsh⟩ := im_bd hsh
        refine im_getR hx hb hts inC_Model hown hK hH (ci := 9) rfl 9 (by decide) (hts _ wd_640) rfl h8 d_Model_standKeyword_79 ?_
        refine lv_iload hx hb d_Model_standKeyword_82 (lv_at hl 4 rfl) ?_
        obtain ⟨e9, h10, hsh⟩ := im_bd hsh
        refine im_iald hx hb hK hH h10 d_Model_standKeyword_84 ?_
        refine lv_iconst (v := 2) hx hb d_Model_standKeyword_85 (by decide) ?_
        refine lv_iadd hx hb d_Model_standKeyword_86 ?_
        obtain ⟨u11, h12, hsh⟩ := im_bd hsh
        obtain ⟨g13, h14⟩ := im_is_s h12
        obtain ⟨v17, w15, h16, hsh⟩ := im_bd2 hsh
        refine im_afterI (va_runV (As := [.int x2, .int x3, .int e5, .int (e9 + (2 : Int32))]) (rest := []) (C := RC_Model) ⟨hx, hb, hml, hown, hts⟩ (met_Model_same h16) ⟨(callB_of 4 hts (im_good wd_811) rfl rfl rfl (hts _ wd_10) (hts _ wd_808) (by decide +kernel) ⟨Nat.le_of_ble_eq_true rfl, Nat.le_of_ble_eq_true rfl⟩), hts _ wd_810, hts _ sl_Model_same⟩ (im_preV im_NW_ok hK hN hH (ci := 9) rfl rfl h14 _) rfl rfl hl.1 rfl (lv_room (Nat.le_of_ble_eq_true rfl)) d_Model_standKeyword_87 ⟨Nat.le_of_ble_eq_true rfl, Nat.le_of_ble_eq_true rfl⟩) hH (fun H locs hH => ?_)
        refine lv_if_ne (tgt := 97) hx hb d_Model_standKeyword_90 (by decide) (fun cc => ?_) (fun cc => ?_)
        · have hsh := im_if hsh cc
          refine lv_iconst (v := 0) hx hb d_Model_standKeyword_97 (by decide) ?_
          exact bk_Model_standKeyword_98 X ih x0 x2 x3 x5 (0 : Int32) w15 hsh H locs ls hH (lv_sub hl [0, 1, 2, 4] rfl)
        · have hsh := im_it hsh cc
          refine lv_iconst (v := 1) hx hb d_Model_standKeyword_93 (by decide) ?_
          refine lv_goto (tgt := 98) hx hb d_Model_standKeyword_94 (by decide) ?_
          exact bk_Model_standKeyword_98 X ih x0 x2 x3 x5 (1 : Int32) w15 hsh H locs ls hH (lv_sub hl [0, 1, 2, 4] rfl)
def sh_Model_standKeyword_43 (F : Nat) (x0 : Nat) (x2 : Int32) (x3 : Int32) (w : im_W) : Option (Int32 × im_W) :=
  (im_is w 9 x0).bind fun u1 => im_b2 (sh_Model_isKey F x0 x2 x3 w) fun v7 w5 => sh_Model_standKeyword_54 F F x0 x2 x3 v7 (0 : Int32) w5
set_option maxHeartbeats 4000000 in
set_option maxRecDepth 100000 in
theorem bk_Model_standKeyword_43 {F : Nat} {r : Int32 × im_W} (X : im_X D vwCl tA lo im_NW c_Model_standKeyword 6 (some .int) RC_Model im_T p s m args meth c) (x0 : Nat) (x2 : Int32) (x3 : Int32) (w : im_W) (hsh : sh_Model_standKeyword_43 F x0 x2 x3 w = some r) : im_WW D vwCl tA lo 6 p l e (im_rm 4 88) s m args below meth c 0 0 (MQ below (im_Post D vwCl tA lo (some (.int r.1)) r.2) args s 0 0 (fun q => lo ≤ q)) 43 [(0, .ref (lo + x0)), (2, .int x2), (3, .int x3)] [] w := by
  obtain ⟨hx, hb, hr, hts, hown, hlk, hml, hK, hN⟩ := id X
  intro H locs ls hH hl
  unfold sh_Model_standKeyword_43 at hsh
  refine lv_aload_n hx hb d_Model_standKeyword_43 rfl (lv_at hl 0 rfl) ?_
  refine lv_iload_n hx hb d_Model_standKeyword_44 rfl (lv_at hl 1 rfl) ?_
  refine lv_iload_n hx hb d_Model_standKeyword_45 rfl (lv_at hl 2 rfl) ?_
  obtain ⟨u1, h2, hsh⟩ := im_bd hsh
  obtain ⟨g3, h4⟩ := im_is_s h2
  obtain ⟨v7, w5, h6, hsh⟩ := im_bd2 hsh
  refine im_afterI (va_runV (As := [.int x2, .int x3]) (rest := []) (C := RC_Model) ⟨hx, hb, hml, hown, hts⟩ (met_Model_isKey h6) ⟨(callB_of 2 hts (im_good wd_855) rfl rfl rfl (hts _ wd_10) (hts _ wd_852) (by decide +kernel) ⟨Nat.le_of_ble_eq_true rfl, Nat.le_of_ble_eq_true rfl⟩), hts _ wd_854, hts _ sl_Model_isKey⟩ (im_preV im_NW_ok hK hN hH (ci := 9) rfl rfl h4 _) rfl rfl hl.1 rfl (lv_room (Nat.le_of_ble_eq_true rfl)) d_Model_standKeyword_46 ⟨Nat.le_of_ble_eq_true rfl, Nat.le_of_ble_eq_true rfl⟩) hH (fun H locs hH => ?_)
  refine lv_istore (lv' := [(4, .int v7), (0, .ref (lo + x0)), (2, .int x2), (3, .int x3)]) hx hb d_Model_standKeyword_49 hl (by decide) rfl (fun ls hl => ?_)
  refine lv_iconst (v := 0) hx hb d_Model_standKeyword_51 (by decide) ?_
  refine lv_istore (lv' := [(5, .int (0 : Int32)), (4, .int v7), (0, .ref (lo + x0)), (2, .int x2), (3, .int x3)]) hx hb d_Model_standKeyword_52 hl (by decide) rfl (fun ls hl => ?_)
  exact bk_Model_standKeyword_54 X F x0 x2 x3 v7 (0 : Int32) w5 hsh H locs ls hH (lv_sub hl [2, 3, 4, 1, 0] rfl)
def sh_Model_standKeyword (F : Nat) (x0 : Nat) (x1 : Int32) (x2 : Int32) (x3 : Int32) (w : im_W) : Option (Int32 × im_W) :=
  (if x1 = (5 : Int32) then (if (x3 - x2) < (3 : Int32) then sh_Model_standKeyword_43 F x0 x2 x3 w else (if (8 : Int32) < (x3 - x2) then sh_Model_standKeyword_43 F x0 x2 x3 w else (im_is w 9 x0).bind fun u1 => im_b2 (sh_Model_allBoth F x0 x2 x3 w) fun v7 w5 => (if v7 = 0 then sh_Model_standKeyword_43 F x0 x2 x3 w5 else (im_gR w5 9 x0 10).bind fun f8 => (im_gI w5 9 x0 8).bind fun f10 => (im_sI w5 0 f8 (f10 - (1 : Int32)) x3).bind fun w12 => some ((5 : Int32), w12)))) else sh_Model_standKeyword_43 F x0 x2 x3 w)
set_option maxHeartbeats 4000000 in
set_option maxRecDepth 100000 in
theorem met_Model_standKeyword {F : Nat} {x0 : Nat} {x1 : Int32} {x2 : Int32} {x3 : Int32} {w : im_W} {r : Int32 × im_W} (hsh : sh_Model_standKeyword F x0 x1 x2 x3 w = some r) : Met l y_Model_standKeyword (Cond.code y_Model_standKeyword c_Model_standKeyword 6 (some .int) :: im_T) (im_rm 4 88) (im_Pre D vwCl tA lo im_NW [.ref (lo + x0), .int x1, .int x2, .int x3] w) (im_Post D vwCl tA lo (some (.int r.1)) r.2) 0 0 (fun q => lo ≤ q) := by
  refine im_ofW (cc := c_Model_standKeyword) (nL := 6) (ret := (some .int)) (by decide) (Nat.le_of_ble_eq_true rfl) ?_
  intro p e s m args below meth c X H locs ls hH hl
  obtain ⟨hx, hb, hr, hts, hown, hlk, hml, hK, hN⟩ := id X
  have hl : lv_has ls 6 [(0, .ref (lo + x0)), (1, .int x1), (2, .int x2), (3, .int x3)] := hl
  unfold sh_Model_standKeyword at hsh
  refine lv_iload_n hx hb d_Model_standKeyword_0 rfl (lv_at hl 1 rfl) ?_
  refine lv_iconst (v := 5) hx hb d_Model_standKeyword_1 (by decide) ?_
  refine lv_icmp_ne (tgt := 43) hx hb d_Model_standKeyword_2 (by decide) (fun cc => ?_) (fun cc => ?_)
  · have hsh := im_if hsh cc
    exact bk_Model_standKeyword_43 X x0 x2 x3 w hsh H locs ls hH (lv_sub hl [0, 2, 3] rfl)
  · have hsh := im_it hsh cc
    refine lv_iload_n hx hb d_Model_standKeyword_5 rfl (lv_at hl 3 rfl) ?_
    refine lv_iload_n hx hb d_Model_standKeyword_6 rfl (lv_at hl 2 rfl) ?_
    refine lv_isub hx hb d_Model_standKeyword_7 ?_
    refine lv_iconst (v := 3) hx hb d_Model_standKeyword_8 (by decide) ?_
    refine lv_icmp_lt (tgt := 43) hx hb d_Model_standKeyword_9 (by decide) (fun cc => ?_) (fun cc => ?_)
    · have hsh := im_it hsh cc
      exact bk_Model_standKeyword_43 X x0 x2 x3 w hsh H locs ls hH (lv_sub hl [0, 2, 3] rfl)
    · have hsh := im_if hsh cc
      refine lv_iload_n hx hb d_Model_standKeyword_12 rfl (lv_at hl 3 rfl) ?_
      refine lv_iload_n hx hb d_Model_standKeyword_13 rfl (lv_at hl 2 rfl) ?_
      refine lv_isub hx hb d_Model_standKeyword_14 ?_
      refine lv_bipush (v := 8) hx hb d_Model_standKeyword_15 (by decide) ?_
      refine lv_icmp_gt (tgt := 43) hx hb d_Model_standKeyword_17 (by decide) (fun cc => ?_) (fun cc => ?_)
      · have hsh := im_it hsh cc
        exact bk_Model_standKeyword_43 X x0 x2 x3 w hsh H locs ls hH (lv_sub hl [0, 2, 3] rfl)
      · have hsh := im_if hsh cc
        refine lv_aload_n hx hb d_Model_standKeyword_20 rfl (lv_at hl 0 rfl) ?_
        refine lv_iload_n hx hb d_Model_standKeyword_21 rfl (lv_at hl 2 rfl) ?_
        refine lv_iload_n hx hb d_Model_standKeyword_22 rfl (lv_at hl 3 rfl) ?_
        obtain ⟨u1, h2, hsh⟩ := im_bd hsh
        obtain ⟨g3, h4⟩ := im_is_s h2
        obtain ⟨v7, w5, h6, hsh⟩ := im_bd2 hsh
        refine im_afterI (va_runV (As := [.int x2, .int x3]) (rest := []) (C := RC_Model) ⟨hx, hb, hml, hown, hts⟩ (met_Model_allBoth h6) ⟨(callB_of 2 hts (im_good wd_835) rfl rfl rfl (hts _ wd_10) (hts _ wd_832) (by decide +kernel) ⟨Nat.le_of_ble_eq_true rfl, Nat.le_of_ble_eq_true rfl⟩), hts _ wd_834, hts _ sl_Model_allBoth⟩ (im_preV im_NW_ok hK hN hH (ci := 9) rfl rfl h4 _) rfl rfl hl.1 rfl (lv_room (Nat.le_of_ble_eq_true rfl)) d_Model_standKeyword_23 ⟨Nat.le_of_ble_eq_true rfl, Nat.le_of_ble_eq_true rfl⟩) hH (fun H locs hH => ?_)
        refine lv_if_eq (tgt := 43) hx hb d_Model_standKeyword_26 (by decide) (fun cc => ?_) (fun cc => ?_)
        · have hsh := im_it hsh cc
          exact bk_Model_standKeyword_43 X x0 x2 x3 w5 hsh H locs ls hH (lv_sub hl [0, 2, 3] rfl)
        · have hsh := im_if hsh cc
          refine lv_aload_n hx hb d_Model_standKeyword_29 rfl (lv_at hl 0 rfl) ?_
          obtain ⟨f8, h9, hsh⟩ := im_bd hsh
          refine im_getR hx hb hts inC_Model hown hK hH (ci := 9) rfl 10 (by decide) (hts _ wd_641) rfl h9 d_Model_standKeyword_30 ?_
          refine lv_aload_n hx hb d_Model_standKeyword_33 rfl (lv_at hl 0 rfl) ?_
          obtain ⟨f10, h11, hsh⟩ := im_bd hsh
          refine im_getI hx hb hts inC_Model hown hK hH (ci := 9) rfl 8 (by decide) (hts _ wd_639) rfl h11 d_Model_standKeyword_34 ?_
          refine lv_iconst (v := 1) hx hb d_Model_standKeyword_37 (by decide) ?_
          refine lv_isub hx hb d_Model_standKeyword_38 ?_
          refine lv_iload_n hx hb d_Model_standKeyword_39 rfl (lv_at hl 3 rfl) ?_
          obtain ⟨w12, h13, hsh⟩ := im_bd hsh
          refine im_iast hx hb hK hH h13 d_Model_standKeyword_40 (fun H locs hH => ?_)
          refine lv_iconst (v := 5) hx hb d_Model_standKeyword_41 (by decide) ?_
          obtain rfl := Option.some.inj hsh
          exact im_iret hx hb hr hlk hH d_Model_standKeyword_42
theorem wd_633 : (Jvm.Cond.fieldLink "LanguageTagsModel" (122 : Nat) "LanguageTagsModel" "language" "I") ∈ im_T := im_memT (i := 633) (by decide +kernel) (by decide +kernel)
theorem wd_634 : (Jvm.Cond.fieldLink "LanguageTagsModel" (128 : Nat) "LanguageTagsModel" "script" "I") ∈ im_T := im_memT (i := 634) (by decide +kernel) (by decide +kernel)
theorem wd_635 : (Jvm.Cond.fieldLink "LanguageTagsModel" (134 : Nat) "LanguageTagsModel" "region" "I") ∈ im_T := im_memT (i := 635) (by decide +kernel) (by decide +kernel)
theorem wd_642 : (Jvm.Cond.fieldLink "LanguageTagsModel" (141 : Nat) "LanguageTagsModel" "privateFrom" "I") ∈ im_T := im_memT (i := 642) (by decide +kernel) (by decide +kernel)
theorem wd_643 : (Jvm.Cond.fieldLink "LanguageTagsModel" (125 : Nat) "LanguageTagsModel" "privateTo" "I") ∈ im_T := im_memT (i := 643) (by decide +kernel) (by decide +kernel)
theorem wd_792 : (Jvm.Cond.methodLink "LanguageTagsModel" (131 : Nat) ({ cls := "LanguageTagsModel", name := "isRegion", desc := "(II)Z" } : Jvm.MethodName)) ∈ im_T := im_memT (i := 792) (by decide +kernel) (by decide +kernel)
theorem wd_794 : (Jvm.Cond.instanceMethod ({ cls := "LanguageTagsModel", name := "isRegion", desc := "(II)Z" } : Jvm.MethodName)) ∈ im_T := im_memT (i := 794) (by decide +kernel) (by decide +kernel)
theorem wd_795 : (Jvm.Cond.code ({ cls := "LanguageTagsModel", name := "isRegion", desc := "(II)Z" } : Jvm.MethodName) prog_12_method_12_code (3 : Nat) (Option.some Jvm.ClassFile.FieldType.boolean)) ∈ im_T := im_memT (i := 795) (by decide +kernel) (by decide +kernel)
theorem wd_804 : (Jvm.Cond.methodLink "LanguageTagsModel" (115 : Nat) ({ cls := "LanguageTagsModel", name := "isLanguage", desc := "(II)Z" } : Jvm.MethodName)) ∈ im_T := im_memT (i := 804) (by decide +kernel) (by decide +kernel)
theorem wd_806 : (Jvm.Cond.instanceMethod ({ cls := "LanguageTagsModel", name := "isLanguage", desc := "(II)Z" } : Jvm.MethodName)) ∈ im_T := im_memT (i := 806) (by decide +kernel) (by decide +kernel)
theorem wd_807 : (Jvm.Cond.code ({ cls := "LanguageTagsModel", name := "isLanguage", desc := "(II)Z" } : Jvm.MethodName) prog_12_method_11_code (3 : Nat) (Option.some Jvm.ClassFile.FieldType.boolean)) ∈ im_T := im_memT (i := 807) (by decide +kernel) (by decide +kernel)
theorem wd_812 : (Jvm.Cond.methodLink "LanguageTagsModel" (118 : Nat) ({ cls := "LanguageTagsModel", name := "number", desc := "(II)I" } : Jvm.MethodName)) ∈ im_T := im_memT (i := 812) (by decide +kernel) (by decide +kernel)
theorem wd_814 : (Jvm.Cond.instanceMethod ({ cls := "LanguageTagsModel", name := "number", desc := "(II)I" } : Jvm.MethodName)) ∈ im_T := im_memT (i := 814) (by decide +kernel) (by decide +kernel)
theorem wd_815 : (Jvm.Cond.code ({ cls := "LanguageTagsModel", name := "number", desc := "(II)I" } : Jvm.MethodName) prog_12_method_8_code (5 : Nat) (Option.some Jvm.ClassFile.FieldType.int)) ∈ im_T := im_memT (i := 815) (by decide +kernel) (by decide +kernel)
theorem wd_840 : (Jvm.Cond.methodLink "LanguageTagsModel" (144 : Nat) ({ cls := "LanguageTagsModel", name := "standVariant", desc := "(II)I" } : Jvm.MethodName)) ∈ im_T := im_memT (i := 840) (by decide +kernel) (by decide +kernel)
theorem wd_842 : (Jvm.Cond.instanceMethod ({ cls := "LanguageTagsModel", name := "standVariant", desc := "(II)I" } : Jvm.MethodName)) ∈ im_T := im_memT (i := 842) (by decide +kernel) (by decide +kernel)
theorem wd_843 : (Jvm.Cond.code ({ cls := "LanguageTagsModel", name := "standVariant", desc := "(II)I" } : Jvm.MethodName) prog_12_method_18_code (5 : Nat) (Option.some Jvm.ClassFile.FieldType.int)) ∈ im_T := im_memT (i := 843) (by decide +kernel) (by decide +kernel)
theorem wd_848 : (Jvm.Cond.methodLink "LanguageTagsModel" (147 : Nat) ({ cls := "LanguageTagsModel", name := "standKeyword", desc := "(III)I" } : Jvm.MethodName)) ∈ im_T := im_memT (i := 848) (by decide +kernel) (by decide +kernel)
theorem wd_850 : (Jvm.Cond.instanceMethod ({ cls := "LanguageTagsModel", name := "standKeyword", desc := "(III)I" } : Jvm.MethodName)) ∈ im_T := im_memT (i := 850) (by decide +kernel) (by decide +kernel)
theorem wd_851 : (Jvm.Cond.code ({ cls := "LanguageTagsModel", name := "standKeyword", desc := "(III)I" } : Jvm.MethodName) prog_12_method_19_code (6 : Nat) (Option.some Jvm.ClassFile.FieldType.int)) ∈ im_T := im_memT (i := 851) (by decide +kernel) (by decide +kernel)
theorem d_Model_stand_0 : decode c_Model_stand 0 = .ok (.iload_n 3, 1) := by decide +kernel
theorem d_Model_stand_1 : decode c_Model_stand 1 = .ok (.iload_n 2, 1) := by decide +kernel
theorem d_Model_stand_2 : decode c_Model_stand 2 = .ok (.isub, 1) := by decide +kernel
theorem d_Model_stand_3 : decode c_Model_stand 3 = .ok (.istore 4, 2) := by decide +kernel
theorem d_Model_stand_5 : decode c_Model_stand 5 = .ok (.iload_n 1, 1) := by decide +kernel
theorem d_Model_stand_6 : decode c_Model_stand 6 = .ok (.ifCond .ne (39), 3) := by decide +kernel
theorem d_Model_stand_9 : decode c_Model_stand 9 = .ok (.aload_n 0, 1) := by decide +kernel
theorem d_Model_stand_10 : decode c_Model_stand 10 = .ok (.aload_n 0, 1) := by decide +kernel
theorem d_Model_stand_11 : decode c_Model_stand 11 = .ok (.iload_n 2, 1) := by decide +kernel
theorem d_Model_stand_12 : decode c_Model_stand 12 = .ok (.iload_n 3, 1) := by decide +kernel
theorem d_Model_stand_13 : decode c_Model_stand 13 = .ok (.invokevirtual 115, 3) := by decide +kernel
theorem d_Model_stand_16 : decode c_Model_stand 16 = .ok (.ifCond .eq (12), 3) := by decide +kernel
theorem d_Model_stand_19 : decode c_Model_stand 19 = .ok (.aload_n 0, 1) := by decide +kernel
theorem d_Model_stand_20 : decode c_Model_stand 20 = .ok (.iload_n 2, 1) := by decide +kernel
theorem d_Model_stand_21 : decode c_Model_stand 21 = .ok (.iload_n 3, 1) := by decide +kernel
theorem d_Model_stand_22 : decode c_Model_stand 22 = .ok (.invokevirtual 118, 3) := by decide +kernel
theorem d_Model_stand_25 : decode c_Model_stand 25 = .ok (.goto (4), 3) := by decide +kernel
theorem d_Model_stand_28 : decode c_Model_stand 28 = .ok (.iconst 0, 1) := by decide +kernel
theorem d_Model_stand_29 : decode c_Model_stand 29 = .ok (.putfield 122, 3) := by decide +kernel
theorem d_Model_stand_32 : decode c_Model_stand 32 = .ok (.aload_n 0, 1) := by decide +kernel
theorem d_Model_stand_33 : decode c_Model_stand 33 = .ok (.getfield 122, 3) := by decide +kernel
theorem d_Model_stand_36 : decode c_Model_stand 36 = .ok (.ifCond .le (7), 3) := by decide +kernel
theorem d_Model_stand_39 : decode c_Model_stand 39 = .ok (.iconst 1, 1) := by decide +kernel
theorem d_Model_stand_40 : decode c_Model_stand 40 = .ok (.goto (4), 3) := by decide +kernel
theorem d_Model_stand_43 : decode c_Model_stand 43 = .ok (.iconst (-1), 1) := by decide +kernel
theorem d_Model_stand_44 : decode c_Model_stand 44 = .ok (.ireturn, 1) := by decide +kernel
theorem d_Model_stand_45 : decode c_Model_stand 45 = .ok (.iload_n 1, 1) := by decide +kernel
theorem d_Model_stand_46 : decode c_Model_stand 46 = .ok (.iconst 5, 1) := by decide +kernel
theorem d_Model_stand_47 : decode c_Model_stand 47 = .ok (.if_icmp .le (37), 3) := by decide +kernel
theorem d_Model_stand_50 : decode c_Model_stand 50 = .ok (.aload_n 0, 1) := by decide +kernel
theorem d_Model_stand_51 : decode c_Model_stand 51 = .ok (.iload_n 3, 1) := by decide +kernel
theorem d_Model_stand_52 : decode c_Model_stand 52 = .ok (.putfield 125, 3) := by decide +kernel
theorem d_Model_stand_55 : decode c_Model_stand 55 = .ok (.iload 4, 2) := by decide +kernel
theorem d_Model_stand_57 : decode c_Model_stand 57 = .ok (.iconst 1, 1) := by decide +kernel
theorem d_Model_stand_58 : decode c_Model_stand 58 = .ok (.if_icmp .lt (24), 3) := by decide +kernel
theorem d_Model_stand_61 : decode c_Model_stand 61 = .ok (.iload 4, 2) := by decide +kernel
theorem d_Model_stand_63 : decode c_Model_stand 63 = .ok (.bipush (8), 2) := by decide +kernel
theorem d_Model_stand_65 : decode c_Model_stand 65 = .ok (.if_icmp .gt (17), 3) := by decide +kernel
theorem d_Model_stand_68 : decode c_Model_stand 68 = .ok (.aload_n 0, 1) := by decide +kernel
theorem d_Model_stand_69 : decode c_Model_stand 69 = .ok (.iload_n 2, 1) := by decide +kernel
theorem d_Model_stand_70 : decode c_Model_stand 70 = .ok (.iload_n 3, 1) := by decide +kernel
theorem d_Model_stand_71 : decode c_Model_stand 71 = .ok (.invokevirtual 112, 3) := by decide +kernel
theorem d_Model_stand_74 : decode c_Model_stand 74 = .ok (.ifCond .eq (8), 3) := by decide +kernel
theorem d_Model_stand_77 : decode c_Model_stand 77 = .ok (.bipush (7), 2) := by decide +kernel
theorem d_Model_stand_79 : decode c_Model_stand 79 = .ok (.goto (4), 3) := by decide +kernel
theorem d_Model_stand_82 : decode c_Model_stand 82 = .ok (.iconst (-1), 1) := by decide +kernel
theorem d_Model_stand_83 : decode c_Model_stand 83 = .ok (.ireturn, 1) := by decide +kernel
theorem d_Model_stand_84 : decode c_Model_stand 84 = .ok (.iload_n 1, 1) := by decide +kernel
theorem d_Model_stand_85 : decode c_Model_stand 85 = .ok (.iconst 1, 1) := by decide +kernel
theorem d_Model_stand_86 : decode c_Model_stand 86 = .ok (.if_icmp .ne (30), 3) := by decide +kernel
theorem d_Model_stand_89 : decode c_Model_stand 89 = .ok (.iload 4, 2) := by decide +kernel
theorem d_Model_stand_91 : decode c_Model_stand 91 = .ok (.iconst 4, 1) := by decide +kernel
theorem d_Model_stand_92 : decode c_Model_stand 92 = .ok (.if_icmp .ne (24), 3) := by decide +kernel
theorem d_Model_stand_95 : decode c_Model_stand 95 = .ok (.aload_n 0, 1) := by decide +kernel
theorem d_Model_stand_96 : decode c_Model_stand 96 = .ok (.iload_n 2, 1) := by decide +kernel
theorem d_Model_stand_97 : decode c_Model_stand 97 = .ok (.iload_n 3, 1) := by decide +kernel
theorem d_Model_stand_98 : decode c_Model_stand 98 = .ok (.invokevirtual 105, 3) := by decide +kernel
theorem d_Model_stand_101 : decode c_Model_stand 101 = .ok (.ifCond .eq (15), 3) := by decide +kernel
theorem d_Model_stand_104 : decode c_Model_stand 104 = .ok (.aload_n 0, 1) := by decide +kernel
theorem d_Model_stand_105 : decode c_Model_stand 105 = .ok (.aload_n 0, 1) := by decide +kernel
theorem d_Model_stand_106 : decode c_Model_stand 106 = .ok (.iload_n 2, 1) := by decide +kernel
theorem d_Model_stand_107 : decode c_Model_stand 107 = .ok (.iload_n 3, 1) := by decide +kernel
theorem d_Model_stand_108 : decode c_Model_stand 108 = .ok (.invokevirtual 118, 3) := by decide +kernel
theorem d_Model_stand_111 : decode c_Model_stand 111 = .ok (.putfield 128, 3) := by decide +kernel
theorem d_Model_stand_114 : decode c_Model_stand 114 = .ok (.iconst 2, 1) := by decide +kernel
theorem d_Model_stand_115 : decode c_Model_stand 115 = .ok (.ireturn, 1) := by decide +kernel
theorem d_Model_stand_116 : decode c_Model_stand 116 = .ok (.iload_n 1, 1) := by decide +kernel
theorem d_Model_stand_117 : decode c_Model_stand 117 = .ok (.iconst 1, 1) := by decide +kernel
theorem d_Model_stand_118 : decode c_Model_stand 118 = .ok (.if_icmp .lt (29), 3) := by decide +kernel
theorem d_Model_stand_121 : decode c_Model_stand 121 = .ok (.iload_n 1, 1) := by decide +kernel
theorem d_Model_stand_122 : decode c_Model_stand 122 = .ok (.iconst 2, 1) := by decide +kernel
theorem d_Model_stand_123 : decode c_Model_stand 123 = .ok (.if_icmp .gt (24), 3) := by decide +kernel
theorem d_Model_stand_126 : decode c_Model_stand 126 = .ok (.aload_n 0, 1) := by decide +kernel
theorem d_Model_stand_127 : decode c_Model_stand 127 = .ok (.iload_n 2, 1) := by decide +kernel
theorem d_Model_stand_128 : decode c_Model_stand 128 = .ok (.iload_n 3, 1) := by decide +kernel
theorem d_Model_stand_129 : decode c_Model_stand 129 = .ok (.invokevirtual 131, 3) := by decide +kernel
theorem d_Model_stand_132 : decode c_Model_stand 132 = .ok (.ifCond .eq (15), 3) := by decide +kernel
theorem d_Model_stand_135 : decode c_Model_stand 135 = .ok (.aload_n 0, 1) := by decide +kernel
theorem d_Model_stand_136 : decode c_Model_stand 136 = .ok (.aload_n 0, 1) := by decide +kernel
theorem d_Model_stand_137 : decode c_Model_stand 137 = .ok (.iload_n 2, 1) := by decide +kernel
theorem d_Model_stand_138 : decode c_Model_stand 138 = .ok (.iload_n 3, 1) := by decide +kernel
theorem d_Model_stand_139 : decode c_Model_stand 139 = .ok (.invokevirtual 118, 3) := by decide +kernel
theorem d_Model_stand_142 : decode c_Model_stand 142 = .ok (.putfield 134, 3) := by decide +kernel
theorem d_Model_stand_145 : decode c_Model_stand 145 = .ok (.iconst 3, 1) := by decide +kernel
theorem d_Model_stand_146 : decode c_Model_stand 146 = .ok (.ireturn, 1) := by decide +kernel
theorem d_Model_stand_147 : decode c_Model_stand 147 = .ok (.iload_n 1, 1) := by decide +kernel
theorem d_Model_stand_148 : decode c_Model_stand 148 = .ok (.iconst 4, 1) := by decide +kernel
theorem d_Model_stand_149 : decode c_Model_stand 149 = .ok (.if_icmp .eq (22), 3) := by decide +kernel
theorem d_Model_stand_152 : decode c_Model_stand 152 = .ok (.aload_n 0, 1) := by decide +kernel
theorem d_Model_stand_153 : decode c_Model_stand 153 = .ok (.iload_n 2, 1) := by decide +kernel
theorem d_Model_stand_154 : decode c_Model_stand 154 = .ok (.iload_n 3, 1) := by decide +kernel
theorem d_Model_stand_155 : decode c_Model_stand 155 = .ok (.bipush (120), 2) := by decide +kernel
theorem d_Model_stand_157 : decode c_Model_stand 157 = .ok (.invokevirtual 137, 3) := by decide +kernel
theorem d_Model_stand_160 : decode c_Model_stand 160 = .ok (.ifCond .eq (11), 3) := by decide +kernel
theorem d_Model_stand_163 : decode c_Model_stand 163 = .ok (.aload_n 0, 1) := by decide +kernel
theorem d_Model_stand_164 : decode c_Model_stand 164 = .ok (.iload_n 2, 1) := by decide +kernel
theorem d_Model_stand_165 : decode c_Model_stand 165 = .ok (.putfield 141, 3) := by decide +kernel
theorem d_Model_stand_168 : decode c_Model_stand 168 = .ok (.bipush (6), 2) := by decide +kernel
theorem d_Model_stand_170 : decode c_Model_stand 170 = .ok (.ireturn, 1) := by decide +kernel
theorem d_Model_stand_171 : decode c_Model_stand 171 = .ok (.iload_n 1, 1) := by decide +kernel
theorem d_Model_stand_172 : decode c_Model_stand 172 = .ok (.iconst 4, 1) := by decide +kernel
theorem d_Model_stand_173 : decode c_Model_stand 173 = .ok (.if_icmp .ge (12), 3) := by decide +kernel
theorem d_Model_stand_176 : decode c_Model_stand 176 = .ok (.aload_n 0, 1) := by decide +kernel
theorem d_Model_stand_177 : decode c_Model_stand 177 = .ok (.iload_n 2, 1) := by decide +kernel
theorem d_Model_stand_178 : decode c_Model_stand 178 = .ok (.iload_n 3, 1) := by decide +kernel
theorem d_Model_stand_179 : decode c_Model_stand 179 = .ok (.invokevirtual 144, 3) := by decide +kernel
theorem d_Model_stand_182 : decode c_Model_stand 182 = .ok (.goto (10), 3) := by decide +kernel
theorem d_Model_stand_185 : decode c_Model_stand 185 = .ok (.aload_n 0, 1) := by decide +kernel
theorem d_Model_stand_186 : decode c_Model_stand 186 = .ok (.iload_n 1, 1) := by decide +kernel
theorem d_Model_stand_187 : decode c_Model_stand 187 = .ok (.iload_n 2, 1) := by decide +kernel
theorem d_Model_stand_188 : decode c_Model_stand 188 = .ok (.iload_n 3, 1) := by decide +kernel
theorem d_Model_stand_189 : decode c_Model_stand 189 = .ok (.invokevirtual 147, 3) := by decide +kernel
theorem d_Model_stand_192 : decode c_Model_stand 192 = .ok (.ireturn, 1) := by decide +kernel
def sh_Model_stand_44 (F : Nat) (y0 : Int32) (w : im_W) : Option (Int32 × im_W) :=
  some (y0, w)
set_option maxHeartbeats 4000000 in
set_option maxRecDepth 100000 in
theorem bk_Model_stand_44 {F : Nat} {r : Int32 × im_W} (X : im_X D vwCl tA lo im_NW c_Model_stand 5 (some .int) RC_Model im_T p s m args meth c) (y0 : Int32) (w : im_W) (hsh : sh_Model_stand_44 F y0 w = some r) : im_WW D vwCl tA lo 5 p l e (im_rm 5 113) s m args below meth c 0 0 (MQ below (im_Post D vwCl tA lo (some (.int r.1)) r.2) args s 0 0 (fun q => lo ≤ q)) 44 [] [.int y0] w := by
  obtain ⟨hx, hb, hr, hts, hown, hlk, hml, hK, hN⟩ := id X
  intro H locs ls hH hl
  unfold sh_Model_stand_44 at hsh
  obtain rfl := Option.some.inj hsh
  exact im_iret hx hb hr hlk hH d_Model_stand_44
def sh_Model_stand_29 (F : Nat) (x0 : Nat) (y0 : Int32) (y1 : Nat) (w : im_W) : Option (Int32 × im_W) :=
  (im_pV w 9 y1 2 (.int y0)).bind fun w1 => (im_gI w1 9 x0 2).bind fun f3 => (if f3 ≤ 0 then sh_Model_stand_44 F (-1 : Int32) w1 else sh_Model_stand_44 F (1 : Int32) w1)
set_option maxHeartbeats 4000000 in
set_option maxRecDepth 100000 in
theorem bk_Model_stand_29 {F : Nat} {r : Int32 × im_W} (X : im_X D vwCl tA lo im_NW c_Model_stand 5 (some .int) RC_Model im_T p s m args meth c) (x0 : Nat) (y0 : Int32) (y1 : Nat) (w : im_W) (hsh : sh_Model_stand_29 F x0 y0 y1 w = some r) : im_WW D vwCl tA lo 5 p l e (im_rm 5 113) s m args below meth c 0 0 (MQ below (im_Post D vwCl tA lo (some (.int r.1)) r.2) args s 0 0 (fun q => lo ≤ q)) 29 [(0, .ref (lo + x0))] [.int y0, .ref (lo + y1)] w := by
  obtain ⟨hx, hb, hr, hts, hown, hlk, hml, hK, hN⟩ := id X
  intro H locs ls hH hl
  unfold sh_Model_stand_29 at hsh
  obtain ⟨w1, h2, hsh⟩ := im_bd hsh
  refine im_put (v := .int y0) hx hb hts inC_Model tyC_Model tyC_Model_ok nmC_Model hown hK hH (ci := 9) rfl 2 (by decide) (hts _ wd_633) rfl rfl rfl rfl h2 d_Model_stand_29 (fun H locs hH => ?_)
  refine lv_aload_n hx hb d_Model_stand_32 rfl (lv_at hl 0 rfl) ?_
  obtain ⟨f3, h4, hsh⟩ := im_bd hsh
  refine im_getI hx hb hts inC_Model hown hK hH (ci := 9) rfl 2 (by decide) (hts _ wd_633) rfl h4 d_Model_stand_33 ?_
  refine lv_if_le (tgt := 43) hx hb d_Model_stand_36 (by decide) (fun cc => ?_) (fun cc => ?_)
  · have hsh := im_it hsh cc
    refine lv_iconst (v := -1) hx hb d_Model_stand_43 (by decide) ?_
    exact bk_Model_stand_44 X (-1 : Int32) w1 hsh H locs ls hH (lv_sub hl [] rfl)
  · have hsh := im_if hsh cc
    refine lv_iconst (v := 1) hx hb d_Model_stand_39 (by decide) ?_
    refine lv_goto (tgt := 44) hx hb d_Model_stand_40 (by decide) ?_
    exact bk_Model_stand_44 X (1 : Int32) w1 hsh H locs ls hH (lv_sub hl [] rfl)
def sh_Model_stand_83 (F : Nat) (y0 : Int32) (w : im_W) : Option (Int32 × im_W) :=
  some (y0, w)
set_option maxHeartbeats 4000000 in
set_option maxRecDepth 100000 in
theorem bk_Model_stand_83 {F : Nat} {r : Int32 × im_W} (X : im_X D vwCl tA lo im_NW c_Model_stand 5 (some .int) RC_Model im_T p s m args meth c) (y0 : Int32) (w : im_W) (hsh : sh_Model_stand_83 F y0 w = some r) : im_WW D vwCl tA lo 5 p l e (im_rm 5 113) s m args below meth c 0 0 (MQ below (im_Post D vwCl tA lo (some (.int r.1)) r.2) args s 0 0 (fun q => lo ≤ q)) 83 [] [.int y0] w := by
  obtain ⟨hx, hb, hr, hts, hown, hlk, hml, hK, hN⟩ := id X
  intro H locs ls hH hl
  unfold sh_Model_stand_83 at hsh
  obtain rfl := Option.some.inj hsh
  exact im_iret hx hb hr hlk hH d_Model_stand_83
def sh_Model_stand_82 (F : Nat)  (w : im_W) : Option (Int32 × im_W) :=
  sh_Model_stand_83 F (-1 : Int32) w
set_option maxHeartbeats 4000000 in
set_option maxRecDepth 100000 in
theorem bk_Model_stand_82 {F : Nat} {r : Int32 × im_W} (X : im_X D vwCl tA lo im_NW c_Model_stand 5 (some .int) RC_Model im_T p s m args meth c)  (w : im_W) (hsh : sh_Model_stand_82 F w = some r) : im_WW D vwCl tA lo 5 p l e (im_rm 5 113) s m args below meth c 0 0 (MQ below (im_Post D vwCl tA lo (some (.int r.1)) r.2) args s 0 0 (fun q => lo ≤ q)) 82 [] [] w := by
  obtain ⟨hx, hb, hr, hts, hown, hlk, hml, hK, hN⟩ := id X
  intro H locs ls hH hl
  unfold sh_Model_stand_82 at hsh
  refine lv_iconst (v := -1) hx hb d_Model_stand_82 (by decide) ?_
  exact bk_Model_stand_83 X (-1 : Int32) w hsh H locs ls hH (lv_sub hl [] rfl)
def sh_Model_stand_192 (F : Nat) (y0 : Int32) (w : im_W) : Option (Int32 × im_W) :=
  some (y0, w)
set_option maxHeartbeats 4000000 in
set_option maxRecDepth 100000 in
theorem bk_Model_stand_192 {F : Nat} {r : Int32 × im_W} (X : im_X D vwCl tA lo im_NW c_Model_stand 5 (some .int) RC_Model im_T p s m args meth c) (y0 : Int32) (w : im_W) (hsh : sh_Model_stand_192 F y0 w = some r) : im_WW D vwCl tA lo 5 p l e (im_rm 5 113) s m args below meth c 0 0 (MQ below (im_Post D vwCl tA lo (some (.int r.1)) r.2) args s 0 0 (fun q => lo ≤ q)) 192 [] [.int y0] w := by
  obtain ⟨hx, hb, hr, hts, hown, hlk, hml, hK, hN⟩ := id X
  intro H locs ls hH hl
  unfold sh_Model_stand_192 at hsh
  obtain rfl := Option.some.inj hsh
  exact im_iret hx hb hr hlk hH d_Model_stand_192
def sh_Model_stand_171 (F : Nat) (x0 : Nat) (x1 : Int32) (x2 : Int32) (x3 : Int32) (w : im_W) : Option (Int32 × im_W) :=
  (if (4 : Int32) ≤ x1 then (im_is w 9 x0).bind fun u1 => im_b2 (sh_Model_standKeyword F x0 x1 x2 x3 w) fun v7 w5 => sh_Model_stand_192 F v7 w5 else (im_is w 9 x0).bind fun u8 => im_b2 (sh_Model_standVariant F x0 x2 x3 w) fun v14 w12 => sh_Model_stand_192 F v14 w12)
set_option maxHeartbeats 4000000 in
set_option maxRecDepth 100000 in
theorem bk_Model_stand_171 {F : Nat} {r : Int32 × im_W} (X : im_X D vwCl tA lo im_NW c_Model_stand 5 (some .int) RC_Model im_T p s m args meth c) (x0 : Nat) (x1 : Int32) (x2 : Int32) (x3 : Int32) (w : im_W) (hsh : sh_Model_stand_171 F x0 x1 x2 x3 w = some r) : im_WW D vwCl tA lo 5 p l e (im_rm 5 113) s m args below meth c 0 0 (MQ below (im_Post D vwCl tA lo (some (.int r.1)) r.2) args s 0 0 (fun q => lo ≤ q)) 171 [(0, .ref (lo + x0)), (1, .int x1), (2, .int x2), (3, .int x3)] [] w := by
  obtain ⟨hx, hb, hr, hts, hown, hlk, hml, hK, hN⟩ := id X
  intro H locs ls hH hl
  unfold sh_Model_stand_171 at hsh
  refine lv_iload_n hx hb d_Model_stand_171 rfl (lv_at hl 1 rfl) ?_
  refine lv_iconst (v := 4) hx hb d_Model_stand_172 (by decide) ?_
  refine lv_icmp_ge (tgt := 185) hx hb d_Model_stand_173 (by decide) (fun cc => ?_) (fun cc => ?_)
  · have hsh := im_it hsh cc
    refine lv_aload_n hx hb d_Model_stand_185 rfl (lv_at hl 0 rfl) ?_
    refine lv_iload_n hx hb d_Model_stand_186 rfl (lv_at hl 1 rfl) ?_
    refine lv_iload_n hx hb d_Model_stand_187 rfl (lv_at hl 2 rfl) ?_
    refine lv_iload_n hx hb d_Model_stand_188 rfl (lv_at hl 3 rfl) ?_
    obtain ⟨u1, h2, hsh⟩ := im_bd hsh
    obtain ⟨g3, h4⟩ := im_is_s h2
    obtain ⟨v7, w5, h6, hsh⟩ := im_bd2 hsh
    refine im_afterI (va_runV (As := [.int x1, .int x2, .int x3]) (rest := []) (C := RC_Model) ⟨hx, hb, hml, hown, hts⟩ (met_Model_standKeyword h6) ⟨(callB_of 3 hts (im_good wd_851) rfl rfl rfl (hts _ wd_10) (hts _ wd_848) (by decide +kernel) ⟨Nat.le_of_ble_eq_true rfl, Nat.le_of_ble_eq_true rfl⟩), hts _ wd_850, hts _ sl_Model_standKeyword⟩ (im_preV im_NW_ok hK hN hH (ci := 9) rfl rfl h4 _) rfl rfl hl.1 rfl (lv_room (Nat.le_of_ble_eq_true rfl)) d_Model_stand_189 ⟨Nat.le_of_ble_eq_true rfl, Nat.le_of_ble_eq_true rfl⟩) hH (fun H locs hH => ?_)
    exact bk_Model_stand_192 X v7 w5 hsh H locs ls hH (lv_sub hl [] rfl)
  · have hsh := im_if hsh cc
    refine lv_aload_n hx hb d_Model_stand_176 rfl (lv_at hl 0 rfl) ?_
    refine lv_iload_n hx hb d_Model_stand_177 rfl (lv_at hl 2 rfl) ?_
    refine lv_iload_n hx hb d_Model_stand_178 rfl (lv_at hl 3 rfl) ?_
    obtain ⟨u8, h9, hsh⟩ := im_bd hsh
    obtain ⟨g10, h11⟩ := im_is_s h9
    obtain ⟨v14, w12, h13, hsh⟩ := im_bd2 hsh
    refine im_afterI (va_runV (As := [.int x2, .int x3]) (rest := []) (C := RC_Model) ⟨hx, hb, hml, hown, hts⟩ (met_Model_standVariant h13) ⟨(callB_of 2 hts (im_good wd_843) rfl rfl rfl (hts _ wd_10) (hts _ wd_840) (by decide +kernel) ⟨Nat.le_of_ble_eq_true rfl, Nat.le_of_ble_eq_true rfl⟩), hts _ wd_842, hts _ sl_Model_standVariant⟩ (im_preV im_NW_ok hK hN hH (ci := 9) rfl rfl h11 _) rfl rfl hl.1 rfl (lv_room (Nat.le_of_ble_eq_true rfl)) d_Model_stand_179 ⟨Nat.le_of_ble_eq_true rfl, Nat.le_of_ble_eq_true rfl⟩) hH (fun H locs hH => ?_)
    refine lv_goto (tgt := 192) hx hb d_Model_stand_182 (by decide) ?_
    exact bk_Model_stand_192 X v14 w12 hsh H locs ls hH (lv_sub hl [] rfl)
def sh_Model_stand_147 (F : Nat) (x0 : Nat) (x1 : Int32) (x2 : Int32) (x3 : Int32) (w : im_W) : Option (Int32 × im_W) :=
  (if x1 = (4 : Int32) then sh_Model_stand_171 F x0 x1 x2 x3 w else (im_is w 9 x0).bind fun u1 => im_b2 (sh_Model_isOne F x0 x2 x3 (120 : Int32) w) fun v7 w5 => (if v7 = 0 then sh_Model_stand_171 F x0 x1 x2 x3 w5 else (im_pV w5 9 x0 11 (.int x2)).bind fun w8 => some ((6 : Int32), w8)))
set_option maxHeartbeats 4000000 in
set_option maxRecDepth 100000 in
theorem bk_Model_stand_147 {F : Nat} {r : Int32 × im_W} (X : im_X D vwCl tA lo im_NW c_Model_stand 5 (some .int) RC_Model im_T p s m args meth c) (x0 : Nat) (x1 : Int32) (x2 : Int32) (x3 : Int32) (w : im_W) (hsh : sh_Model_stand_147 F x0 x1 x2 x3 w = some r) : im_WW D vwCl tA lo 5 p l e (im_rm 5 113) s m args below meth c 0 0 (MQ below (im_Post D vwCl tA lo (some (.int r.1)) r.2) args s 0 0 (fun q => lo ≤ q)) 147 [(0, .ref (lo + x0)), (1, .int x1), (2, .int x2), (3, .int x3)] [] w := by
  obtain ⟨hx, hb, hr, hts, hown, hlk, hml, hK, hN⟩ := id X
  intro H locs ls hH hl
  unfold sh_Model_stand_147 at hsh
  refine lv_iload_n hx hb d_Model_stand_147 rfl (lv_at hl 1 rfl) ?_
  refine lv_iconst (v := 4) hx hb d_Model_stand_148 (by decide) ?_
  refine lv_icmp_eq (tgt := 171) hx hb d_Model_stand_149 (by decide) (fun cc => ?_) (fun cc => ?_)
  · have hsh := im_it hsh cc
    exact bk_Model_stand_171 X x0 x1 x2 x3 w hsh H locs ls hH (lv_sub hl [0, 1, 2, 3] rfl)
  · have hsh := im_if hsh cc
    refine lv_aload_n hx hb d_Model_stand_152 rfl (lv_at hl 0 rfl) ?_
    refine lv_iload_n hx hb d_Model_stand_153 rfl (lv_at hl 2 rfl) ?_
    refine lv_iload_n hx hb d_Model_stand_154 rfl (lv_at hl 3 rfl) ?_
    refine lv_bipush (v := 120) hx hb d_Model_stand_155 (by decide) ?_
    obtain ⟨u1, h2, hsh⟩ := im_bd hsh
    obtain ⟨g3, h4⟩ := im_is_s h2
    obtain ⟨v7, w5, h6, hsh⟩ := im_bd2 hsh
    refine im_afterI (va_runV (As := [.int x2, .int x3, .int (120 : Int32)]) (rest := []) (C := RC_Model) ⟨hx, hb, hml, hown, hts⟩ (met_Model_isOne h6) ⟨(callB_of 3 hts (im_good wd_839) rfl rfl rfl (hts _ wd_10) (hts _ wd_836) (by decide +kernel) ⟨Nat.le_of_ble_eq_true rfl, Nat.le_of_ble_eq_true rfl⟩), hts _ wd_838, hts _ sl_Model_isOne⟩ (im_preV im_NW_ok hK hN hH (ci := 9) rfl rfl h4 _) rfl rfl hl.1 rfl (lv_room (Nat.le_of_ble_eq_true rfl)) d_Model_stand_157 ⟨Nat.le_of_ble_eq_true rfl, Nat.le_of_ble_eq_true rfl⟩) hH (fun H locs hH => ?_)
    refine lv_if_eq (tgt := 171) hx hb d_Model_stand_160 (by decide) (fun cc => ?_) (fun cc => ?_)
    · have hsh := im_it hsh cc
      exact bk_Model_stand_171 X x0 x1 x2 x3 w5 hsh H locs ls hH (lv_sub hl [0, 1, 2, 3] rfl)
    · have hsh := im_if hsh cc
      refine lv_aload_n hx hb d_Model_stand_163 rfl (lv_at hl 0 rfl) ?_
      refine lv_iload_n hx hb d_Model_stand_164 rfl (lv_at hl 2 rfl) ?_
      obtain ⟨w8, h9, hsh⟩ := im_bd hsh
      refine im_put (v := .int x2) hx hb hts inC_Model tyC_Model tyC_Model_ok nmC_Model hown hK hH (ci := 9) rfl 11 (by decide) (hts _ wd_642) rfl rfl rfl rfl h9 d_Model_stand_165 (fun H locs hH => ?_)
      refine lv_bipush (v := 6) hx hb d_Model_stand_168 (by decide) ?_
      obtain rfl := Option.some.inj hsh
      exact im_iret hx hb hr hlk hH d_Model_stand_170
def sh_Model_stand_116 (F : Nat) (x0 : Nat) (x1 : Int32) (x2 : Int32) (x3 : Int32) (w : im_W) : Option (Int32 × im_W) :=
  (if x1 < (1 : Int32) then sh_Model_stand_147 F x0 x1 x2 x3 w else (if (2 : Int32) < x1 then sh_Model_stand_147 F x0 x1 x2 x3 w else (im_is w 9 x0).bind fun u1 => im_b2 (sh_Model_isRegion F x0 x2 x3 w) fun v7 w5 => (if v7 = 0 then sh_Model_stand_147 F x0 x1 x2 x3 w5 else (im_is w5 9 x0).bind fun u8 => im_b2 (sh_Model_number F x0 x2 x3 w5) fun v14 w12 => (im_pV w12 9 x0 4 (.int v14)).bind fun w15 => some ((3 : Int32), w15))))
set_option maxHeartbeats 4000000 in
set_option maxRecDepth 100000 in
theorem bk_Model_stand_116 {F : Nat} {r : Int32 × im_W} (X : im_X D vwCl tA lo im_NW c_Model_stand 5 (some .int) RC_Model im_T p s m args meth c) (x0 : Nat) (x1 : Int32) (x2 : Int32) (x3 : Int32) (w : im_W) (hsh : sh_Model_stand_116 F x0 x1 x2 x3 w = some r) : im_WW D vwCl tA lo 5 p l e (im_rm 5 113) s m args below meth c 0 0 (MQ below (im_Post D vwCl tA lo (some (.int r.1)) r.2) args s 0 0 (fun q => lo ≤ q)) 116 [(0, .ref (lo + x0)), (1, .int x1), (2, .int x2), (3, .int x3)] [] w := by
  obtain ⟨hx, hb, hr, hts, hown, hlk, hml, hK, hN⟩ := id X
  intro H locs ls hH hl
  unfold sh_Model_stand_116 at hsh
  refine lv_iload_n hx hb d_Model_stand_116 rfl (lv_at hl 1 rfl) ?_
  refine lv_iconst (v := 1) hx hb d_Model_stand_117 (by decide) ?_
  refine lv_icmp_lt (tgt := 147) hx hb d_Model_stand_118 (by decide) (fun cc => ?_) (fun cc => ?_)
  · have hsh := im_it hsh cc
    exact bk_Model_stand_147 X x0 x1 x2 x3 w hsh H locs ls hH (lv_sub hl [0, 1, 2, 3] rfl)
  · have hsh := im_if hsh cc
    refine lv_iload_n hx hb d_Model_stand_121 rfl (lv_at hl 1 rfl) ?_
    refine lv_iconst (v := 2) hx hb d_Model_stand_122 (by decide) ?_
    refine lv_icmp_gt (tgt := 147) hx hb d_Model_stand_123 (by decide) (fun cc => ?_) (fun cc => ?_)
    · have hsh := im_it hsh cc
      exact bk_Model_stand_147 X x0 x1 x2 x3 w hsh H locs ls hH (lv_sub hl [0, 1, 2, 3] rfl)
    · have hsh := im_if hsh cc
      refine lv_aload_n hx hb d_Model_stand_126 rfl (lv_at hl 0 rfl) ?_
      refine lv_iload_n hx hb d_Model_stand_127 rfl (lv_at hl 2 rfl) ?_
      refine lv_iload_n hx hb d_Model_stand_128 rfl (lv_at hl 3 rfl) ?_
      obtain ⟨u1, h2, hsh⟩ := im_bd hsh
      obtain ⟨g3, h4⟩ := im_is_s h2
      obtain ⟨v7, w5, h6, hsh⟩ := im_bd2 hsh
      refine im_afterI (va_runV (As := [.int x2, .int x3]) (rest := []) (C := RC_Model) ⟨hx, hb, hml, hown, hts⟩ (met_Model_isRegion h6) ⟨(callB_of 2 hts (im_good wd_795) rfl rfl rfl (hts _ wd_10) (hts _ wd_792) (by decide +kernel) ⟨Nat.le_of_ble_eq_true rfl, Nat.le_of_ble_eq_true rfl⟩), hts _ wd_794, hts _ sl_Model_isRegion⟩ (im_preV im_NW_ok hK hN hH (ci := 9) rfl rfl h4 _) rfl rfl hl.1 rfl (lv_room (Nat.le_of_ble_eq_true rfl)) d_Model_stand_129 ⟨Nat.le_of_ble_eq_true rfl, Nat.le_of_ble_eq_true rfl⟩) hH (fun H locs hH => ?_)
      refine lv_if_eq (tgt := 147) hx hb d_Model_stand_132 (by decide) (fun cc => ?_) (fun cc => ?_)
      · have hsh := im_it hsh cc
        exact bk_Model_stand_147 X x0 x1 x2 x3 w5 hsh H locs ls hH (lv_sub hl [0, 1, 2, 3] rfl)
      · have hsh := im_if hsh cc
        refine lv_aload_n hx hb d_Model_stand_135 rfl (lv_at hl 0 rfl) ?_
        refine lv_aload_n hx hb d_Model_stand_136 rfl (lv_at hl 0 rfl) ?_
        refine lv_iload_n hx hb d_Model_stand_137 rfl (lv_at hl 2 rfl) ?_
        refine lv_iload_n hx hb d_Model_stand_138 rfl (lv_at hl 3 rfl) ?_
        obtain ⟨u8, h9, hsh⟩ := im_bd hsh
        obtain ⟨g10, h11⟩ := im_is_s h9
        obtain ⟨v14, w12, h13, hsh⟩ := im_bd2 hsh
        refine im_afterI (va_runV (As := [.int x2, .int x3]) (rest := [.ref (lo + x0)]) (C := RC_Model) ⟨hx, hb, hml, hown, hts⟩ (met_Model_number h13) ⟨(callB_of 2 hts (im_good wd_815) rfl rfl rfl (hts _ wd_10) (hts _ wd_812) (by decide +kernel) ⟨Nat.le_of_ble_eq_true rfl, Nat.le_of_ble_eq_true rfl⟩), hts _ wd_814, hts _ sl_Model_number⟩ (im_preV im_NW_ok hK hN hH (ci := 9) rfl rfl h11 _) rfl rfl hl.1 rfl (lv_room (Nat.le_of_ble_eq_true rfl)) d_Model_stand_139 ⟨Nat.le_of_ble_eq_true rfl, Nat.le_of_ble_eq_true rfl⟩) hH (fun H locs hH => ?_)
        obtain ⟨w15, h16, hsh⟩ := im_bd hsh
        refine im_put (v := .int v14) hx hb hts inC_Model tyC_Model tyC_Model_ok nmC_Model hown hK hH (ci := 9) rfl 4 (by decide) (hts _ wd_635) rfl rfl rfl rfl h16 d_Model_stand_142 (fun H locs hH => ?_)
        refine lv_iconst (v := 3) hx hb d_Model_stand_145 (by decide) ?_
        obtain rfl := Option.some.inj hsh
        exact im_iret hx hb hr hlk hH d_Model_stand_146
def sh_Model_stand (F : Nat) (x0 : Nat) (x1 : Int32) (x2 : Int32) (x3 : Int32) (w : im_W) : Option (Int32 × im_W) :=
  (if x1 = 0 then (im_is w 9 x0).bind fun u26 => im_b2 (sh_Model_isLanguage F x0 x2 x3 w) fun v32 w30 => (if v32 = 0 then sh_Model_stand_29 F x0 (0 : Int32) x0 w30 else (im_is w30 9 x0).bind fun u33 => im_b2 (sh_Model_number F x0 x2 x3 w30) fun v39 w37 => sh_Model_stand_29 F x0 v39 x0 w37) else (if x1 ≤ (5 : Int32) then (if x1 = (1 : Int32) then (if (x3 - x2) = (4 : Int32) then (im_is w 9 x0).bind fun u1 => im_b2 (sh_Model_allLetters F x0 x2 x3 w) fun v7 w5 => (if v7 = 0 then sh_Model_stand_116 F x0 x1 x2 x3 w5 else (im_is w5 9 x0).bind fun u8 => im_b2 (sh_Model_number F x0 x2 x3 w5) fun v14 w12 => (im_pV w12 9 x0 3 (.int v14)).bind fun w15 => some ((2 : Int32), w15)) else sh_Model_stand_116 F x0 x1 x2 x3 w) else sh_Model_stand_116 F x0 x1 x2 x3 w) else (im_pV w 9 x0 12 (.int x3)).bind fun w17 => (if (x3 - x2) < (1 : Int32) then sh_Model_stand_82 F w17 else (if (8 : Int32) < (x3 - x2) then sh_Model_stand_82 F w17 else (im_is w17 9 x0).bind fun u19 => im_b2 (sh_Model_allBoth F x0 x2 x3 w17) fun v25 w23 => (if v25 = 0 then sh_Model_stand_82 F w23 else sh_Model_stand_83 F (7 : Int32) w23)))))
set_option maxHeartbeats 4000000 in
set_option maxRecDepth 100000 in
theorem met_Model_stand {F : Nat} {x0 : Nat} {x1 : Int32} {x2 : Int32} {x3 : Int32} {w : im_W} {r : Int32 × im_W} (hsh : sh_Model_stand F x0 x1 x2 x3 w = some r) : Met l y_Model_stand (Cond.code y_Model_stand c_Model_stand 5 (some .int) :: im_T) (im_rm 5 113) (im_Pre D vwCl tA lo im_NW [.ref (lo + x0), .int x1, .int x2, .int x3] w) (im_Post D vwCl tA lo (some (.int r.1)) r.2) 0 0 (fun q => lo ≤ q) := by
  refine im_ofW (cc := c_Model_stand) (nL := 5) (ret := (some .int)) (by decide) (Nat.le_of_ble_eq_true rfl) ?_
  intro p e s m args below meth c X H locs ls hH hl
  obtain ⟨hx, hb, hr, hts, hown, hlk, hml, hK, hN⟩ := id X
  have hl : lv_has ls 5 [(0, .ref (lo + x0)), (1, .int x1), (2, .int x2), (3, .int x3)] := hl
  unfold sh_Model_stand at hsh
  refine lv_iload_n hx hb d_Model_stand_0 rfl (lv_at hl 3 rfl) ?_
  refine lv_iload_n hx hb d_Model_stand_1 rfl (lv_at hl 2 rfl) ?_
  refine lv_isub hx hb d_Model_stand_2 ?_
  refine lv_istore (lv' := [(4, .int (x3 - x2)), (0, .ref (lo + x0)), (1, .int x1), (2, .int x2), (3, .int x3)]) hx hb d_Model_stand_3 hl (by decide) rfl (fun ls hl => ?_)
  refine lv_iload_n hx hb d_Model_stand_5 rfl (lv_at hl 2 rfl) ?_
  refine lv_if_ne (tgt := 45) hx hb d_Model_stand_6 (by decide) (fun cc => ?_) (fun cc => ?_)
  · have hsh := im_if hsh cc
    refine lv_iload_n hx hb d_Model_stand_45 rfl (lv_at hl 2 rfl) ?_
    refine lv_iconst (v := 5) hx hb d_Model_stand_46 (by decide) ?_
    refine lv_icmp_le (tgt := 84) hx hb d_Model_stand_47 (by decide) (fun cc => ?_) (fun cc => ?_)
    · have hsh := im_it hsh cc
      refine lv_iload_n hx hb d_Model_stand_84 rfl (lv_at hl 2 rfl) ?_
      refine lv_iconst (v := 1) hx hb d_Model_stand_85 (by decide) ?_
      refine lv_icmp_ne (tgt := 116) hx hb d_Model_stand_86 (by decide) (fun cc => ?_) (fun cc => ?_)
      · have hsh := im_if hsh cc
        exact bk_Model_stand_116 X x0 x1 x2 x3 w hsh H locs ls hH (lv_sub hl [1, 2, 3, 4] rfl)
      · have hsh := im_it hsh cc
        refine lv_iload hx hb d_Model_stand_89 (lv_at hl 0 rfl) ?_
        refine lv_iconst (v := 4) hx hb d_Model_stand_91 (by decide) ?_
        refine lv_icmp_ne (tgt := 116) hx hb d_Model_stand_92 (by decide) (fun cc => ?_) (fun cc => ?_)
        · have hsh := im_if hsh cc
          exact bk_Model_stand_116 X x0 x1 x2 x3 w hsh H locs ls hH (lv_sub hl [1, 2, 3, 4] rfl)
        · have hsh := im_it hsh cc
          refine lv_aload_n hx hb d_Model_stand_95 rfl (lv_at hl 1 rfl) ?_
          refine lv_iload_n hx hb d_Model_stand_96 rfl (lv_at hl 3 rfl) ?_
          refine lv_iload_n hx hb d_Model_stand_97 rfl (lv_at hl 4 rfl) ?_
          obtain ⟨u1, h2, hsh⟩ := im_bd hsh
          obtain ⟨g3, h4⟩ := im_is_s h2
          obtain ⟨v7, w5, h6, hsh⟩ := im_bd2 hsh
          refine im_afterI (va_runV (As := [.int x2, .int x3]) (rest := []) (C := RC_Model) ⟨hx, hb, hml, hown, hts⟩ (met_Model_allLetters h6) ⟨(callB_of 2 hts (im_good wd_799) rfl rfl rfl (hts _ wd_10) (hts _ wd_796) (by decide +kernel) ⟨Nat.le_of_ble_eq_true rfl, Nat.le_of_ble_eq_true rfl⟩), hts _ wd_798, hts _ sl_Model_allLetters⟩ (im_preV im_NW_ok hK hN hH (ci := 9) rfl rfl h4 _) rfl rfl hl.1 rfl (lv_room (Nat.le_of_ble_eq_true rfl)) d_Model_stand_98 ⟨Nat.le_of_ble_eq_true rfl, Nat.le_of_ble_eq_true rfl⟩) hH (fun H locs hH => ?_)
          refine lv_if_eq (tgt := 116) hx hb d_Model_stand_101 (by decide) (fun cc => ?_) (fun cc => ?_)
          · have hsh := im_it hsh cc
            exact bk_Model_stand_116 X x0 x1 x2 x3 w5 hsh H locs ls hH (lv_sub hl [1, 2, 3, 4] rfl)
          · have hsh := im_if hsh cc
            refine lv_aload_n hx hb d_Model_stand_104 rfl (lv_at hl 1 rfl) ?_
            refine lv_aload_n hx hb d_Model_stand_105 rfl (lv_at hl 1 rfl) ?_
            refine lv_iload_n hx hb d_Model_stand_106 rfl (lv_at hl 3 rfl) ?_
            refine lv_iload_n hx hb d_Model_stand_107 rfl (lv_at hl 4 rfl) ?_
            obtain ⟨u8, h9, hsh⟩ := im_bd hsh
            obtain ⟨g10, h11⟩ := im_is_s h9
            obtain ⟨v14, w12, h13, hsh⟩ := im_bd2 hsh
            refine im_afterI (va_runV (As := [.int x2, .int x3]) (rest := [.ref (lo + x0)]) (C := RC_Model) ⟨hx, hb, hml, hown, hts⟩ (met_Model_number h13) ⟨(callB_of 2 hts (im_good wd_815) rfl rfl rfl (hts _ wd_10) (hts _ wd_812) (by decide +kernel) ⟨Nat.le_of_ble_eq_true rfl, Nat.le_of_ble_eq_true rfl⟩), hts _ wd_814, hts _ sl_Model_number⟩ (im_preV im_NW_ok hK hN hH (ci := 9) rfl rfl h11 _) rfl rfl hl.1 rfl (lv_room (Nat.le_of_ble_eq_true rfl)) d_Model_stand_108 ⟨Nat.le_of_ble_eq_true rfl, Nat.le_of_ble_eq_true rfl⟩) hH (fun H locs hH => ?_)
            obtain ⟨w15, h16, hsh⟩ := im_bd hsh
            refine im_put (v := .int v14) hx hb hts inC_Model tyC_Model tyC_Model_ok nmC_Model hown hK hH (ci := 9) rfl 3 (by decide) (hts _ wd_634) rfl rfl rfl rfl h16 d_Model_stand_111 (fun H locs hH => ?_)
            refine lv_iconst (v := 2) hx hb d_Model_stand_114 (by decide) ?_
            obtain rfl := Option.some.inj hsh
            exact im_iret hx hb hr hlk hH d_Model_stand_115
    · have hsh := im_if hsh cc
      refine lv_aload_n hx hb d_Model_stand_50 rfl (lv_at hl 1 rfl) ?_
      refine lv_iload_n hx hb d_Model_stand_51 rfl (lv_at hl 4 rfl) ?_
      obtain ⟨w17, h18, hsh⟩ := im_bd hsh
      refine im_put (v := .int x3) hx hb hts inC_Model tyC_Model tyC_Model_ok nmC_Model hown hK hH (ci := 9) rfl 12 (by decide) (hts _ wd_643) rfl rfl rfl rfl h18 d_Model_stand_52 (fun H locs hH => ?_)
      refine lv_iload hx hb d_Model_stand_55 (lv_at hl 0 rfl) ?_
      refine lv_iconst (v := 1) hx hb d_Model_stand_57 (by decide) ?_
      refine lv_icmp_lt (tgt := 82) hx hb d_Model_stand_58 (by decide) (fun cc => ?_) (fun cc => ?_)
      · have hsh := im_it hsh cc
        exact bk_Model_stand_82 X w17 hsh H locs ls hH (lv_sub hl [] rfl)
      · have hsh := im_if hsh cc
        refine lv_iload hx hb d_Model_stand_61 (lv_at hl 0 rfl) ?_
        refine lv_bipush (v := 8) hx hb d_Model_stand_63 (by decide) ?_
        refine lv_icmp_gt (tgt := 82) hx hb d_Model_stand_65 (by decide) (fun cc => ?_) (fun cc => ?_)
        · have hsh := im_it hsh cc
          exact bk_Model_stand_82 X w17 hsh H locs ls hH (lv_sub hl [] rfl)
        · have hsh := im_if hsh cc
          refine lv_aload_n hx hb d_Model_stand_68 rfl (lv_at hl 1 rfl) ?_
          refine lv_iload_n hx hb d_Model_stand_69 rfl (lv_at hl 3 rfl) ?_
          refine lv_iload_n hx hb d_Model_stand_70 rfl (lv_at hl 4 rfl) ?_
          obtain ⟨u19, h20, hsh⟩ := im_bd hsh
          obtain ⟨g21, h22⟩ := im_is_s h20
          obtain ⟨v25, w23, h24, hsh⟩ := im_bd2 hsh
          refine im_afterI (va_runV (As := [.int x2, .int x3]) (rest := []) (C := RC_Model) ⟨hx, hb, hml, hown, hts⟩ (met_Model_allBoth h24) ⟨(callB_of 2 hts (im_good wd_835) rfl rfl rfl (hts _ wd_10) (hts _ wd_832) (by decide +kernel) ⟨Nat.le_of_ble_eq_true rfl, Nat.le_of_ble_eq_true rfl⟩), hts _ wd_834, hts _ sl_Model_allBoth⟩ (im_preV im_NW_ok hK hN hH (ci := 9) rfl rfl h22 _) rfl rfl hl.1 rfl (lv_room (Nat.le_of_ble_eq_true rfl)) d_Model_stand_71 ⟨Nat.le_of_ble_eq_true rfl, Nat.le_of_ble_eq_true rfl⟩) hH (fun H locs hH => ?_)
          refine lv_if_eq (tgt := 82) hx hb d_Model_stand_74 (by decide) (fun cc => ?_) (fun cc => ?_)
          · have hsh := im_it hsh cc
            exact bk_Model_stand_82 X w23 hsh H locs ls hH (lv_sub hl [] rfl)
          · have hsh := im_if hsh cc
            refine lv_bipush (v := 7) hx hb d_Model_stand_77 (by decide) ?_
            refine lv_goto (tgt := 83) hx hb d_Model_stand_79 (by decide) ?_
            exact bk_Model_stand_83 X (7 : Int32) w23 hsh H locs ls hH (lv_sub hl [] rfl)
  · have hsh := im_it hsh cc
    refine lv_aload_n hx hb d_Model_stand_9 rfl (lv_at hl 1 rfl) ?_
    refine lv_aload_n hx hb d_Model_stand_10 rfl (lv_at hl 1 rfl) ?_
    refine lv_iload_n hx hb d_Model_stand_11 rfl (lv_at hl 3 rfl) ?_
    refine lv_iload_n hx hb d_Model_stand_12 rfl (lv_at hl 4 rfl) ?_
    obtain ⟨u26, h27, hsh⟩ := im_bd hsh
    obtain ⟨g28, h29⟩ := im_is_s h27
    obtain ⟨v32, w30, h31, hsh⟩ := im_bd2 hsh
    refine im_afterI (va_runV (As := [.int x2, .int x3]) (rest := [.ref (lo + x0)]) (C := RC_Model) ⟨hx, hb, hml, hown, hts⟩ (met_Model_isLanguage h31) ⟨(callB_of 2 hts (im_good wd_807) rfl rfl rfl (hts _ wd_10) (hts _ wd_804) (by decide +kernel) ⟨Nat.le_of_ble_eq_true rfl, Nat.le_of_ble_eq_true rfl⟩), hts _ wd_806, hts _ sl_Model_isLanguage⟩ (im_preV im_NW_ok hK hN hH (ci := 9) rfl rfl h29 _) rfl rfl hl.1 rfl (lv_room (Nat.le_of_ble_eq_true rfl)) d_Model_stand_13 ⟨Nat.le_of_ble_eq_true rfl, Nat.le_of_ble_eq_true rfl⟩) hH (fun H locs hH => ?_)
    refine lv_if_eq (tgt := 28) hx hb d_Model_stand_16 (by decide) (fun cc => ?_) (fun cc => ?_)
    · have hsh := im_it hsh cc
      refine lv_iconst (v := 0) hx hb d_Model_stand_28 (by decide) ?_
      exact bk_Model_stand_29 X x0 (0 : Int32) x0 w30 hsh H locs ls hH (lv_sub hl [1] rfl)
    · have hsh := im_if hsh cc
      refine lv_aload_n hx hb d_Model_stand_19 rfl (lv_at hl 1 rfl) ?_
      refine lv_iload_n hx hb d_Model_stand_20 rfl (lv_at hl 3 rfl) ?_
      refine lv_iload_n hx hb d_Model_stand_21 rfl (lv_at hl 4 rfl) ?_
      obtain ⟨u33, h34, hsh⟩ := im_bd hsh
      obtain ⟨g35, h36⟩ := im_is_s h34
      obtain ⟨v39, w37, h38, hsh⟩ := im_bd2 hsh
      refine im_afterI (va_runV (As := [.int x2, .int x3]) (rest := [.ref (lo + x0)]) (C := RC_Model) ⟨hx, hb, hml, hown, hts⟩ (met_Model_number h38) ⟨(callB_of 2 hts (im_good wd_815) rfl rfl rfl (hts _ wd_10) (hts _ wd_812) (by decide +kernel) ⟨Nat.le_of_ble_eq_true rfl, Nat.le_of_ble_eq_true rfl⟩), hts _ wd_814, hts _ sl_Model_number⟩ (im_preV im_NW_ok hK hN hH (ci := 9) rfl rfl h36 _) rfl rfl hl.1 rfl (lv_room (Nat.le_of_ble_eq_true rfl)) d_Model_stand_22 ⟨Nat.le_of_ble_eq_true rfl, Nat.le_of_ble_eq_true rfl⟩) hH (fun H locs hH => ?_)
      refine lv_goto (tgt := 29) hx hb d_Model_stand_25 (by decide) ?_
      exact bk_Model_stand_29 X x0 v39 x0 w37 hsh H locs ls hH (lv_sub hl [1] rfl)
theorem wd_648 : (Jvm.Cond.fieldLink "LanguageTagsModel" (174 : Nat) "LanguageTagsModel" "aliases" "I") ∈ im_T := im_memT (i := 648) (by decide +kernel) (by decide +kernel)
theorem wd_649 : (Jvm.Cond.fieldLink "LanguageTagsModel" (32 : Nat) "LanguageTagsModel" "aliasFirst" "[I") ∈ im_T := im_memT (i := 649) (by decide +kernel) (by decide +kernel)
theorem wd_650 : (Jvm.Cond.fieldLink "LanguageTagsModel" (35 : Nat) "LanguageTagsModel" "aliasSecond" "[I") ∈ im_T := im_memT (i := 650) (by decide +kernel) (by decide +kernel)
theorem wd_651 : (Jvm.Cond.fieldLink "LanguageTagsModel" (38 : Nat) "LanguageTagsModel" "aliasRegion" "[Z") ∈ im_T := im_memT (i := 651) (by decide +kernel) (by decide +kernel)
theorem d_Model_replaced_0 : decode c_Model_replaced 0 = .ok (.iload_n 1, 1) := by decide +kernel
theorem d_Model_replaced_1 : decode c_Model_replaced 1 = .ok (.istore_n 3, 1) := by decide +kernel
theorem d_Model_replaced_2 : decode c_Model_replaced 2 = .ok (.iconst 0, 1) := by decide +kernel
theorem d_Model_replaced_3 : decode c_Model_replaced 3 = .ok (.istore 4, 2) := by decide +kernel
theorem d_Model_replaced_5 : decode c_Model_replaced 5 = .ok (.iload 4, 2) := by decide +kernel
theorem d_Model_replaced_7 : decode c_Model_replaced 7 = .ok (.bipush (9), 2) := by decide +kernel
theorem d_Model_replaced_9 : decode c_Model_replaced 9 = .ok (.if_icmp .ge (69), 3) := by decide +kernel
theorem d_Model_replaced_12 : decode c_Model_replaced 12 = .ok (.iload_n 3, 1) := by decide +kernel
theorem d_Model_replaced_13 : decode c_Model_replaced 13 = .ok (.istore 5, 2) := by decide +kernel
theorem d_Model_replaced_15 : decode c_Model_replaced 15 = .ok (.iconst 0, 1) := by decide +kernel
theorem d_Model_replaced_16 : decode c_Model_replaced 16 = .ok (.istore 6, 2) := by decide +kernel
theorem d_Model_replaced_18 : decode c_Model_replaced 18 = .ok (.iload 6, 2) := by decide +kernel
theorem d_Model_replaced_20 : decode c_Model_replaced 20 = .ok (.aload_n 0, 1) := by decide +kernel
theorem d_Model_replaced_21 : decode c_Model_replaced 21 = .ok (.getfield 174, 3) := by decide +kernel
theorem d_Model_replaced_24 : decode c_Model_replaced 24 = .ok (.if_icmp .ge (45), 3) := by decide +kernel
theorem d_Model_replaced_27 : decode c_Model_replaced 27 = .ok (.aload_n 0, 1) := by decide +kernel
theorem d_Model_replaced_28 : decode c_Model_replaced 28 = .ok (.getfield 38, 3) := by decide +kernel
theorem d_Model_replaced_31 : decode c_Model_replaced 31 = .ok (.iload 6, 2) := by decide +kernel
theorem d_Model_replaced_33 : decode c_Model_replaced 33 = .ok (.baload, 1) := by decide +kernel
theorem d_Model_replaced_34 : decode c_Model_replaced 34 = .ok (.iload_n 2, 1) := by decide +kernel
theorem d_Model_replaced_35 : decode c_Model_replaced 35 = .ok (.if_icmp .ne (24), 3) := by decide +kernel
theorem d_Model_replaced_38 : decode c_Model_replaced 38 = .ok (.aload_n 0, 1) := by decide +kernel
theorem d_Model_replaced_39 : decode c_Model_replaced 39 = .ok (.getfield 32, 3) := by decide +kernel
theorem d_Model_replaced_42 : decode c_Model_replaced 42 = .ok (.iload 6, 2) := by decide +kernel
theorem d_Model_replaced_44 : decode c_Model_replaced 44 = .ok (.iaload, 1) := by decide +kernel
theorem d_Model_replaced_45 : decode c_Model_replaced 45 = .ok (.iload_n 3, 1) := by decide +kernel
theorem d_Model_replaced_46 : decode c_Model_replaced 46 = .ok (.if_icmp .ne (13), 3) := by decide +kernel
theorem d_Model_replaced_49 : decode c_Model_replaced 49 = .ok (.aload_n 0, 1) := by decide +kernel
theorem d_Model_replaced_50 : decode c_Model_replaced 50 = .ok (.getfield 35, 3) := by decide +kernel
theorem d_Model_replaced_53 : decode c_Model_replaced 53 = .ok (.iload 6, 2) := by decide +kernel
theorem d_Model_replaced_55 : decode c_Model_replaced 55 = .ok (.iaload, 1) := by decide +kernel
theorem d_Model_replaced_56 : decode c_Model_replaced 56 = .ok (.goto (5), 3) := by decide +kernel
theorem d_Model_replaced_59 : decode c_Model_replaced 59 = .ok (.iload 5, 2) := by decide +kernel
theorem d_Model_replaced_61 : decode c_Model_replaced 61 = .ok (.istore 5, 2) := by decide +kernel
theorem d_Model_replaced_63 : decode c_Model_replaced 63 = .ok (.iinc 6 (1), 3) := by decide +kernel
theorem d_Model_replaced_66 : decode c_Model_replaced 66 = .ok (.goto (-48), 3) := by decide +kernel
theorem d_Model_replaced_69 : decode c_Model_replaced 69 = .ok (.iload 5, 2) := by decide +kernel
theorem d_Model_replaced_71 : decode c_Model_replaced 71 = .ok (.istore_n 3, 1) := by decide +kernel
theorem d_Model_replaced_72 : decode c_Model_replaced 72 = .ok (.iinc 4 (1), 3) := by decide +kernel
theorem d_Model_replaced_75 : decode c_Model_replaced 75 = .ok (.goto (-70), 3) := by decide +kernel
theorem d_Model_replaced_78 : decode c_Model_replaced 78 = .ok (.iload_n 3, 1) := by decide +kernel
theorem d_Model_replaced_79 : decode c_Model_replaced 79 = .ok (.ireturn, 1) := by decide +kernel
def sh_Model_replaced_61 (F : Nat) (k5 : Nat → Int32 → Int32 → Int32 → im_W → Option (Int32 × im_W)) (k18 : Nat → Int32 → Int32 → Int32 → Int32 → Int32 → im_W → Option (Int32 × im_W)) (x0 : Nat) (x2 : Int32) (x3 : Int32) (x4 : Int32) (x6 : Int32) (y0 : Int32) (w : im_W) : Option (Int32 × im_W) :=
  k18 x0 x2 x3 x4 y0 (x6 + (1 : Int32)) w
set_option maxHeartbeats 4000000 in
set_option maxRecDepth 100000 in
theorem bk_Model_replaced_61 {F : Nat} {r : Int32 × im_W} (X : im_X D vwCl tA lo im_NW c_Model_replaced 7 (some .int) RC_Model im_T p s m args meth c) {k5 : Nat → Int32 → Int32 → Int32 → im_W → Option (Int32 × im_W)} (hk5 : ∀ (x0 : Nat) (x2 : Int32) (x3 : Int32) (x4 : Int32) (w : im_W), k5 x0 x2 x3 x4 w = some r → im_WW D vwCl tA lo 7 p l e (im_rm 0 0) s m args below meth c 0 0 (MQ below (im_Post D vwCl tA lo (some (.int r.1)) r.2) args s 0 0 (fun q => lo ≤ q)) 5 [(0, .ref (lo + x0)), (2, .int x2), (3, .int x3), (4, .int x4)] [] w) {k18 : Nat → Int32 → Int32 → Int32 → Int32 → Int32 → im_W → Option (Int32 × im_W)} (hk18 : ∀ (x0 : Nat) (x2 : Int32) (x3 : Int32) (x4 : Int32) (x5 : Int32) (x6 : Int32) (w : im_W), k18 x0 x2 x3 x4 x5 x6 w = some r → im_WW D vwCl tA lo 7 p l e (im_rm 0 0) s m args below meth c 0 0 (MQ below (im_Post D vwCl tA lo (some (.int r.1)) r.2) args s 0 0 (fun q => lo ≤ q)) 18 [(0, .ref (lo + x0)), (2, .int x2), (3, .int x3), (4, .int x4), (5, .int x5), (6, .int x6)] [] w) (x0 : Nat) (x2 : Int32) (x3 : Int32) (x4 : Int32) (x6 : Int32) (y0 : Int32) (w : im_W) (hsh : sh_Model_replaced_61 F k5 k18 x0 x2 x3 x4 x6 y0 w = some r) : im_WW D vwCl tA lo 7 p l e (im_rm 0 0) s m args below meth c 0 0 (MQ below (im_Post D vwCl tA lo (some (.int r.1)) r.2) args s 0 0 (fun q => lo ≤ q)) 61 [(0, .ref (lo + x0)), (2, .int x2), (3, .int x3), (4, .int x4), (6, .int x6)] [.int y0] w := by
  obtain ⟨hx, hb, hr, hts, hown, hlk, hml, hK, hN⟩ := id X
  intro H locs ls hH hl
  unfold sh_Model_replaced_61 at hsh
  refine lv_istore (lv' := [(5, .int y0), (0, .ref (lo + x0)), (2, .int x2), (3, .int x3), (4, .int x4), (6, .int x6)]) hx hb d_Model_replaced_61 hl (by decide) rfl (fun ls hl => ?_)
  refine lv_iinc (v := (x6 + (1 : Int32))) (lv' := [(6, .int (x6 + (1 : Int32))), (5, .int y0), (0, .ref (lo + x0)), (2, .int x2), (3, .int x3), (4, .int x4)]) hx hb d_Model_replaced_63 hl (k := 5) rfl rfl (by decide) rfl (fun ls hl => ?_)
  refine lv_goto (tgt := 18) hx hb d_Model_replaced_66 (by decide) ?_
  exact hk18 x0 x2 x3 x4 y0 (x6 + (1 : Int32)) w hsh H locs ls hH (lv_sub hl [2, 3, 4, 5, 1, 0] rfl)
def sh_Model_replaced_59 (F : Nat) (k5 : Nat → Int32 → Int32 → Int32 → im_W → Option (Int32 × im_W)) (k18 : Nat → Int32 → Int32 → Int32 → Int32 → Int32 → im_W → Option (Int32 × im_W)) (x0 : Nat) (x2 : Int32) (x3 : Int32) (x4 : Int32) (x5 : Int32) (x6 : Int32) (w : im_W) : Option (Int32 × im_W) :=
  sh_Model_replaced_61 F k5 k18 x0 x2 x3 x4 x6 x5 w
set_option maxHeartbeats 4000000 in
set_option maxRecDepth 100000 in
theorem bk_Model_replaced_59 {F : Nat} {r : Int32 × im_W} (X : im_X D vwCl tA lo im_NW c_Model_replaced 7 (some .int) RC_Model im_T p s m args meth c) {k5 : Nat → Int32 → Int32 → Int32 → im_W → Option (Int32 × im_W)} (hk5 : ∀ (x0 : Nat) (x2 : Int32) (x3 : Int32) (x4 : Int32) (w : im_W), k5 x0 x2 x3 x4 w = some r → im_WW D vwCl tA lo 7 p l e (im_rm 0 0) s m args below meth c 0 0 (MQ below (im_Post D vwCl tA lo (some (.int r.1)) r.2) args s 0 0 (fun q => lo ≤ q)) 5 [(0, .ref (lo + x0)), (2, .int x2), (3, .int x3), (4, .int x4)] [] w) {k18 : Nat → Int32 → Int32 → Int32 → Int32 → Int32 → im_W → Option (Int32 × im_W)} (hk18 : ∀ (x0 : Nat) (x2 : Int32) (x3 : Int32) (x4 : Int32) (x5 : Int32) (x6 : Int32) (w : im_W), k18 x0 x2 x3 x4 x5 x6 w = some r → im_WW D vwCl tA lo 7 p l e (im_rm 0 0) s m args below meth c 0 0 (MQ below (im_Post D vwCl tA lo (some (.int r.1)) r.2) args s 0 0 (fun q => lo ≤ q)) 18 [(0, .ref (lo + x0)), (2, .int x2), (3, .int x3), (4, .int x4), (5, .int x5), (6, .int x6)] [] w) (x0 : Nat) (x2 : Int32) (x3 : Int32) (x4 : Int32) (x5 : Int32) (x6 : Int32) (w : im_W) (hsh : sh_Model_replaced_59 F k5 k18 x0 x2 x3 x4 x5 x6 w = some r) : im_WW D vwCl tA lo 7 p l e (im_rm 0 0) s m args below meth c 0 0 (MQ below (im_Post D vwCl tA lo (some (.int r.1)) r.2) args s 0 0 (fun q => lo ≤ q)) 59 [(0, .ref (lo + x0)), (2, .int x2), (3, .int x3), (4, .int x4), (5, .int x5), (6, .int x6)] [] w := by
  obtain ⟨hx, hb, hr, hts, hown, hlk, hml, hK, hN⟩ := id X
  intro H locs ls hH hl
  unfold sh_Model_replaced_59 at hsh
  refine lv_iload hx hb d_Model_replaced_59 (lv_at hl 4 rfl) ?_
  exact bk_Model_replaced_61 X hk5 hk18 x0 x2 x3 x4 x6 x5 w hsh H locs ls hH (lv_sub hl [0, 1, 2, 3, 5] rfl)
def sh_Model_replaced_18 (F : Nat) (k5 : Nat → Int32 → Int32 → Int32 → im_W → Option (Int32 × im_W)) : Nat → Nat → Int32 → Int32 → Int32 → Int32 → Int32 → im_W → Option (Int32 × im_W)
  | 0, _, _, _, _, _, _, _ => none
  | f + 1, x0, x2, x3, x4, x5, x6, w => (im_gI w 9 x0 17).bind fun f1 => (if f1 ≤ x6 then k5 x0 x2 x5 (x4 + (1 : Int32)) w else (im_gR w 9 x0 20).bind fun f3 => (im_lI w 3 f3 x6).bind fun e5 => (if e5 = x2 then (im_gR w 9 x0 18).bind fun f7 => (im_lI w 0 f7 x6).bind fun e9 => (if e9 = x3 then (im_gR w 9 x0 19).bind fun f11 => (im_lI w 0 f11 x6).bind fun e13 => sh_Model_replaced_61 F k5 (sh_Model_replaced_18 F k5 f) x0 x2 x3 x4 x6 e13 w else sh_Model_replaced_59 F k5 (sh_Model_replaced_18 F k5 f) x0 x2 x3 x4 x5 x6 w) else sh_Model_replaced_59 F k5 (sh_Model_replaced_18 F k5 f) x0 x2 x3 x4 x5 x6 w))
set_option maxHeartbeats 4000000 in
set_option maxRecDepth 100000 in
theorem bk_Model_replaced_18 {F : Nat} {r : Int32 × im_W} (X : im_X D vwCl tA lo im_NW c_Model_replaced 7 (some .int) RC_Model im_T p s m args meth c) {k5 : Nat → Int32 → Int32 → Int32 → im_W → Option (Int32 × im_W)} (hk5 : ∀ (x0 : Nat) (x2 : Int32) (x3 : Int32) (x4 : Int32) (w : im_W), k5 x0 x2 x3 x4 w = some r → im_WW D vwCl tA lo 7 p l e (im_rm 0 0) s m args below meth c 0 0 (MQ below (im_Post D vwCl tA lo (some (.int r.1)) r.2) args s 0 0 (fun q => lo ≤ q)) 5 [(0, .ref (lo + x0)), (2, .int x2), (3, .int x3), (4, .int x4)] [] w) : ∀ (f : Nat) (x0 : Nat) (x2 : Int32) (x3 : Int32) (x4 : Int32) (x5 : Int32) (x6 : Int32) (w : im_W), sh_Model_replaced_18 F k5 f x0 x2 x3 x4 x5 x6 w = some r → im_WW D vwCl tA lo 7 p l e (im_rm 0 0) s m args below meth c 0 0 (MQ below (im_Post D vwCl tA lo (some (.int r.1)) r.2) args s 0 0 (fun q => lo ≤ q)) 18 [(0, .ref (lo + x0)), (2, .int x2), (3, .int x3), (4, .int x4), (5, .int x5), (6, .int x6)] [] w := by
  obtain ⟨hx, hb, hr, hts, hown, hlk, hml, hK, hN⟩ := id X
  intro f
  induction f with
  | zero =>
    intro x0 x2 x3 x4 x5 x6 w hsh
    cases hsh
  | succ f ih =>
    intro x0 x2 x3 x4 x5 x6 w hsh H locs ls hH hl
    unfold sh_Model_replaced_18 at hsh
    refine lv_iload hx hb d_Model_replaced_18 (lv_at hl 5 rfl) ?_
    refine lv_aload_n hx hb d_Model_replaced_20 rfl (lv_at hl 0 rfl) ?_
    obtain ⟨f1, h2, hsh⟩ := im_bd hsh
    refine im_getI hx hb hts inC_Model hown hK hH (ci := 9) rfl 17 (by decide) (hts _ wd_648) rfl h2 d_Model_replaced_21 ?_
    refine lv_icmp_ge (tgt := 69) hx hb d_Model_replaced_24 (by decide) (fun cc => ?_) (fun cc => ?_)
    · have hsh := im_it hsh cc
      refine lv_iload hx hb d_Model_replaced_69 (lv_at hl 4 rfl) ?_
      refine lv_istore_n (lv' := [(3, .int x5), (0, .ref (lo + x0)), (2, .int x2), (4, .int x4), (5, .int x5), (6, .int x6)]) hx hb d_Model_replaced_71 rfl hl (by decide) rfl (fun ls hl => ?_)
      refine lv_iinc (v := (x4 + (1 : Int32))) (lv' := [(4, .int (x4 + (1 : Int32))), (3, .int x5), (0, .ref (lo + x0)), (2, .int x2), (5, .int x5), (6, .int x6)]) hx hb d_Model_replaced_72 hl (k := 3) rfl rfl (by decide) rfl (fun ls hl => ?_)
      refine lv_goto (tgt := 5) hx hb d_Model_replaced_75 (by decide) ?_
      exact hk5 x0 x2 x5 (x4 + (1 : Int32)) w hsh H locs ls hH (lv_sub hl [2, 3, 1, 0] rfl)
    · have hsh := im_if hsh cc
      refine lv_aload_n hx hb d_Model_replaced_27 rfl (lv_at hl 0 rfl) ?_
      obtain ⟨f3, h4, hsh⟩ := im_bd hsh
      refine im_getR hx hb hts inC_Model hown hK hH (ci := 9) rfl 20 (by decide) (hts _ wd_651) rfl h4 d_Model_replaced_28 ?_
      refine lv_iload hx hb d_Model_replaced_31 (lv_at hl 5 rfl) ?_
      obtain ⟨e5, h6, hsh⟩ := im_bd hsh
      refine im_zald hx hb hK hH h6 d_Model_replaced_33 ?_
      refine lv_iload_n hx hb d_Model_replaced_34 rfl (lv_at hl 1 rfl) ?_
      refine lv_icmp_ne (tgt := 59) hx hb d_Model_replaced_35 (by decide) (fun cc => ?_) (fun cc => ?_)
      · have hsh := im_if hsh cc
        exact bk_Model_replaced_59 X hk5 ih x0 x2 x3 x4 x5 x6 w hsh H locs ls hH (lv_sub hl [0, 1, 2, 3, 4, 5] rfl)
      · have hsh := im_it hsh cc
        refine lv_aload_n hx hb d_Model_replaced_38 rfl (lv_at hl 0 rfl) ?_
        obtain ⟨f7, h8, hsh⟩ := im_bd hsh
        refine im_getR hx hb hts inC_Model hown hK hH (ci := 9) rfl 18 (by decide) (hts _ wd_649) rfl h8 d_Model_replaced_39 ?_
        refine lv_iload hx hb d_Model_replaced_42 (lv_at hl 5 rfl) ?_
        obtain ⟨e9, h10, hsh⟩ := im_bd hsh
        refine im_iald hx hb hK hH h10 d_Model_replaced_44 ?_
        refine lv_iload_n hx hb d_Model_replaced_45 rfl (lv_at hl 2 rfl) ?_
        refine lv_icmp_ne (tgt := 59) hx hb d_Model_replaced_46 (by decide) (fun cc => ?_) (fun cc => ?_)
        · have hsh := im_if hsh cc
          exact bk_Model_replaced_59 X hk5 ih x0 x2 x3 x4 x5 x6 w hsh H locs ls hH (lv_sub hl [0, 1, 2, 3, 4, 5] rfl)
        · have hsh := im_it hsh cc
          refine lv_aload_n hx hb d_Model_replaced_49 rfl (lv_at hl 0 rfl) ?_
          obtain ⟨f11, h12, hsh⟩ := im_bd hsh
          refine im_getR hx hb hts inC_Model hown hK hH (ci := 9) rfl 19 (by decide) (hts _ wd_650) rfl h12 d_Model_replaced_50 ?_
          refine lv_iload hx hb d_Model_replaced_53 (lv_at hl 5 rfl) ?_
          obtain ⟨e13, h14, hsh⟩ := im_bd hsh
          refine im_iald hx hb hK hH h14 d_Model_replaced_55 ?_
          refine lv_goto (tgt := 61) hx hb d_Model_replaced_56 (by decide) ?_
          exact bk_Model_replaced_61 X hk5 ih x0 x2 x3 x4 x6 e13 w hsh H locs ls hH (lv_sub hl [0, 1, 2, 3, 5] rfl)
def sh_Model_replaced_5 (F : Nat) : Nat → Nat → Int32 → Int32 → Int32 → im_W → Option (Int32 × im_W)
  | 0, _, _, _, _, _ => none
  | f + 1, x0, x2, x3, x4, w => (if (9 : Int32) ≤ x4 then some (x3, w) else sh_Model_replaced_18 F (sh_Model_replaced_5 F f) F x0 x2 x3 x4 x3 (0 : Int32) w)
set_option maxHeartbeats 4000000 in
set_option maxRecDepth 100000 in
theorem bk_Model_replaced_5 {F : Nat} {r : Int32 × im_W} (X : im_X D vwCl tA lo im_NW c_Model_replaced 7 (some .int) RC_Model im_T p s m args meth c) : ∀ (f : Nat) (x0 : Nat) (x2 : Int32) (x3 : Int32) (x4 : Int32) (w : im_W), sh_Model_replaced_5 F f x0 x2 x3 x4 w = some r → im_WW D vwCl tA lo 7 p l e (im_rm 0 0) s m args below meth c 0 0 (MQ below (im_Post D vwCl tA lo (some (.int r.1)) r.2) args s 0 0 (fun q => lo ≤ q)) 5 [(0, .ref (lo + x0)), (2, .int x2), (3, .int x3), (4, .int x4)] [] w := by
  obtain ⟨hx, hb, hr, hts, hown, hlk, hml, hK, hN⟩ := id X
  intro f
  induction f with
  | zero =>
    intro x0 x2 x3 x4 w hsh
    cases hsh
  | succ f ih =>
    intro x0 x2 x3 x4 w hsh H locs ls hH hl
    unfold sh_Model_replaced_5 at hsh
    refine lv_iload hx hb d_Model_replaced_5 (lv_at hl 3 rfl) ?_
    refine lv_bipush (v := 9) hx hb d_Model_replaced_7 (by decide) ?_
    refine lv_icmp_ge (tgt := 78) hx hb d_Model_replaced_9 (by decide) (fun cc => ?_) (fun cc => ?_)
    · have hsh := im_it hsh cc
      refine lv_iload_n hx hb d_Model_replaced_78 rfl (lv_at hl 2 rfl) ?_
      obtain rfl := Option.some.inj hsh
      exact im_iret hx hb hr hlk hH d_Model_replaced_79
    · have hsh := im_if hsh cc
      refine lv_iload_n hx hb d_Model_replaced_12 rfl (lv_at hl 2 rfl) ?_
      refine lv_istore (lv' := [(5, .int x3), (0, .ref (lo + x0)), (2, .int x2), (3, .int x3), (4, .int x4)]) hx hb d_Model_replaced_13 hl (by decide) rfl (fun ls hl => ?_)
      refine lv_iconst (v := 0) hx hb d_Model_replaced_15 (by decide) ?_
      refine lv_istore (lv' := [(6, .int (0 : Int32)), (5, .int x3), (0, .ref (lo + x0)), (2, .int x2), (3, .int x3), (4, .int x4)]) hx hb d_Model_replaced_16 hl (by decide) rfl (fun ls hl => ?_)
      exact bk_Model_replaced_18 X ih F x0 x2 x3 x4 x3 (0 : Int32) w hsh H locs ls hH (lv_sub hl [2, 3, 4, 5, 1, 0] rfl)
def sh_Model_replaced (F : Nat) (x0 : Nat) (x1 : Int32) (x2 : Int32) (w : im_W) : Option (Int32 × im_W) :=
  sh_Model_replaced_5 F F x0 x2 x1 (0 : Int32) w
set_option maxHeartbeats 4000000 in
set_option maxRecDepth 100000 in
theorem met_Model_replaced {F : Nat} {x0 : Nat} {x1 : Int32} {x2 : Int32} {w : im_W} {r : Int32 × im_W} (hsh : sh_Model_replaced F x0 x1 x2 w = some r) : Met l y_Model_replaced (Cond.code y_Model_replaced c_Model_replaced 7 (some .int) :: im_T) (im_rm 0 0) (im_Pre D vwCl tA lo im_NW [.ref (lo + x0), .int x1, .int x2] w) (im_Post D vwCl tA lo (some (.int r.1)) r.2) 0 0 (fun q => lo ≤ q) := by
  refine im_ofW (cc := c_Model_replaced) (nL := 7) (ret := (some .int)) (by decide) (Nat.le_of_ble_eq_true rfl) ?_
  intro p e s m args below meth c X H locs ls hH hl
  obtain ⟨hx, hb, hr, hts, hown, hlk, hml, hK, hN⟩ := id X
  have hl : lv_has ls 7 [(0, .ref (lo + x0)), (1, .int x1), (2, .int x2)] := hl
  unfold sh_Model_replaced at hsh
  refine lv_iload_n hx hb d_Model_replaced_0 rfl (lv_at hl 1 rfl) ?_
  refine lv_istore_n (lv' := [(3, .int x1), (0, .ref (lo + x0)), (1, .int x1), (2, .int x2)]) hx hb d_Model_replaced_1 rfl hl (by decide) rfl (fun ls hl => ?_)
  refine lv_iconst (v := 0) hx hb d_Model_replaced_2 (by decide) ?_
  refine lv_istore (lv' := [(4, .int (0 : Int32)), (3, .int x1), (0, .ref (lo + x0)), (1, .int x1), (2, .int x2)]) hx hb d_Model_replaced_3 hl (by decide) rfl (fun ls hl => ?_)
  exact bk_Model_replaced_5 X F x0 x2 x1 (0 : Int32) w hsh H locs ls hH (lv_sub hl [2, 4, 1, 0] rfl)
theorem wd_816 : (Jvm.Cond.methodLink "LanguageTagsModel" (170 : Nat) ({ cls := "LanguageTagsModel", name := "replaced", desc := "(IZ)I" } : Jvm.MethodName)) ∈ im_T := im_memT (i := 816) (by decide +kernel) (by decide +kernel)
theorem wd_818 : (Jvm.Cond.instanceMethod ({ cls := "LanguageTagsModel", name := "replaced", desc := "(IZ)I" } : Jvm.MethodName)) ∈ im_T := im_memT (i := 818) (by decide +kernel) (by decide +kernel)
theorem wd_819 : (Jvm.Cond.code ({ cls := "LanguageTagsModel", name := "replaced", desc := "(IZ)I" } : Jvm.MethodName) prog_12_method_21_code (7 : Nat) (Option.some Jvm.ClassFile.FieldType.int)) ∈ im_T := im_memT (i := 819) (by decide +kernel) (by decide +kernel)
theorem wd_828 : (Jvm.Cond.methodLink "LanguageTagsModel" (167 : Nat) ({ cls := "LanguageTagsModel", name := "stand", desc := "(III)I" } : Jvm.MethodName)) ∈ im_T := im_memT (i := 828) (by decide +kernel) (by decide +kernel)
theorem wd_830 : (Jvm.Cond.instanceMethod ({ cls := "LanguageTagsModel", name := "stand", desc := "(III)I" } : Jvm.MethodName)) ∈ im_T := im_memT (i := 830) (by decide +kernel) (by decide +kernel)
theorem wd_831 : (Jvm.Cond.code ({ cls := "LanguageTagsModel", name := "stand", desc := "(III)I" } : Jvm.MethodName) prog_12_method_17_code (5 : Nat) (Option.some Jvm.ClassFile.FieldType.int)) ∈ im_T := im_memT (i := 831) (by decide +kernel) (by decide +kernel)
theorem d_Model_parse_0 : decode c_Model_parse 0 = .ok (.aload_n 0, 1) := by decide +kernel
theorem d_Model_parse_1 : decode c_Model_parse 1 = .ok (.iconst 0, 1) := by decide +kernel
theorem d_Model_parse_2 : decode c_Model_parse 2 = .ok (.putfield 122, 3) := by decide +kernel
theorem d_Model_parse_5 : decode c_Model_parse 5 = .ok (.aload_n 0, 1) := by decide +kernel
theorem d_Model_parse_6 : decode c_Model_parse 6 = .ok (.iconst 0, 1) := by decide +kernel
theorem d_Model_parse_7 : decode c_Model_parse 7 = .ok (.putfield 128, 3) := by decide +kernel
theorem d_Model_parse_10 : decode c_Model_parse 10 = .ok (.aload_n 0, 1) := by decide +kernel
theorem d_Model_parse_11 : decode c_Model_parse 11 = .ok (.iconst 0, 1) := by decide +kernel
theorem d_Model_parse_12 : decode c_Model_parse 12 = .ok (.putfield 134, 3) := by decide +kernel
theorem d_Model_parse_15 : decode c_Model_parse 15 = .ok (.aload_n 0, 1) := by decide +kernel
theorem d_Model_parse_16 : decode c_Model_parse 16 = .ok (.iconst 0, 1) := by decide +kernel
theorem d_Model_parse_17 : decode c_Model_parse 17 = .ok (.putfield 154, 3) := by decide +kernel
theorem d_Model_parse_20 : decode c_Model_parse 20 = .ok (.aload_n 0, 1) := by decide +kernel
theorem d_Model_parse_21 : decode c_Model_parse 21 = .ok (.iconst 0, 1) := by decide +kernel
theorem d_Model_parse_22 : decode c_Model_parse 22 = .ok (.putfield 161, 3) := by decide +kernel
theorem d_Model_parse_25 : decode c_Model_parse 25 = .ok (.aload_n 0, 1) := by decide +kernel
theorem d_Model_parse_26 : decode c_Model_parse 26 = .ok (.iconst (-1), 1) := by decide +kernel
theorem d_Model_parse_27 : decode c_Model_parse 27 = .ok (.putfield 141, 3) := by decide +kernel
theorem d_Model_parse_30 : decode c_Model_parse 30 = .ok (.iconst 0, 1) := by decide +kernel
theorem d_Model_parse_31 : decode c_Model_parse 31 = .ok (.istore_n 3, 1) := by decide +kernel
theorem d_Model_parse_32 : decode c_Model_parse 32 = .ok (.iload_n 1, 1) := by decide +kernel
theorem d_Model_parse_33 : decode c_Model_parse 33 = .ok (.istore 4, 2) := by decide +kernel
theorem d_Model_parse_35 : decode c_Model_parse 35 = .ok (.iload_n 1, 1) := by decide +kernel
theorem d_Model_parse_36 : decode c_Model_parse 36 = .ok (.istore 5, 2) := by decide +kernel
theorem d_Model_parse_38 : decode c_Model_parse 38 = .ok (.iload 5, 2) := by decide +kernel
theorem d_Model_parse_40 : decode c_Model_parse 40 = .ok (.iload_n 2, 1) := by decide +kernel
theorem d_Model_parse_41 : decode c_Model_parse 41 = .ok (.if_icmp .gt (62), 3) := by decide +kernel
theorem d_Model_parse_44 : decode c_Model_parse 44 = .ok (.iload 5, 2) := by decide +kernel
theorem d_Model_parse_46 : decode c_Model_parse 46 = .ok (.iload_n 2, 1) := by decide +kernel
theorem d_Model_parse_47 : decode c_Model_parse 47 = .ok (.if_icmp .eq (27), 3) := by decide +kernel
theorem d_Model_parse_50 : decode c_Model_parse 50 = .ok (.aload_n 0, 1) := by decide +kernel
theorem d_Model_parse_51 : decode c_Model_parse 51 = .ok (.getfield 7, 3) := by decide +kernel
theorem d_Model_parse_54 : decode c_Model_parse 54 = .ok (.iload 5, 2) := by decide +kernel
theorem d_Model_parse_56 : decode c_Model_parse 56 = .ok (.caload, 1) := by decide +kernel
theorem d_Model_parse_57 : decode c_Model_parse 57 = .ok (.bipush (45), 2) := by decide +kernel
theorem d_Model_parse_59 : decode c_Model_parse 59 = .ok (.if_icmp .eq (15), 3) := by decide +kernel
theorem d_Model_parse_62 : decode c_Model_parse 62 = .ok (.aload_n 0, 1) := by decide +kernel
theorem d_Model_parse_63 : decode c_Model_parse 63 = .ok (.getfield 7, 3) := by decide +kernel
theorem d_Model_parse_66 : decode c_Model_parse 66 = .ok (.iload 5, 2) := by decide +kernel
theorem d_Model_parse_68 : decode c_Model_parse 68 = .ok (.caload, 1) := by decide +kernel
theorem d_Model_parse_69 : decode c_Model_parse 69 = .ok (.bipush (95), 2) := by decide +kernel
theorem d_Model_parse_71 : decode c_Model_parse 71 = .ok (.if_icmp .ne (26), 3) := by decide +kernel
theorem d_Model_parse_74 : decode c_Model_parse 74 = .ok (.aload_n 0, 1) := by decide +kernel
theorem d_Model_parse_75 : decode c_Model_parse 75 = .ok (.iload_n 3, 1) := by decide +kernel
theorem d_Model_parse_76 : decode c_Model_parse 76 = .ok (.iload 4, 2) := by decide +kernel
theorem d_Model_parse_78 : decode c_Model_parse 78 = .ok (.iload 5, 2) := by decide +kernel
theorem d_Model_parse_80 : decode c_Model_parse 80 = .ok (.invokevirtual 167, 3) := by decide +kernel
theorem d_Model_parse_83 : decode c_Model_parse 83 = .ok (.istore_n 3, 1) := by decide +kernel
theorem d_Model_parse_84 : decode c_Model_parse 84 = .ok (.iload_n 3, 1) := by decide +kernel
theorem d_Model_parse_85 : decode c_Model_parse 85 = .ok (.ifCond .ge (6), 3) := by decide +kernel
theorem d_Model_parse_88 : decode c_Model_parse 88 = .ok (.iload 4, 2) := by decide +kernel
theorem d_Model_parse_90 : decode c_Model_parse 90 = .ok (.ireturn, 1) := by decide +kernel
theorem d_Model_parse_91 : decode c_Model_parse 91 = .ok (.iload 5, 2) := by decide +kernel
theorem d_Model_parse_93 : decode c_Model_parse 93 = .ok (.iconst 1, 1) := by decide +kernel
theorem d_Model_parse_94 : decode c_Model_parse 94 = .ok (.iadd, 1) := by decide +kernel
theorem d_Model_parse_95 : decode c_Model_parse 95 = .ok (.istore 4, 2) := by decide +kernel
theorem d_Model_parse_97 : decode c_Model_parse 97 = .ok (.iinc 5 (1), 3) := by decide +kernel
theorem d_Model_parse_100 : decode c_Model_parse 100 = .ok (.goto (-62), 3) := by decide +kernel
theorem d_Model_parse_103 : decode c_Model_parse 103 = .ok (.aload_n 0, 1) := by decide +kernel
theorem d_Model_parse_104 : decode c_Model_parse 104 = .ok (.aload_n 0, 1) := by decide +kernel
theorem d_Model_parse_105 : decode c_Model_parse 105 = .ok (.aload_n 0, 1) := by decide +kernel
theorem d_Model_parse_106 : decode c_Model_parse 106 = .ok (.getfield 122, 3) := by decide +kernel
theorem d_Model_parse_109 : decode c_Model_parse 109 = .ok (.iconst 0, 1) := by decide +kernel
theorem d_Model_parse_110 : decode c_Model_parse 110 = .ok (.invokevirtual 170, 3) := by decide +kernel
theorem d_Model_parse_113 : decode c_Model_parse 113 = .ok (.putfield 122, 3) := by decide +kernel
theorem d_Model_parse_116 : decode c_Model_parse 116 = .ok (.aload_n 0, 1) := by decide +kernel
theorem d_Model_parse_117 : decode c_Model_parse 117 = .ok (.aload_n 0, 1) := by decide +kernel
theorem d_Model_parse_118 : decode c_Model_parse 118 = .ok (.getfield 134, 3) := by decide +kernel
theorem d_Model_parse_121 : decode c_Model_parse 121 = .ok (.ifCond .le (15), 3) := by decide +kernel
theorem d_Model_parse_124 : decode c_Model_parse 124 = .ok (.aload_n 0, 1) := by decide +kernel
theorem d_Model_parse_125 : decode c_Model_parse 125 = .ok (.aload_n 0, 1) := by decide +kernel
theorem d_Model_parse_126 : decode c_Model_parse 126 = .ok (.getfield 134, 3) := by decide +kernel
theorem d_Model_parse_129 : decode c_Model_parse 129 = .ok (.iconst 1, 1) := by decide +kernel
theorem d_Model_parse_130 : decode c_Model_parse 130 = .ok (.invokevirtual 170, 3) := by decide +kernel
theorem d_Model_parse_133 : decode c_Model_parse 133 = .ok (.goto (4), 3) := by decide +kernel
theorem d_Model_parse_136 : decode c_Model_parse 136 = .ok (.iconst 0, 1) := by decide +kernel
theorem d_Model_parse_137 : decode c_Model_parse 137 = .ok (.putfield 134, 3) := by decide +kernel
theorem d_Model_parse_140 : decode c_Model_parse 140 = .ok (.iload_n 3, 1) := by decide +kernel
theorem d_Model_parse_141 : decode c_Model_parse 141 = .ok (.iconst 4, 1) := by decide +kernel
theorem d_Model_parse_142 : decode c_Model_parse 142 = .ok (.if_icmp .eq (9), 3) := by decide +kernel
theorem d_Model_parse_145 : decode c_Model_parse 145 = .ok (.iload_n 3, 1) := by decide +kernel
theorem d_Model_parse_146 : decode c_Model_parse 146 = .ok (.bipush (6), 2) := by decide +kernel
theorem d_Model_parse_148 : decode c_Model_parse 148 = .ok (.if_icmp .ne (7), 3) := by decide +kernel
theorem d_Model_parse_151 : decode c_Model_parse 151 = .ok (.iload_n 2, 1) := by decide +kernel
theorem d_Model_parse_152 : decode c_Model_parse 152 = .ok (.goto (4), 3) := by decide +kernel
theorem d_Model_parse_155 : decode c_Model_parse 155 = .ok (.iconst (-1), 1) := by decide +kernel
theorem d_Model_parse_156 : decode c_Model_parse 156 = .ok (.ireturn, 1) := by decide +kernel
def sh_Model_parse_97 (F : Nat) (k38 : Nat → Int32 → Int32 → Int32 → Int32 → im_W → Option (Int32 × im_W)) (x0 : Nat) (x2 : Int32) (x3 : Int32) (x4 : Int32) (x5 : Int32) (w : im_W) : Option (Int32 × im_W) :=
  k38 x0 x2 x3 x4 (x5 + (1 : Int32)) w
set_option maxHeartbeats 4000000 in
set_option maxRecDepth 100000 in
theorem bk_Model_parse_97 {F : Nat} {r : Int32 × im_W} (X : im_X D vwCl tA lo im_NW c_Model_parse 6 (some .int) RC_Model im_T p s m args meth c) {k38 : Nat → Int32 → Int32 → Int32 → Int32 → im_W → Option (Int32 × im_W)} (hk38 : ∀ (x0 : Nat) (x2 : Int32) (x3 : Int32) (x4 : Int32) (x5 : Int32) (w : im_W), k38 x0 x2 x3 x4 x5 w = some r → im_WW D vwCl tA lo 6 p l e (im_rm 6 137) s m args below meth c 0 0 (MQ below (im_Post D vwCl tA lo (some (.int r.1)) r.2) args s 0 0 (fun q => lo ≤ q)) 38 [(0, .ref (lo + x0)), (2, .int x2), (3, .int x3), (4, .int x4), (5, .int x5)] [] w) (x0 : Nat) (x2 : Int32) (x3 : Int32) (x4 : Int32) (x5 : Int32) (w : im_W) (hsh : sh_Model_parse_97 F k38 x0 x2 x3 x4 x5 w = some r) : im_WW D vwCl tA lo 6 p l e (im_rm 6 137) s m args below meth c 0 0 (MQ below (im_Post D vwCl tA lo (some (.int r.1)) r.2) args s 0 0 (fun q => lo ≤ q)) 97 [(0, .ref (lo + x0)), (2, .int x2), (3, .int x3), (4, .int x4), (5, .int x5)] [] w := by
  obtain ⟨hx, hb, hr, hts, hown, hlk, hml, hK, hN⟩ := id X
  intro H locs ls hH hl
  unfold sh_Model_parse_97 at hsh
  refine lv_iinc (v := (x5 + (1 : Int32))) (lv' := [(5, .int (x5 + (1 : Int32))), (0, .ref (lo + x0)), (2, .int x2), (3, .int x3), (4, .int x4)]) hx hb d_Model_parse_97 hl (k := 4) rfl rfl (by decide) rfl (fun ls hl => ?_)
  refine lv_goto (tgt := 38) hx hb d_Model_parse_100 (by decide) ?_
  exact hk38 x0 x2 x3 x4 (x5 + (1 : Int32)) w hsh H locs ls hH (lv_sub hl [1, 2, 3, 4, 0] rfl)
def sh_Model_parse_74 (F : Nat) (k38 : Nat → Int32 → Int32 → Int32 → Int32 → im_W → Option (Int32 × im_W)) (x0 : Nat) (x2 : Int32) (x3 : Int32) (x4 : Int32) (x5 : Int32) (w : im_W) : Option (Int32 × im_W) :=
  (im_is w 9 x0).bind fun u1 => im_b2 (sh_Model_stand F x0 x3 x4 x5 w) fun v7 w5 => (if 0 ≤ v7 then sh_Model_parse_97 F k38 x0 x2 v7 (x5 + (1 : Int32)) x5 w5 else some (x4, w5))
set_option maxHeartbeats 4000000 in
set_option maxRecDepth 100000 in
theorem bk_Model_parse_74 {F : Nat} {r : Int32 × im_W} (X : im_X D vwCl tA lo im_NW c_Model_parse 6 (some .int) RC_Model im_T p s m args meth c) {k38 : Nat → Int32 → Int32 → Int32 → Int32 → im_W → Option (Int32 × im_W)} (hk38 : ∀ (x0 : Nat) (x2 : Int32) (x3 : Int32) (x4 : Int32) (x5 : Int32) (w : im_W), k38 x0 x2 x3 x4 x5 w = some r → im_WW D vwCl tA lo 6 p l e (im_rm 6 137) s m args below meth c 0 0 (MQ below (im_Post D vwCl tA lo (some (.int r.1)) r.2) args s 0 0 (fun q => lo ≤ q)) 38 [(0, .ref (lo + x0)), (2, .int x2), (3, .int x3), (4, .int x4), (5, .int x5)] [] w) (x0 : Nat) (x2 : Int32) (x3 : Int32) (x4 : Int32) (x5 : Int32) (w : im_W) (hsh : sh_Model_parse_74 F k38 x0 x2 x3 x4 x5 w = some r) : im_WW D vwCl tA lo 6 p l e (im_rm 6 137) s m args below meth c 0 0 (MQ below (im_Post D vwCl tA lo (some (.int r.1)) r.2) args s 0 0 (fun q => lo ≤ q)) 74 [(0, .ref (lo + x0)), (2, .int x2), (3, .int x3), (4, .int x4), (5, .int x5)] [] w := by
  obtain ⟨hx, hb, hr, hts, hown, hlk, hml, hK, hN⟩ := id X
  intro H locs ls hH hl
  unfold sh_Model_parse_74 at hsh
  refine lv_aload_n hx hb d_Model_parse_74 rfl (lv_at hl 0 rfl) ?_
  refine lv_iload_n hx hb d_Model_parse_75 rfl (lv_at hl 2 rfl) ?_
  refine lv_iload hx hb d_Model_parse_76 (lv_at hl 3 rfl) ?_
  refine lv_iload hx hb d_Model_parse_78 (lv_at hl 4 rfl) ?_
  obtain ⟨u1, h2, hsh⟩ := im_bd hsh
  obtain ⟨g3, h4⟩ := im_is_s h2
  obtain ⟨v7, w5, h6, hsh⟩ := im_bd2 hsh
  refine im_afterI (va_runV (As := [.int x3, .int x4, .int x5]) (rest := []) (C := RC_Model) ⟨hx, hb, hml, hown, hts⟩ (met_Model_stand h6) ⟨(callB_of 3 hts (im_good wd_831) rfl rfl rfl (hts _ wd_10) (hts _ wd_828) (by decide +kernel) ⟨Nat.le_of_ble_eq_true rfl, Nat.le_of_ble_eq_true rfl⟩), hts _ wd_830, hts _ sl_Model_stand⟩ (im_preV im_NW_ok hK hN hH (ci := 9) rfl rfl h4 _) rfl rfl hl.1 rfl (lv_room (Nat.le_of_ble_eq_true rfl)) d_Model_parse_80 ⟨Nat.le_of_ble_eq_true rfl, Nat.le_of_ble_eq_true rfl⟩) hH (fun H locs hH => ?_)
  refine lv_istore_n (lv' := [(3, .int v7), (0, .ref (lo + x0)), (2, .int x2), (4, .int x4), (5, .int x5)]) hx hb d_Model_parse_83 rfl hl (by decide) rfl (fun ls hl => ?_)
  refine lv_iload_n hx hb d_Model_parse_84 rfl (lv_at hl 0 rfl) ?_
  refine lv_if_ge (tgt := 91) hx hb d_Model_parse_85 (by decide) (fun cc => ?_) (fun cc => ?_)
  · have hsh := im_it hsh cc
    refine lv_iload hx hb d_Model_parse_91 (lv_at hl 4 rfl) ?_
    refine lv_iconst (v := 1) hx hb d_Model_parse_93 (by decide) ?_
    refine lv_iadd hx hb d_Model_parse_94 ?_
    refine lv_istore (lv' := [(4, .int (x5 + (1 : Int32))), (3, .int v7), (0, .ref (lo + x0)), (2, .int x2), (5, .int x5)]) hx hb d_Model_parse_95 hl (by decide) rfl (fun ls hl => ?_)
    exact bk_Model_parse_97 X hk38 x0 x2 v7 (x5 + (1 : Int32)) x5 w5 hsh H locs ls hH (lv_sub hl [2, 3, 1, 0, 4] rfl)
  · have hsh := im_if hsh cc
    refine lv_iload hx hb d_Model_parse_88 (lv_at hl 3 rfl) ?_
    obtain rfl := Option.some.inj hsh
    exact im_iret hx hb hr hlk hH d_Model_parse_90
def sh_Model_parse_156 (F : Nat) (y0 : Int32) (w : im_W) : Option (Int32 × im_W) :=
  some (y0, w)
set_option maxHeartbeats 4000000 in
set_option maxRecDepth 100000 in
theorem bk_Model_parse_156 {F : Nat} {r : Int32 × im_W} (X : im_X D vwCl tA lo im_NW c_Model_parse 6 (some .int) RC_Model im_T p s m args meth c) (y0 : Int32) (w : im_W) (hsh : sh_Model_parse_156 F y0 w = some r) : im_WW D vwCl tA lo 6 p l e (im_rm 6 137) s m args below meth c 0 0 (MQ below (im_Post D vwCl tA lo (some (.int r.1)) r.2) args s 0 0 (fun q => lo ≤ q)) 156 [] [.int y0] w := by
  obtain ⟨hx, hb, hr, hts, hown, hlk, hml, hK, hN⟩ := id X
  intro H locs ls hH hl
  unfold sh_Model_parse_156 at hsh
  obtain rfl := Option.some.inj hsh
  exact im_iret hx hb hr hlk hH d_Model_parse_156
def sh_Model_parse_151 (F : Nat) (x2 : Int32) (w : im_W) : Option (Int32 × im_W) :=
  sh_Model_parse_156 F x2 w
set_option maxHeartbeats 4000000 in
set_option maxRecDepth 100000 in
theorem bk_Model_parse_151 {F : Nat} {r : Int32 × im_W} (X : im_X D vwCl tA lo im_NW c_Model_parse 6 (some .int) RC_Model im_T p s m args meth c) (x2 : Int32) (w : im_W) (hsh : sh_Model_parse_151 F x2 w = some r) : im_WW D vwCl tA lo 6 p l e (im_rm 6 137) s m args below meth c 0 0 (MQ below (im_Post D vwCl tA lo (some (.int r.1)) r.2) args s 0 0 (fun q => lo ≤ q)) 151 [(2, .int x2)] [] w := by
  obtain ⟨hx, hb, hr, hts, hown, hlk, hml, hK, hN⟩ := id X
  intro H locs ls hH hl
  unfold sh_Model_parse_151 at hsh
  refine lv_iload_n hx hb d_Model_parse_151 rfl (lv_at hl 0 rfl) ?_
  refine lv_goto (tgt := 156) hx hb d_Model_parse_152 (by decide) ?_
  exact bk_Model_parse_156 X x2 w hsh H locs ls hH (lv_sub hl [] rfl)
def sh_Model_parse_137 (F : Nat) (x2 : Int32) (x3 : Int32) (y0 : Int32) (y1 : Nat) (w : im_W) : Option (Int32 × im_W) :=
  (im_pV w 9 y1 4 (.int y0)).bind fun w1 => (if x3 = (4 : Int32) then sh_Model_parse_151 F x2 w1 else (if x3 = (6 : Int32) then sh_Model_parse_151 F x2 w1 else sh_Model_parse_156 F (-1 : Int32) w1))
set_option maxHeartbeats 4000000 in
set_option maxRecDepth 100000 in
theorem bk_Model_parse_137 {F : Nat} {r : Int32 × im_W} (X : im_X D vwCl tA lo im_NW c_Model_parse 6 (some .int) RC_Model im_T p s m args meth c) (x2 : Int32) (x3 : Int32) (y0 : Int32) (y1 : Nat) (w : im_W) (hsh : sh_Model_parse_137 F x2 x3 y0 y1 w = some r) : im_WW D vwCl tA lo 6 p l e (im_rm 6 137) s m args below meth c 0 0 (MQ below (im_Post D vwCl tA lo (some (.int r.1)) r.2) args s 0 0 (fun q => lo ≤ q)) 137 [(2, .int x2), (3, .int x3)] [.int y0, .ref (lo + y1)] w := by
  obtain ⟨hx, hb, hr, hts, hown, hlk, hml, hK, hN⟩ := id X
  intro H locs ls hH hl
  unfold sh_Model_parse_137 at hsh
  obtain ⟨w1, h2, hsh⟩ := im_bd hsh
  refine im_put (v := .int y0) hx hb hts inC_Model tyC_Model tyC_Model_ok nmC_Model hown hK hH (ci := 9) rfl 4 (by decide) (hts _ wd_635) rfl rfl rfl rfl h2 d_Model_parse_137 (fun H locs hH => ?_)
  refine lv_iload_n hx hb d_Model_parse_140 rfl (lv_at hl 1 rfl) ?_
  refine lv_iconst (v := 4) hx hb d_Model_parse_141 (by decide) ?_
  refine lv_icmp_eq (tgt := 151) hx hb d_Model_parse_142 (by decide) (fun cc => ?_) (fun cc => ?_)
  · have hsh := im_it hsh cc
    exact bk_Model_parse_151 X x2 w1 hsh H locs ls hH (lv_sub hl [0] rfl)
  · have hsh := im_if hsh cc
    refine lv_iload_n hx hb d_Model_parse_145 rfl (lv_at hl 1 rfl) ?_
    refine lv_bipush (v := 6) hx hb d_Model_parse_146 (by decide) ?_
    refine lv_icmp_ne (tgt := 155) hx hb d_Model_parse_148 (by decide) (fun cc => ?_) (fun cc => ?_)
    · have hsh := im_if hsh cc
      refine lv_iconst (v := -1) hx hb d_Model_parse_155 (by decide) ?_
      exact bk_Model_parse_156 X (-1 : Int32) w1 hsh H locs ls hH (lv_sub hl [] rfl)
    · have hsh := im_it hsh cc
      exact bk_Model_parse_151 X x2 w1 hsh H locs ls hH (lv_sub hl [0] rfl)
def sh_Model_parse_38 (F : Nat) : Nat → Nat → Int32 → Int32 → Int32 → Int32 → im_W → Option (Int32 × im_W)
  | 0, _, _, _, _, _, _ => none
  | f + 1, x0, x2, x3, x4, x5, w => (if x2 < x5 then (im_gI w 9 x0 2).bind fun f1 => (im_is w 9 x0).bind fun u3 => im_b2 (sh_Model_replaced F x0 f1 (0 : Int32) w) fun v9 w7 => (im_pV w7 9 x0 2 (.int v9)).bind fun w10 => (im_gI w10 9 x0 4).bind fun f12 => (if f12 ≤ 0 then sh_Model_parse_137 F x2 x3 (0 : Int32) x0 w10 else (im_gI w10 9 x0 4).bind fun f14 => (im_is w10 9 x0).bind fun u16 => im_b2 (sh_Model_replaced F x0 f14 (1 : Int32) w10) fun v22 w20 => sh_Model_parse_137 F x2 x3 v22 x0 w20) else (if x5 = x2 then sh_Model_parse_74 F (sh_Model_parse_38 F f) x0 x2 x3 x4 x5 w else (im_gR w 9 x0 1).bind fun f23 => (im_lI w 2 f23 x5).bind fun e25 => (if e25 = (45 : Int32) then sh_Model_parse_74 F (sh_Model_parse_38 F f) x0 x2 x3 x4 x5 w else (im_gR w 9 x0 1).bind fun f27 => (im_lI w 2 f27 x5).bind fun e29 => (if e29 = (95 : Int32) then sh_Model_parse_74 F (sh_Model_parse_38 F f) x0 x2 x3 x4 x5 w else sh_Model_parse_97 F (sh_Model_parse_38 F f) x0 x2 x3 x4 x5 w))))
set_option maxHeartbeats 4000000 in
set_option maxRecDepth 100000 in
theorem bk_Model_parse_38 {F : Nat} {r : Int32 × im_W} (X : im_X D vwCl tA lo im_NW c_Model_parse 6 (some .int) RC_Model im_T p s m args meth c) : ∀ (f : Nat) (x0 : Nat) (x2 : Int32) (x3 : Int32) (x4 : Int32) (x5 : Int32) (w : im_W), sh_Model_parse_38 F f x0 x2 x3 x4 x5 w = some r → im_WW D vwCl tA lo 6 p l e (im_rm 6 137) s m args below meth c 0 0 (MQ below (im_Post D vwCl tA lo (some (.int r.1)) r.2) args s 0 0 (fun q => lo ≤ q)) 38 [(0, .ref (lo + x0)), (2, .int x2), (3, .int x3), (4, .int x4), (5, .int x5)] [] w := by
  obtain ⟨hx, hb, hr, hts, hown, hlk, hml, hK, hN⟩ := id X
  intro f
  induction f with
  | zero =>
    intro x0 x2 x3 x4 x5 w hsh
    cases hsh
  | succ f ih =>
    intro x0 x2 x3 x4 x5 w hsh H locs ls hH hl
    unfold sh_Model_parse_38 at hsh
    refine lv_iload hx hb d_Model_parse_38 (lv_at hl 4 rfl) ?_
    refine lv_iload_n hx hb d_Model_parse_40 rfl (lv_at hl 1 rfl) ?_
    refine lv_icmp_gt (tgt := 103) hx hb d_Model_parse_41 (by decide) (fun cc => ?_) (fun cc => ?_)
    · have hsh := im_it hsh cc
      refine lv_aload_n hx hb d_Model_parse_103 rfl (lv_at hl 0 rfl) ?_
      refine lv_aload_n hx hb d_Model_parse_104 rfl (lv_at hl 0 rfl) ?_
      refine lv_aload_n hx hb d_Model_parse_105 rfl (lv_at hl 0 rfl) ?_
      obtain ⟨f1, h2, hsh⟩ := im_bd hsh
      refine im_getI hx hb hts inC_Model hown hK hH (ci := 9) rfl 2 (by decide) (hts _ wd_633) rfl h2 d_Model_parse_106 ?_
      refine lv_iconst (v := 0) hx hb d_Model_parse_109 (by decide) ?_
      obtain ⟨u3, h4, hsh⟩ := im_bd hsh
      obtain ⟨g5, h6⟩ := im_is_s h4
      obtain ⟨v9, w7, h8, hsh⟩ := im_bd2 hsh
      refine im_afterI (va_runV (As := [.int f1, .int (0 : Int32)]) (rest := [.ref (lo + x0)]) (C := RC_Model) ⟨hx, hb, hml, hown, hts⟩ (met_Model_replaced h8) ⟨(callB_of 2 hts (im_good wd_819) rfl rfl rfl (hts _ wd_10) (hts _ wd_816) (by decide +kernel) ⟨Nat.le_of_ble_eq_true rfl, Nat.le_of_ble_eq_true rfl⟩), hts _ wd_818, hts _ sl_Model_replaced⟩ (im_preV im_NW_ok hK hN hH (ci := 9) rfl rfl h6 _) rfl rfl hl.1 rfl (lv_room (Nat.le_of_ble_eq_true rfl)) d_Model_parse_110 ⟨Nat.le_of_ble_eq_true rfl, Nat.le_of_ble_eq_true rfl⟩) hH (fun H locs hH => ?_)
      obtain ⟨w10, h11, hsh⟩ := im_bd hsh
      refine im_put (v := .int v9) hx hb hts inC_Model tyC_Model tyC_Model_ok nmC_Model hown hK hH (ci := 9) rfl 2 (by decide) (hts _ wd_633) rfl rfl rfl rfl h11 d_Model_parse_113 (fun H locs hH => ?_)
      refine lv_aload_n hx hb d_Model_parse_116 rfl (lv_at hl 0 rfl) ?_
      refine lv_aload_n hx hb d_Model_parse_117 rfl (lv_at hl 0 rfl) ?_
      obtain ⟨f12, h13, hsh⟩ := im_bd hsh
      refine im_getI hx hb hts inC_Model hown hK hH (ci := 9) rfl 4 (by decide) (hts _ wd_635) rfl h13 d_Model_parse_118 ?_
      refine lv_if_le (tgt := 136) hx hb d_Model_parse_121 (by decide) (fun cc => ?_) (fun cc => ?_)
      · have hsh := im_it hsh cc
        refine lv_iconst (v := 0) hx hb d_Model_parse_136 (by decide) ?_
        exact bk_Model_parse_137 X x2 x3 (0 : Int32) x0 w10 hsh H locs ls hH (lv_sub hl [1, 2] rfl)
      · have hsh := im_if hsh cc
        refine lv_aload_n hx hb d_Model_parse_124 rfl (lv_at hl 0 rfl) ?_
        refine lv_aload_n hx hb d_Model_parse_125 rfl (lv_at hl 0 rfl) ?_
        obtain ⟨f14, h15, hsh⟩ := im_bd hsh
        refine im_getI hx hb hts inC_Model hown hK hH (ci := 9) rfl 4 (by decide) (hts _ wd_635) rfl h15 d_Model_parse_126 ?_
        refine lv_iconst (v := 1) hx hb d_Model_parse_129 (by decide) ?_
        obtain ⟨u16, h17, hsh⟩ := im_bd hsh
        obtain ⟨g18, h19⟩ := im_is_s h17
        obtain ⟨v22, w20, h21, hsh⟩ := im_bd2 hsh
        refine im_afterI (va_runV (As := [.int f14, .int (1 : Int32)]) (rest := [.ref (lo + x0)]) (C := RC_Model) ⟨hx, hb, hml, hown, hts⟩ (met_Model_replaced h21) ⟨(callB_of 2 hts (im_good wd_819) rfl rfl rfl (hts _ wd_10) (hts _ wd_816) (by decide +kernel) ⟨Nat.le_of_ble_eq_true rfl, Nat.le_of_ble_eq_true rfl⟩), hts _ wd_818, hts _ sl_Model_replaced⟩ (im_preV im_NW_ok hK hN hH (ci := 9) rfl rfl h19 _) rfl rfl hl.1 rfl (lv_room (Nat.le_of_ble_eq_true rfl)) d_Model_parse_130 ⟨Nat.le_of_ble_eq_true rfl, Nat.le_of_ble_eq_true rfl⟩) hH (fun H locs hH => ?_)
        refine lv_goto (tgt := 137) hx hb d_Model_parse_133 (by decide) ?_
        exact bk_Model_parse_137 X x2 x3 v22 x0 w20 hsh H locs ls hH (lv_sub hl [1, 2] rfl)
    · have hsh := im_if hsh cc
      refine lv_iload hx hb d_Model_parse_44 (lv_at hl 4 rfl) ?_
      refine lv_iload_n hx hb d_Model_parse_46 rfl (lv_at hl 1 rfl) ?_
      refine lv_icmp_eq (tgt := 74) hx hb d_Model_parse_47 (by decide) (fun cc => ?_) (fun cc => ?_)
      · have hsh := im_it hsh cc
        exact bk_Model_parse_74 X ih x0 x2 x3 x4 x5 w hsh H locs ls hH (lv_sub hl [0, 1, 2, 3, 4] rfl)
      · have hsh := im_if hsh cc
        refine lv_aload_n hx hb d_Model_parse_50 rfl (lv_at hl 0 rfl) ?_
        obtain ⟨f23, h24, hsh⟩ := im_bd hsh
        refine im_getR hx hb hts inC_Model hown hK hH (ci := 9) rfl 1 (by decide) (hts _ wd_632) rfl h24 d_Model_parse_51 ?_
        refine lv_iload hx hb d_Model_parse_54 (lv_at hl 4 rfl) ?_
        obtain ⟨e25, h26, hsh⟩ := im_bd hsh
        refine im_cald hx hb hK hH h26 d_Model_parse_56 ?_
        refine lv_bipush (v := 45) hx hb d_Model_parse_57 (by decide) ?_
        refine lv_icmp_eq (tgt := 74) hx hb d_Model_parse_59 (by decide) (fun cc => ?_) (fun cc => ?_)
        · have hsh := im_it hsh cc
          exact bk_Model_parse_74 X ih x0 x2 x3 x4 x5 w hsh H locs ls hH (lv_sub hl [0, 1, 2, 3, 4] rfl)
        · have hsh := im_if hsh cc
          refine lv_aload_n hx hb d_Model_parse_62 rfl (lv_at hl 0 rfl) ?_
          obtain ⟨f27, h28, hsh⟩ := im_bd hsh
          refine im_getR hx hb hts inC_Model hown hK hH (ci := 9) rfl 1 (by decide) (hts _ wd_632) rfl h28 d_Model_parse_63 ?_
          refine lv_iload hx hb d_Model_parse_66 (lv_at hl 4 rfl) ?_
          obtain ⟨e29, h30, hsh⟩ := im_bd hsh
          refine im_cald hx hb hK hH h30 d_Model_parse_68 ?_
          refine lv_bipush (v := 95) hx hb d_Model_parse_69 (by decide) ?_
          refine lv_icmp_ne (tgt := 97) hx hb d_Model_parse_71 (by decide) (fun cc => ?_) (fun cc => ?_)
          · have hsh := im_if hsh cc
            exact bk_Model_parse_97 X ih x0 x2 x3 x4 x5 w hsh H locs ls hH (lv_sub hl [0, 1, 2, 3, 4] rfl)
          · have hsh := im_it hsh cc
            exact bk_Model_parse_74 X ih x0 x2 x3 x4 x5 w hsh H locs ls hH (lv_sub hl [0, 1, 2, 3, 4] rfl)
def sh_Model_parse (F : Nat) (x0 : Nat) (x1 : Int32) (x2 : Int32) (w : im_W) : Option (Int32 × im_W) :=
  (im_pV w 9 x0 2 (.int (0 : Int32))).bind fun w1 => (im_pV w1 9 x0 3 (.int (0 : Int32))).bind fun w3 => (im_pV w3 9 x0 4 (.int (0 : Int32))).bind fun w5 => (im_pV w5 9 x0 5 (.int (0 : Int32))).bind fun w7 => (im_pV w7 9 x0 8 (.int (0 : Int32))).bind fun w9 => (im_pV w9 9 x0 11 (.int (-1 : Int32))).bind fun w11 => sh_Model_parse_38 F F x0 x2 (0 : Int32) x1 x1 w11
set_option maxHeartbeats 4000000 in
set_option maxRecDepth 100000 in
theorem met_Model_parse {F : Nat} {x0 : Nat} {x1 : Int32} {x2 : Int32} {w : im_W} {r : Int32 × im_W} (hsh : sh_Model_parse F x0 x1 x2 w = some r) : Met l y_Model_parse (Cond.code y_Model_parse c_Model_parse 6 (some .int) :: im_T) (im_rm 6 137) (im_Pre D vwCl tA lo im_NW [.ref (lo + x0), .int x1, .int x2] w) (im_Post D vwCl tA lo (some (.int r.1)) r.2) 0 0 (fun q => lo ≤ q) := by
  refine im_ofW (cc := c_Model_parse) (nL := 6) (ret := (some .int)) (by decide) (Nat.le_of_ble_eq_true rfl) ?_
  intro p e s m args below meth c X H locs ls hH hl
  obtain ⟨hx, hb, hr, hts, hown, hlk, hml, hK, hN⟩ := id X
  have hl : lv_has ls 6 [(0, .ref (lo + x0)), (1, .int x1), (2, .int x2)] := hl
  unfold sh_Model_parse at hsh
  refine lv_aload_n hx hb d_Model_parse_0 rfl (lv_at hl 0 rfl) ?_
  refine lv_iconst (v := 0) hx hb d_Model_parse_1 (by decide) ?_
  obtain ⟨w1, h2, hsh⟩ := im_bd hsh
  refine im_put (v := .int (0 : Int32)) hx hb hts inC_Model tyC_Model tyC_Model_ok nmC_Model hown hK hH (ci := 9) rfl 2 (by decide) (hts _ wd_633) rfl rfl rfl rfl h2 d_Model_parse_2 (fun H locs hH => ?_)
  refine lv_aload_n hx hb d_Model_parse_5 rfl (lv_at hl 0 rfl) ?_
  refine lv_iconst (v := 0) hx hb d_Model_parse_6 (by decide) ?_
  obtain ⟨w3, h4, hsh⟩ := im_bd hsh
  refine im_put (v := .int (0 : Int32)) hx hb hts inC_Model tyC_Model tyC_Model_ok nmC_Model hown hK hH (ci := 9) rfl 3 (by decide) (hts _ wd_634) rfl rfl rfl rfl h4 d_Model_parse_7 (fun H locs hH => ?_)
  refine lv_aload_n hx hb d_Model_parse_10 rfl (lv_at hl 0 rfl) ?_
  refine lv_iconst (v := 0) hx hb d_Model_parse_11 (by decide) ?_
  obtain ⟨w5, h6, hsh⟩ := im_bd hsh
  refine im_put (v := .int (0 : Int32)) hx hb hts inC_Model tyC_Model tyC_Model_ok nmC_Model hown hK hH (ci := 9) rfl 4 (by decide) (hts _ wd_635) rfl rfl rfl rfl h6 d_Model_parse_12 (fun H locs hH => ?_)
  refine lv_aload_n hx hb d_Model_parse_15 rfl (lv_at hl 0 rfl) ?_
  refine lv_iconst (v := 0) hx hb d_Model_parse_16 (by decide) ?_
  obtain ⟨w7, h8, hsh⟩ := im_bd hsh
  refine im_put (v := .int (0 : Int32)) hx hb hts inC_Model tyC_Model tyC_Model_ok nmC_Model hown hK hH (ci := 9) rfl 5 (by decide) (hts _ wd_636) rfl rfl rfl rfl h8 d_Model_parse_17 (fun H locs hH => ?_)
  refine lv_aload_n hx hb d_Model_parse_20 rfl (lv_at hl 0 rfl) ?_
  refine lv_iconst (v := 0) hx hb d_Model_parse_21 (by decide) ?_
  obtain ⟨w9, h10, hsh⟩ := im_bd hsh
  refine im_put (v := .int (0 : Int32)) hx hb hts inC_Model tyC_Model tyC_Model_ok nmC_Model hown hK hH (ci := 9) rfl 8 (by decide) (hts _ wd_639) rfl rfl rfl rfl h10 d_Model_parse_22 (fun H locs hH => ?_)
  refine lv_aload_n hx hb d_Model_parse_25 rfl (lv_at hl 0 rfl) ?_
  refine lv_iconst (v := -1) hx hb d_Model_parse_26 (by decide) ?_
  obtain ⟨w11, h12, hsh⟩ := im_bd hsh
  refine im_put (v := .int (-1 : Int32)) hx hb hts inC_Model tyC_Model tyC_Model_ok nmC_Model hown hK hH (ci := 9) rfl 11 (by decide) (hts _ wd_642) rfl rfl rfl rfl h12 d_Model_parse_27 (fun H locs hH => ?_)
  refine lv_iconst (v := 0) hx hb d_Model_parse_30 (by decide) ?_
  refine lv_istore_n (lv' := [(3, .int (0 : Int32)), (0, .ref (lo + x0)), (1, .int x1), (2, .int x2)]) hx hb d_Model_parse_31 rfl hl (by decide) rfl (fun ls hl => ?_)
  refine lv_iload_n hx hb d_Model_parse_32 rfl (lv_at hl 2 rfl) ?_
  refine lv_istore (lv' := [(4, .int x1), (3, .int (0 : Int32)), (0, .ref (lo + x0)), (1, .int x1), (2, .int x2)]) hx hb d_Model_parse_33 hl (by decide) rfl (fun ls hl => ?_)
  refine lv_iload_n hx hb d_Model_parse_35 rfl (lv_at hl 3 rfl) ?_
  refine lv_istore (lv' := [(5, .int x1), (4, .int x1), (3, .int (0 : Int32)), (0, .ref (lo + x0)), (1, .int x1), (2, .int x2)]) hx hb d_Model_parse_36 hl (by decide) rfl (fun ls hl => ?_)
  exact bk_Model_parse_38 X F x0 x2 (0 : Int32) x1 x1 w11 hsh H locs ls hH (lv_sub hl [3, 5, 2, 1, 0] rfl)
theorem wd_644 : (Jvm.Cond.fieldLink "LanguageTagsModel" (177 : Nat) "LanguageTagsModel" "formLength" "I") ∈ im_T := im_memT (i := 644) (by decide +kernel) (by decide +kernel)
theorem wd_645 : (Jvm.Cond.fieldLink "LanguageTagsModel" (26 : Nat) "LanguageTagsModel" "form" "[C") ∈ im_T := im_memT (i := 645) (by decide +kernel) (by decide +kernel)
theorem d_Model_putChar_0 : decode c_Model_putChar 0 = .ok (.aload_n 0, 1) := by decide +kernel
theorem d_Model_putChar_1 : decode c_Model_putChar 1 = .ok (.getfield 26, 3) := by decide +kernel
theorem d_Model_putChar_4 : decode c_Model_putChar 4 = .ok (.aload_n 0, 1) := by decide +kernel
theorem d_Model_putChar_5 : decode c_Model_putChar 5 = .ok (.getfield 177, 3) := by decide +kernel
theorem d_Model_putChar_8 : decode c_Model_putChar 8 = .ok (.iload_n 1, 1) := by decide +kernel
theorem d_Model_putChar_9 : decode c_Model_putChar 9 = .ok (.castore, 1) := by decide +kernel
theorem d_Model_putChar_10 : decode c_Model_putChar 10 = .ok (.aload_n 0, 1) := by decide +kernel
theorem d_Model_putChar_11 : decode c_Model_putChar 11 = .ok (.dup, 1) := by decide +kernel
theorem d_Model_putChar_12 : decode c_Model_putChar 12 = .ok (.getfield 177, 3) := by decide +kernel
theorem d_Model_putChar_15 : decode c_Model_putChar 15 = .ok (.iconst 1, 1) := by decide +kernel
theorem d_Model_putChar_16 : decode c_Model_putChar 16 = .ok (.iadd, 1) := by decide +kernel
theorem d_Model_putChar_17 : decode c_Model_putChar 17 = .ok (.putfield 177, 3) := by decide +kernel
theorem d_Model_putChar_20 : decode c_Model_putChar 20 = .ok (.return_, 1) := by decide +kernel
def sh_Model_putChar (F : Nat) (x0 : Nat) (x1 : Int32) (w : im_W) : Option (im_W) :=
  (im_gR w 9 x0 14).bind fun f1 => (im_gI w 9 x0 13).bind fun f3 => (im_sI w 2 f1 f3 (vp_nar .char x1)).bind fun w5 => (im_gI w5 9 x0 13).bind fun f7 => (im_pV w5 9 x0 13 (.int (f7 + (1 : Int32)))).bind fun w9 => some w9
set_option maxHeartbeats 4000000 in
set_option maxRecDepth 100000 in
theorem met_Model_putChar {F : Nat} {x0 : Nat} {x1 : Int32} {w : im_W} {r : im_W} (hsh : sh_Model_putChar F x0 x1 w = some r) : Met l y_Model_putChar (Cond.code y_Model_putChar c_Model_putChar 2 none :: im_T) (im_rm 0 0) (im_Pre D vwCl tA lo im_NW [.ref (lo + x0), .int x1] w) (im_Post D vwCl tA lo none r) 0 0 (fun q => lo ≤ q) := by
  refine im_ofW (cc := c_Model_putChar) (nL := 2) (ret := none) (by decide) (Nat.le_of_ble_eq_true rfl) ?_
  intro p e s m args below meth c X H locs ls hH hl
  obtain ⟨hx, hb, hr, hts, hown, hlk, hml, hK, hN⟩ := id X
  have hl : lv_has ls 2 [(0, .ref (lo + x0)), (1, .int x1)] := hl
  unfold sh_Model_putChar at hsh
  refine lv_aload_n hx hb d_Model_putChar_0 rfl (lv_at hl 0 rfl) ?_
  obtain ⟨f1, h2, hsh⟩ := im_bd hsh
  refine im_getR hx hb hts inC_Model hown hK hH (ci := 9) rfl 14 (by decide) (hts _ wd_645) rfl h2 d_Model_putChar_1 ?_
  refine lv_aload_n hx hb d_Model_putChar_4 rfl (lv_at hl 0 rfl) ?_
  obtain ⟨f3, h4, hsh⟩ := im_bd hsh
  refine im_getI hx hb hts inC_Model hown hK hH (ci := 9) rfl 13 (by decide) (hts _ wd_644) rfl h4 d_Model_putChar_5 ?_
  refine lv_iload_n hx hb d_Model_putChar_8 rfl (lv_at hl 1 rfl) ?_
  obtain ⟨w5, h6, hsh⟩ := im_bd hsh
  refine im_cast hx hb hK hH h6 d_Model_putChar_9 (fun H locs hH => ?_)
  refine lv_aload_n hx hb d_Model_putChar_10 rfl (lv_at hl 0 rfl) ?_
  refine lv_dup hx hb d_Model_putChar_11 rfl ?_
  obtain ⟨f7, h8, hsh⟩ := im_bd hsh
  refine im_getI hx hb hts inC_Model hown hK hH (ci := 9) rfl 13 (by decide) (hts _ wd_644) rfl h8 d_Model_putChar_12 ?_
  refine lv_iconst (v := 1) hx hb d_Model_putChar_15 (by decide) ?_
  refine lv_iadd hx hb d_Model_putChar_16 ?_
  obtain ⟨w9, h10, hsh⟩ := im_bd hsh
  refine im_put (v := .int (f7 + (1 : Int32))) hx hb hts inC_Model tyC_Model tyC_Model_ok nmC_Model hown hK hH (ci := 9) rfl 13 (by decide) (hts _ wd_644) rfl rfl rfl rfl h10 d_Model_putChar_17 (fun H locs hH => ?_)
  obtain rfl := Option.some.inj hsh
  exact im_vret hx hb hr hlk hH d_Model_putChar_20
theorem d_Model_character_0 : decode c_Model_character 0 = .ok (.iload_n 1, 1) := by decide +kernel
theorem d_Model_character_1 : decode c_Model_character 1 = .ok (.bipush (26), 2) := by decide +kernel
theorem d_Model_character_3 : decode c_Model_character 3 = .ok (.if_icmp .gt (13), 3) := by decide +kernel
theorem d_Model_character_6 : decode c_Model_character 6 = .ok (.bipush (97), 2) := by decide +kernel
theorem d_Model_character_8 : decode c_Model_character 8 = .ok (.iload_n 1, 1) := by decide +kernel
theorem d_Model_character_9 : decode c_Model_character 9 = .ok (.iadd, 1) := by decide +kernel
theorem d_Model_character_10 : decode c_Model_character 10 = .ok (.iconst 1, 1) := by decide +kernel
theorem d_Model_character_11 : decode c_Model_character 11 = .ok (.isub, 1) := by decide +kernel
theorem d_Model_character_12 : decode c_Model_character 12 = .ok (.i2c, 1) := by decide +kernel
theorem d_Model_character_13 : decode c_Model_character 13 = .ok (.goto (11), 3) := by decide +kernel
theorem d_Model_character_16 : decode c_Model_character 16 = .ok (.bipush (48), 2) := by decide +kernel
theorem d_Model_character_18 : decode c_Model_character 18 = .ok (.iload_n 1, 1) := by decide +kernel
theorem d_Model_character_19 : decode c_Model_character 19 = .ok (.iadd, 1) := by decide +kernel
theorem d_Model_character_20 : decode c_Model_character 20 = .ok (.bipush (27), 2) := by decide +kernel
theorem d_Model_character_22 : decode c_Model_character 22 = .ok (.isub, 1) := by decide +kernel
theorem d_Model_character_23 : decode c_Model_character 23 = .ok (.i2c, 1) := by decide +kernel
theorem d_Model_character_24 : decode c_Model_character 24 = .ok (.ireturn, 1) := by decide +kernel
def sh_Model_character_24 (F : Nat) (y0 : Int32) (w : im_W) : Option (Int32 × im_W) :=
  im_rc y0 w
set_option maxHeartbeats 4000000 in
set_option maxRecDepth 100000 in
theorem bk_Model_character_24 {F : Nat} {r : Int32 × im_W} (X : im_X D vwCl tA lo im_NW c_Model_character 2 (some .char) RC_Model im_T p s m args meth c) (y0 : Int32) (w : im_W) (hsh : sh_Model_character_24 F y0 w = some r) : im_WW D vwCl tA lo 2 p l e (im_rm 0 0) s m args below meth c 0 0 (MQ below (im_Post D vwCl tA lo (some (.int r.1)) r.2) args s 0 0 (fun q => lo ≤ q)) 24 [] [.int y0] w := by
  obtain ⟨hx, hb, hr, hts, hown, hlk, hml, hK, hN⟩ := id X
  intro H locs ls hH hl
  unfold sh_Model_character_24 at hsh
  obtain ⟨rfl, hn⟩ := im_rc_s hsh
  exact im_zret hx hb hr hlk hn hH d_Model_character_24
def sh_Model_character (F : Nat) (x0 : Nat) (x1 : Int32) (w : im_W) : Option (Int32 × im_W) :=
  (if (26 : Int32) < x1 then sh_Model_character_24 F (im_i2c (((48 : Int32) + x1) - (27 : Int32))) w else sh_Model_character_24 F (im_i2c (((97 : Int32) + x1) - (1 : Int32))) w)
set_option maxHeartbeats 4000000 in
set_option maxRecDepth 100000 in
theorem met_Model_character {F : Nat} {x0 : Nat} {x1 : Int32} {w : im_W} {r : Int32 × im_W} (hsh : sh_Model_character F x0 x1 w = some r) : Met l y_Model_character (Cond.code y_Model_character c_Model_character 2 (some .char) :: im_T) (im_rm 0 0) (im_Pre D vwCl tA lo im_NW [.ref (lo + x0), .int x1] w) (im_Post D vwCl tA lo (some (.int r.1)) r.2) 0 0 (fun q => lo ≤ q) := by
  refine im_ofW (cc := c_Model_character) (nL := 2) (ret := (some .char)) (by decide) (Nat.le_of_ble_eq_true rfl) ?_
  intro p e s m args below meth c X H locs ls hH hl
  obtain ⟨hx, hb, hr, hts, hown, hlk, hml, hK, hN⟩ := id X
  have hl : lv_has ls 2 [(0, .ref (lo + x0)), (1, .int x1)] := hl
  unfold sh_Model_character at hsh
  refine lv_iload_n hx hb d_Model_character_0 rfl (lv_at hl 1 rfl) ?_
  refine lv_bipush (v := 26) hx hb d_Model_character_1 (by decide) ?_
  refine lv_icmp_gt (tgt := 16) hx hb d_Model_character_3 (by decide) (fun cc => ?_) (fun cc => ?_)
  · have hsh := im_it hsh cc
    refine lv_bipush (v := 48) hx hb d_Model_character_16 (by decide) ?_
    refine lv_iload_n hx hb d_Model_character_18 rfl (lv_at hl 1 rfl) ?_
    refine lv_iadd hx hb d_Model_character_19 ?_
    refine lv_bipush (v := 27) hx hb d_Model_character_20 (by decide) ?_
    refine lv_isub hx hb d_Model_character_22 ?_
    refine lv_i2c (v := (im_i2c (((48 : Int32) + x1) - (27 : Int32)))) hx hb d_Model_character_23 rfl ?_
    exact bk_Model_character_24 X (im_i2c (((48 : Int32) + x1) - (27 : Int32))) w hsh H locs ls hH (lv_sub hl [] rfl)
  · have hsh := im_if hsh cc
    refine lv_bipush (v := 97) hx hb d_Model_character_6 (by decide) ?_
    refine lv_iload_n hx hb d_Model_character_8 rfl (lv_at hl 1 rfl) ?_
    refine lv_iadd hx hb d_Model_character_9 ?_
    refine lv_iconst (v := 1) hx hb d_Model_character_10 (by decide) ?_
    refine lv_isub hx hb d_Model_character_11 ?_
    refine lv_i2c (v := (im_i2c (((97 : Int32) + x1) - (1 : Int32)))) hx hb d_Model_character_12 rfl ?_
    refine lv_goto (tgt := 24) hx hb d_Model_character_13 (by decide) ?_
    exact bk_Model_character_24 X (im_i2c (((97 : Int32) + x1) - (1 : Int32))) w hsh H locs ls hH (lv_sub hl [] rfl)
theorem d_Model_capital_0 : decode c_Model_capital 0 = .ok (.iload_n 1, 1) := by decide +kernel
theorem d_Model_capital_1 : decode c_Model_capital 1 = .ok (.bipush (97), 2) := by decide +kernel
theorem d_Model_capital_3 : decode c_Model_capital 3 = .ok (.if_icmp .lt (17), 3) := by decide +kernel
theorem d_Model_capital_6 : decode c_Model_capital 6 = .ok (.iload_n 1, 1) := by decide +kernel
theorem d_Model_capital_7 : decode c_Model_capital 7 = .ok (.bipush (122), 2) := by decide +kernel
theorem d_Model_capital_9 : decode c_Model_capital 9 = .ok (.if_icmp .gt (11), 3) := by decide +kernel
theorem d_Model_capital_12 : decode c_Model_capital 12 = .ok (.iload_n 1, 1) := by decide +kernel
theorem d_Model_capital_13 : decode c_Model_capital 13 = .ok (.bipush (32), 2) := by decide +kernel
theorem d_Model_capital_15 : decode c_Model_capital 15 = .ok (.isub, 1) := by decide +kernel
theorem d_Model_capital_16 : decode c_Model_capital 16 = .ok (.i2c, 1) := by decide +kernel
theorem d_Model_capital_17 : decode c_Model_capital 17 = .ok (.goto (4), 3) := by decide +kernel
theorem d_Model_capital_20 : decode c_Model_capital 20 = .ok (.iload_n 1, 1) := by decide +kernel
theorem d_Model_capital_21 : decode c_Model_capital 21 = .ok (.ireturn, 1) := by decide +kernel
def sh_Model_capital_21 (F : Nat) (y0 : Int32) (w : im_W) : Option (Int32 × im_W) :=
  im_rc y0 w
set_option maxHeartbeats 4000000 in
set_option maxRecDepth 100000 in
theorem bk_Model_capital_21 {F : Nat} {r : Int32 × im_W} (X : im_X D vwCl tA lo im_NW c_Model_capital 2 (some .char) RC_Model im_T p s m args meth c) (y0 : Int32) (w : im_W) (hsh : sh_Model_capital_21 F y0 w = some r) : im_WW D vwCl tA lo 2 p l e (im_rm 0 0) s m args below meth c 0 0 (MQ below (im_Post D vwCl tA lo (some (.int r.1)) r.2) args s 0 0 (fun q => lo ≤ q)) 21 [] [.int y0] w := by
  obtain ⟨hx, hb, hr, hts, hown, hlk, hml, hK, hN⟩ := id X
  intro H locs ls hH hl
  unfold sh_Model_capital_21 at hsh
  obtain ⟨rfl, hn⟩ := im_rc_s hsh
  exact im_zret hx hb hr hlk hn hH d_Model_capital_21
def sh_Model_capital_20 (F : Nat) (x1 : Int32) (w : im_W) : Option (Int32 × im_W) :=
  sh_Model_capital_21 F x1 w
set_option maxHeartbeats 4000000 in
set_option maxRecDepth 100000 in
theorem bk_Model_capital_20 {F : Nat} {r : Int32 × im_W} (X : im_X D vwCl tA lo im_NW c_Model_capital 2 (some .char) RC_Model im_T p s m args meth c) (x1 : Int32) (w : im_W) (hsh : sh_Model_capital_20 F x1 w = some r) : im_WW D vwCl tA lo 2 p l e (im_rm 0 0) s m args below meth c 0 0 (MQ below (im_Post D vwCl tA lo (some (.int r.1)) r.2) args s 0 0 (fun q => lo ≤ q)) 20 [(1, .int x1)] [] w := by
  obtain ⟨hx, hb, hr, hts, hown, hlk, hml, hK, hN⟩ := id X
  intro H locs ls hH hl
  unfold sh_Model_capital_20 at hsh
  refine lv_iload_n hx hb d_Model_capital_20 rfl (lv_at hl 0 rfl) ?_
  exact bk_Model_capital_21 X x1 w hsh H locs ls hH (lv_sub hl [] rfl)
def sh_Model_capital (F : Nat) (x0 : Nat) (x1 : Int32) (w : im_W) : Option (Int32 × im_W) :=
  (if x1 < (97 : Int32) then sh_Model_capital_20 F x1 w else (if (122 : Int32) < x1 then sh_Model_capital_20 F x1 w else sh_Model_capital_21 F (im_i2c (x1 - (32 : Int32))) w))
set_option maxHeartbeats 4000000 in
set_option maxRecDepth 100000 in
theorem met_Model_capital {F : Nat} {x0 : Nat} {x1 : Int32} {w : im_W} {r : Int32 × im_W} (hsh : sh_Model_capital F x0 x1 w = some r) : Met l y_Model_capital (Cond.code y_Model_capital c_Model_capital 2 (some .char) :: im_T) (im_rm 0 0) (im_Pre D vwCl tA lo im_NW [.ref (lo + x0), .int x1] w) (im_Post D vwCl tA lo (some (.int r.1)) r.2) 0 0 (fun q => lo ≤ q) := by
  refine im_ofW (cc := c_Model_capital) (nL := 2) (ret := (some .char)) (by decide) (Nat.le_of_ble_eq_true rfl) ?_
  intro p e s m args below meth c X H locs ls hH hl
  obtain ⟨hx, hb, hr, hts, hown, hlk, hml, hK, hN⟩ := id X
  have hl : lv_has ls 2 [(0, .ref (lo + x0)), (1, .int x1)] := hl
  unfold sh_Model_capital at hsh
  refine lv_iload_n hx hb d_Model_capital_0 rfl (lv_at hl 1 rfl) ?_
  refine lv_bipush (v := 97) hx hb d_Model_capital_1 (by decide) ?_
  refine lv_icmp_lt (tgt := 20) hx hb d_Model_capital_3 (by decide) (fun cc => ?_) (fun cc => ?_)
  · have hsh := im_it hsh cc
    exact bk_Model_capital_20 X x1 w hsh H locs ls hH (lv_sub hl [1] rfl)
  · have hsh := im_if hsh cc
    refine lv_iload_n hx hb d_Model_capital_6 rfl (lv_at hl 1 rfl) ?_
    refine lv_bipush (v := 122) hx hb d_Model_capital_7 (by decide) ?_
    refine lv_icmp_gt (tgt := 20) hx hb d_Model_capital_9 (by decide) (fun cc => ?_) (fun cc => ?_)
    · have hsh := im_it hsh cc
      exact bk_Model_capital_20 X x1 w hsh H locs ls hH (lv_sub hl [1] rfl)
    · have hsh := im_if hsh cc
      refine lv_iload_n hx hb d_Model_capital_12 rfl (lv_at hl 1 rfl) ?_
      refine lv_bipush (v := 32) hx hb d_Model_capital_13 (by decide) ?_
      refine lv_isub hx hb d_Model_capital_15 ?_
      refine lv_i2c (v := (im_i2c (x1 - (32 : Int32)))) hx hb d_Model_capital_16 rfl ?_
      refine lv_goto (tgt := 21) hx hb d_Model_capital_17 (by decide) ?_
      exact bk_Model_capital_21 X (im_i2c (x1 - (32 : Int32))) w hsh H locs ls hH (lv_sub hl [] rfl)
theorem wd_868 : (Jvm.Cond.methodLink "LanguageTagsModel" (180 : Nat) ({ cls := "LanguageTagsModel", name := "character", desc := "(I)C" } : Jvm.MethodName)) ∈ im_T := im_memT (i := 868) (by decide +kernel) (by decide +kernel)
theorem wd_870 : (Jvm.Cond.instanceMethod ({ cls := "LanguageTagsModel", name := "character", desc := "(I)C" } : Jvm.MethodName)) ∈ im_T := im_memT (i := 870) (by decide +kernel) (by decide +kernel)
theorem wd_871 : (Jvm.Cond.code ({ cls := "LanguageTagsModel", name := "character", desc := "(I)C" } : Jvm.MethodName) prog_12_method_23_code (2 : Nat) (Option.some Jvm.ClassFile.FieldType.char)) ∈ im_T := im_memT (i := 871) (by decide +kernel) (by decide +kernel)
theorem wd_872 : (Jvm.Cond.methodLink "LanguageTagsModel" (184 : Nat) ({ cls := "LanguageTagsModel", name := "capital", desc := "(C)C" } : Jvm.MethodName)) ∈ im_T := im_memT (i := 872) (by decide +kernel) (by decide +kernel)
theorem wd_874 : (Jvm.Cond.instanceMethod ({ cls := "LanguageTagsModel", name := "capital", desc := "(C)C" } : Jvm.MethodName)) ∈ im_T := im_memT (i := 874) (by decide +kernel) (by decide +kernel)
theorem wd_875 : (Jvm.Cond.code ({ cls := "LanguageTagsModel", name := "capital", desc := "(C)C" } : Jvm.MethodName) prog_12_method_24_code (2 : Nat) (Option.some Jvm.ClassFile.FieldType.char)) ∈ im_T := im_memT (i := 875) (by decide +kernel) (by decide +kernel)
theorem wd_876 : (Jvm.Cond.methodLink "LanguageTagsModel" (187 : Nat) ({ cls := "LanguageTagsModel", name := "putChar", desc := "(C)V" } : Jvm.MethodName)) ∈ im_T := im_memT (i := 876) (by decide +kernel) (by decide +kernel)
theorem wd_878 : (Jvm.Cond.instanceMethod ({ cls := "LanguageTagsModel", name := "putChar", desc := "(C)V" } : Jvm.MethodName)) ∈ im_T := im_memT (i := 878) (by decide +kernel) (by decide +kernel)
theorem wd_879 : (Jvm.Cond.code ({ cls := "LanguageTagsModel", name := "putChar", desc := "(C)V" } : Jvm.MethodName) prog_12_method_22_code (2 : Nat) (Option.none : Option Jvm.ClassFile.FieldType)) ∈ im_T := im_memT (i := 879) (by decide +kernel) (by decide +kernel)
theorem d_Model_putNumber_0 : decode c_Model_putNumber 0 = .ok (.iconst 1, 1) := by decide +kernel
theorem d_Model_putNumber_1 : decode c_Model_putNumber 1 = .ok (.istore_n 3, 1) := by decide +kernel
theorem d_Model_putNumber_2 : decode c_Model_putNumber 2 = .ok (.iload_n 1, 1) := by decide +kernel
theorem d_Model_putNumber_3 : decode c_Model_putNumber 3 = .ok (.iload_n 3, 1) := by decide +kernel
theorem d_Model_putNumber_4 : decode c_Model_putNumber 4 = .ok (.idiv, 1) := by decide +kernel
theorem d_Model_putNumber_5 : decode c_Model_putNumber 5 = .ok (.bipush (37), 2) := by decide +kernel
theorem d_Model_putNumber_7 : decode c_Model_putNumber 7 = .ok (.if_icmp .lt (11), 3) := by decide +kernel
theorem d_Model_putNumber_10 : decode c_Model_putNumber 10 = .ok (.bipush (37), 2) := by decide +kernel
theorem d_Model_putNumber_12 : decode c_Model_putNumber 12 = .ok (.iload_n 3, 1) := by decide +kernel
theorem d_Model_putNumber_13 : decode c_Model_putNumber 13 = .ok (.imul, 1) := by decide +kernel
theorem d_Model_putNumber_14 : decode c_Model_putNumber 14 = .ok (.istore_n 3, 1) := by decide +kernel
theorem d_Model_putNumber_15 : decode c_Model_putNumber 15 = .ok (.goto (-13), 3) := by decide +kernel
theorem d_Model_putNumber_18 : decode c_Model_putNumber 18 = .ok (.iconst 0, 1) := by decide +kernel
theorem d_Model_putNumber_19 : decode c_Model_putNumber 19 = .ok (.istore 4, 2) := by decide +kernel
theorem d_Model_putNumber_21 : decode c_Model_putNumber 21 = .ok (.iload_n 3, 1) := by decide +kernel
theorem d_Model_putNumber_22 : decode c_Model_putNumber 22 = .ok (.ifCond .le (47), 3) := by decide +kernel
theorem d_Model_putNumber_25 : decode c_Model_putNumber 25 = .ok (.aload_n 0, 1) := by decide +kernel
theorem d_Model_putNumber_26 : decode c_Model_putNumber 26 = .ok (.iload_n 1, 1) := by decide +kernel
theorem d_Model_putNumber_27 : decode c_Model_putNumber 27 = .ok (.iload_n 3, 1) := by decide +kernel
theorem d_Model_putNumber_28 : decode c_Model_putNumber 28 = .ok (.idiv, 1) := by decide +kernel
theorem d_Model_putNumber_29 : decode c_Model_putNumber 29 = .ok (.bipush (37), 2) := by decide +kernel
theorem d_Model_putNumber_31 : decode c_Model_putNumber 31 = .ok (.irem, 1) := by decide +kernel
theorem d_Model_putNumber_32 : decode c_Model_putNumber 32 = .ok (.invokevirtual 180, 3) := by decide +kernel
theorem d_Model_putNumber_35 : decode c_Model_putNumber 35 = .ok (.istore 5, 2) := by decide +kernel
theorem d_Model_putNumber_37 : decode c_Model_putNumber 37 = .ok (.aload_n 0, 1) := by decide +kernel
theorem d_Model_putNumber_38 : decode c_Model_putNumber 38 = .ok (.iload 4, 2) := by decide +kernel
theorem d_Model_putNumber_40 : decode c_Model_putNumber 40 = .ok (.iload_n 2, 1) := by decide +kernel
theorem d_Model_putNumber_41 : decode c_Model_putNumber 41 = .ok (.if_icmp .ge (12), 3) := by decide +kernel
theorem d_Model_putNumber_44 : decode c_Model_putNumber 44 = .ok (.aload_n 0, 1) := by decide +kernel
theorem d_Model_putNumber_45 : decode c_Model_putNumber 45 = .ok (.iload 5, 2) := by decide +kernel
theorem d_Model_putNumber_47 : decode c_Model_putNumber 47 = .ok (.invokevirtual 184, 3) := by decide +kernel
theorem d_Model_putNumber_50 : decode c_Model_putNumber 50 = .ok (.goto (5), 3) := by decide +kernel
theorem d_Model_putNumber_53 : decode c_Model_putNumber 53 = .ok (.iload 5, 2) := by decide +kernel
theorem d_Model_putNumber_55 : decode c_Model_putNumber 55 = .ok (.invokevirtual 187, 3) := by decide +kernel
theorem d_Model_putNumber_58 : decode c_Model_putNumber 58 = .ok (.iload_n 3, 1) := by decide +kernel
theorem d_Model_putNumber_59 : decode c_Model_putNumber 59 = .ok (.bipush (37), 2) := by decide +kernel
theorem d_Model_putNumber_61 : decode c_Model_putNumber 61 = .ok (.idiv, 1) := by decide +kernel
theorem d_Model_putNumber_62 : decode c_Model_putNumber 62 = .ok (.istore_n 3, 1) := by decide +kernel
theorem d_Model_putNumber_63 : decode c_Model_putNumber 63 = .ok (.iinc 4 (1), 3) := by decide +kernel
theorem d_Model_putNumber_66 : decode c_Model_putNumber 66 = .ok (.goto (-45), 3) := by decide +kernel
theorem d_Model_putNumber_69 : decode c_Model_putNumber 69 = .ok (.return_, 1) := by decide +kernel
def sh_Model_putNumber_55 (F : Nat) (k21 : Nat → Int32 → Int32 → Int32 → Int32 → im_W → Option (im_W)) (x0 : Nat) (x1 : Int32) (x2 : Int32) (x3 : Int32) (x4 : Int32) (y0 : Int32) (y1 : Nat) (w : im_W) : Option (im_W) :=
  (im_is w 9 y1).bind fun u1 => (sh_Model_putChar F y1 y0 w).bind fun w5 => k21 x0 x1 x2 (x3 / (37 : Int32)) (x4 + (1 : Int32)) w5
set_option maxHeartbeats 4000000 in
set_option maxRecDepth 100000 in
theorem bk_Model_putNumber_55 {F : Nat} {r : im_W} (X : im_X D vwCl tA lo im_NW c_Model_putNumber 6 none RC_Model im_T p s m args meth c) {k21 : Nat → Int32 → Int32 → Int32 → Int32 → im_W → Option (im_W)} (hk21 : ∀ (x0 : Nat) (x1 : Int32) (x2 : Int32) (x3 : Int32) (x4 : Int32) (w : im_W), k21 x0 x1 x2 x3 x4 w = some r → im_WW D vwCl tA lo 6 p l e (im_rm 1 21) s m args below meth c 0 0 (MQ below (im_Post D vwCl tA lo none r) args s 0 0 (fun q => lo ≤ q)) 21 [(0, .ref (lo + x0)), (1, .int x1), (2, .int x2), (3, .int x3), (4, .int x4)] [] w) (x0 : Nat) (x1 : Int32) (x2 : Int32) (x3 : Int32) (x4 : Int32) (y0 : Int32) (y1 : Nat) (w : im_W) (hsh : sh_Model_putNumber_55 F k21 x0 x1 x2 x3 x4 y0 y1 w = some r) : im_WW D vwCl tA lo 6 p l e (im_rm 1 21) s m args below meth c 0 0 (MQ below (im_Post D vwCl tA lo none r) args s 0 0 (fun q => lo ≤ q)) 55 [(0, .ref (lo + x0)), (1, .int x1), (2, .int x2), (3, .int x3), (4, .int x4)] [.int y0, .ref (lo + y1)] w := by
  obtain ⟨hx, hb, hr, hts, hown, hlk, hml, hK, hN⟩ := id X
  intro H locs ls hH hl
  unfold sh_Model_putNumber_55 at hsh
  obtain ⟨u1, h2, hsh⟩ := im_bd hsh
  obtain ⟨g3, h4⟩ := im_is_s h2
  obtain ⟨w5, h6, hsh⟩ := im_bd hsh
  refine im_afterV (va_runV (As := [.int y0]) (rest := []) (C := RC_Model) ⟨hx, hb, hml, hown, hts⟩ (met_Model_putChar h6) ⟨(callB_of 1 hts (im_good wd_879) rfl rfl rfl (hts _ wd_10) (hts _ wd_876) (by decide +kernel) ⟨Nat.le_of_ble_eq_true rfl, Nat.le_of_ble_eq_true rfl⟩), hts _ wd_878, hts _ sl_Model_putChar⟩ (im_preV im_NW_ok hK hN hH (ci := 9) rfl rfl h4 _) rfl rfl hl.1 rfl (lv_room (Nat.le_of_ble_eq_true rfl)) d_Model_putNumber_55 ⟨Nat.le_of_ble_eq_true rfl, Nat.le_of_ble_eq_true rfl⟩) hH (fun H locs hH => ?_)
  refine lv_iload_n hx hb d_Model_putNumber_58 rfl (lv_at hl 3 rfl) ?_
  refine lv_bipush (v := 37) hx hb d_Model_putNumber_59 (by decide) ?_
  refine lv_idiv hx hb d_Model_putNumber_61 (by decide) ?_
  refine lv_istore_n (lv' := [(3, .int (x3 / (37 : Int32))), (0, .ref (lo + x0)), (1, .int x1), (2, .int x2), (4, .int x4)]) hx hb d_Model_putNumber_62 rfl hl (by decide) rfl (fun ls hl => ?_)
  refine lv_iinc (v := (x4 + (1 : Int32))) (lv' := [(4, .int (x4 + (1 : Int32))), (3, .int (x3 / (37 : Int32))), (0, .ref (lo + x0)), (1, .int x1), (2, .int x2)]) hx hb d_Model_putNumber_63 hl (k := 4) rfl rfl (by decide) rfl (fun ls hl => ?_)
  refine lv_goto (tgt := 21) hx hb d_Model_putNumber_66 (by decide) ?_
  exact hk21 x0 x1 x2 (x3 / (37 : Int32)) (x4 + (1 : Int32)) w5 hsh H locs ls hH (lv_sub hl [2, 3, 4, 1, 0] rfl)
def sh_Model_putNumber_21 (F : Nat) : Nat → Nat → Int32 → Int32 → Int32 → Int32 → im_W → Option (im_W)
  | 0, _, _, _, _, _, _ => none
  | f + 1, x0, x1, x2, x3, x4, w => (if x3 ≤ 0 then some w else (im_dv x3).bind fun u1 => (im_is w 9 x0).bind fun u3 => im_b2 (sh_Model_character F x0 ((x1 / x3) - (x1 / x3) / (37 : Int32) * (37 : Int32)) w) fun v9 w7 => (if x2 ≤ x4 then sh_Model_putNumber_55 F (sh_Model_putNumber_21 F f) x0 x1 x2 x3 x4 v9 x0 w7 else (im_is w7 9 x0).bind fun u10 => im_b2 (sh_Model_capital F x0 v9 w7) fun v16 w14 => sh_Model_putNumber_55 F (sh_Model_putNumber_21 F f) x0 x1 x2 x3 x4 v16 x0 w14))
set_option maxHeartbeats 4000000 in
set_option maxRecDepth 100000 in
theorem bk_Model_putNumber_21 {F : Nat} {r : im_W} (X : im_X D vwCl tA lo im_NW c_Model_putNumber 6 none RC_Model im_T p s m args meth c) : ∀ (f : Nat) (x0 : Nat) (x1 : Int32) (x2 : Int32) (x3 : Int32) (x4 : Int32) (w : im_W), sh_Model_putNumber_21 F f x0 x1 x2 x3 x4 w = some r → im_WW D vwCl tA lo 6 p l e (im_rm 1 21) s m args below meth c 0 0 (MQ below (im_Post D vwCl tA lo none r) args s 0 0 (fun q => lo ≤ q)) 21 [(0, .ref (lo + x0)), (1, .int x1), (2, .int x2), (3, .int x3), (4, .int x4)] [] w := by
  obtain ⟨hx, hb, hr, hts, hown, hlk, hml, hK, hN⟩ := id X
  intro f
  induction f with
  | zero =>
    intro x0 x1 x2 x3 x4 w hsh
    cases hsh
  | succ f ih =>
    intro x0 x1 x2 x3 x4 w hsh H locs ls hH hl
    unfold sh_Model_putNumber_21 at hsh
    refine lv_iload_n hx hb d_Model_putNumber_21 rfl (lv_at hl 3 rfl) ?_
    refine lv_if_le (tgt := 69) hx hb d_Model_putNumber_22 (by decide) (fun cc => ?_) (fun cc => ?_)
    · have hsh := im_it hsh cc
      obtain rfl := Option.some.inj hsh
      exact im_vret hx hb hr hlk hH d_Model_putNumber_69
    · have hsh := im_if hsh cc
      refine lv_aload_n hx hb d_Model_putNumber_25 rfl (lv_at hl 0 rfl) ?_
      refine lv_iload_n hx hb d_Model_putNumber_26 rfl (lv_at hl 1 rfl) ?_
      refine lv_iload_n hx hb d_Model_putNumber_27 rfl (lv_at hl 3 rfl) ?_
      obtain ⟨u1, h2, hsh⟩ := im_bd hsh
      refine lv_idiv hx hb d_Model_putNumber_28 (im_dv_s h2) ?_
      refine lv_bipush (v := 37) hx hb d_Model_putNumber_29 (by decide) ?_
      refine lv_irem hx hb d_Model_putNumber_31 (by decide) ?_
      obtain ⟨u3, h4, hsh⟩ := im_bd hsh
      obtain ⟨g5, h6⟩ := im_is_s h4
      obtain ⟨v9, w7, h8, hsh⟩ := im_bd2 hsh
      refine im_afterI (va_runV (As := [.int ((x1 / x3) - (x1 / x3) / (37 : Int32) * (37 : Int32))]) (rest := []) (C := RC_Model) ⟨hx, hb, hml, hown, hts⟩ (met_Model_character h8) ⟨(callB_of 1 hts (im_good wd_871) rfl rfl rfl (hts _ wd_10) (hts _ wd_868) (by decide +kernel) ⟨Nat.le_of_ble_eq_true rfl, Nat.le_of_ble_eq_true rfl⟩), hts _ wd_870, hts _ sl_Model_character⟩ (im_preV im_NW_ok hK hN hH (ci := 9) rfl rfl h6 _) rfl rfl hl.1 rfl (lv_room (Nat.le_of_ble_eq_true rfl)) d_Model_putNumber_32 ⟨Nat.le_of_ble_eq_true rfl, Nat.le_of_ble_eq_true rfl⟩) hH (fun H locs hH => ?_)
      refine lv_istore (lv' := [(5, .int v9), (0, .ref (lo + x0)), (1, .int x1), (2, .int x2), (3, .int x3), (4, .int x4)]) hx hb d_Model_putNumber_35 hl (by decide) rfl (fun ls hl => ?_)
      refine lv_aload_n hx hb d_Model_putNumber_37 rfl (lv_at hl 1 rfl) ?_
      refine lv_iload hx hb d_Model_putNumber_38 (lv_at hl 5 rfl) ?_
      refine lv_iload_n hx hb d_Model_putNumber_40 rfl (lv_at hl 3 rfl) ?_
      refine lv_icmp_ge (tgt := 53) hx hb d_Model_putNumber_41 (by decide) (fun cc => ?_) (fun cc => ?_)
      · have hsh := im_it hsh cc
        refine lv_iload hx hb d_Model_putNumber_53 (lv_at hl 0 rfl) ?_
        exact bk_Model_putNumber_55 X ih x0 x1 x2 x3 x4 v9 x0 w7 hsh H locs ls hH (lv_sub hl [1, 2, 3, 4, 5] rfl)
      · have hsh := im_if hsh cc
        refine lv_aload_n hx hb d_Model_putNumber_44 rfl (lv_at hl 1 rfl) ?_
        refine lv_iload hx hb d_Model_putNumber_45 (lv_at hl 0 rfl) ?_
        obtain ⟨u10, h11, hsh⟩ := im_bd hsh
        obtain ⟨g12, h13⟩ := im_is_s h11
        obtain ⟨v16, w14, h15, hsh⟩ := im_bd2 hsh
        refine im_afterI (va_runV (As := [.int v9]) (rest := [.ref (lo + x0)]) (C := RC_Model) ⟨hx, hb, hml, hown, hts⟩ (met_Model_capital h15) ⟨(callB_of 1 hts (im_good wd_875) rfl rfl rfl (hts _ wd_10) (hts _ wd_872) (by decide +kernel) ⟨Nat.le_of_ble_eq_true rfl, Nat.le_of_ble_eq_true rfl⟩), hts _ wd_874, hts _ sl_Model_capital⟩ (im_preV im_NW_ok hK hN hH (ci := 9) rfl rfl h13 _) rfl rfl hl.1 rfl (lv_room (Nat.le_of_ble_eq_true rfl)) d_Model_putNumber_47 ⟨Nat.le_of_ble_eq_true rfl, Nat.le_of_ble_eq_true rfl⟩) hH (fun H locs hH => ?_)
        refine lv_goto (tgt := 55) hx hb d_Model_putNumber_50 (by decide) ?_
        exact bk_Model_putNumber_55 X ih x0 x1 x2 x3 x4 v16 x0 w14 hsh H locs ls hH (lv_sub hl [1, 2, 3, 4, 5] rfl)
def sh_Model_putNumber_2 (F : Nat) : Nat → Nat → Int32 → Int32 → Int32 → im_W → Option (im_W)
  | 0, _, _, _, _, _ => none
  | f + 1, x0, x1, x2, x3, w => (im_dv x3).bind fun u1 => (if (x1 / x3) < (37 : Int32) then sh_Model_putNumber_21 F F x0 x1 x2 x3 (0 : Int32) w else (sh_Model_putNumber_2 F f) x0 x1 x2 ((37 : Int32) * x3) w)
set_option maxHeartbeats 4000000 in
set_option maxRecDepth 100000 in
theorem bk_Model_putNumber_2 {F : Nat} {r : im_W} (X : im_X D vwCl tA lo im_NW c_Model_putNumber 6 none RC_Model im_T p s m args meth c) : ∀ (f : Nat) (x0 : Nat) (x1 : Int32) (x2 : Int32) (x3 : Int32) (w : im_W), sh_Model_putNumber_2 F f x0 x1 x2 x3 w = some r → im_WW D vwCl tA lo 6 p l e (im_rm 1 21) s m args below meth c 0 0 (MQ below (im_Post D vwCl tA lo none r) args s 0 0 (fun q => lo ≤ q)) 2 [(0, .ref (lo + x0)), (1, .int x1), (2, .int x2), (3, .int x3)] [] w := by
  obtain ⟨hx, hb, hr, hts, hown, hlk, hml, hK, hN⟩ := id X
  intro f
  induction f with
  | zero =>
    intro x0 x1 x2 x3 w hsh
    cases hsh
  | succ f ih =>
    intro x0 x1 x2 x3 w hsh H locs ls hH hl
    unfold sh_Model_putNumber_2 at hsh
    refine lv_iload_n hx hb d_Model_putNumber_2 rfl (lv_at hl 1 rfl) ?_
    refine lv_iload_n hx hb d_Model_putNumber_3 rfl (lv_at hl 3 rfl) ?_
    obtain ⟨u1, h2, hsh⟩ := im_bd hsh
    refine lv_idiv hx hb d_Model_putNumber_4 (im_dv_s h2) ?_
    refine lv_bipush (v := 37) hx hb d_Model_putNumber_5 (by decide) ?_
    refine lv_icmp_lt (tgt := 18) hx hb d_Model_putNumber_7 (by decide) (fun cc => ?_) (fun cc => ?_)
    · have hsh := im_it hsh cc
      refine lv_iconst (v := 0) hx hb d_Model_putNumber_18 (by decide) ?_
      refine lv_istore (lv' := [(4, .int (0 : Int32)), (0, .ref (lo + x0)), (1, .int x1), (2, .int x2), (3, .int x3)]) hx hb d_Model_putNumber_19 hl (by decide) rfl (fun ls hl => ?_)
      exact bk_Model_putNumber_21 X F x0 x1 x2 x3 (0 : Int32) w hsh H locs ls hH (lv_sub hl [1, 2, 3, 4, 0] rfl)
    · have hsh := im_if hsh cc
      refine lv_bipush (v := 37) hx hb d_Model_putNumber_10 (by decide) ?_
      refine lv_iload_n hx hb d_Model_putNumber_12 rfl (lv_at hl 3 rfl) ?_
      refine lv_imul hx hb d_Model_putNumber_13 ?_
      refine lv_istore_n (lv' := [(3, .int ((37 : Int32) * x3)), (0, .ref (lo + x0)), (1, .int x1), (2, .int x2)]) hx hb d_Model_putNumber_14 rfl hl (by decide) rfl (fun ls hl => ?_)
      refine lv_goto (tgt := 2) hx hb d_Model_putNumber_15 (by decide) ?_
      exact ih x0 x1 x2 ((37 : Int32) * x3) w hsh H locs ls hH (lv_sub hl [1, 2, 3, 0] rfl)
def sh_Model_putNumber (F : Nat) (x0 : Nat) (x1 : Int32) (x2 : Int32) (w : im_W) : Option (im_W) :=
  sh_Model_putNumber_2 F F x0 x1 x2 (1 : Int32) w
set_option maxHeartbeats 4000000 in
set_option maxRecDepth 100000 in
theorem met_Model_putNumber {F : Nat} {x0 : Nat} {x1 : Int32} {x2 : Int32} {w : im_W} {r : im_W} (hsh : sh_Model_putNumber F x0 x1 x2 w = some r) : Met l y_Model_putNumber (Cond.code y_Model_putNumber c_Model_putNumber 6 none :: im_T) (im_rm 1 21) (im_Pre D vwCl tA lo im_NW [.ref (lo + x0), .int x1, .int x2] w) (im_Post D vwCl tA lo none r) 0 0 (fun q => lo ≤ q) := by
  refine im_ofW (cc := c_Model_putNumber) (nL := 6) (ret := none) (by decide) (Nat.le_of_ble_eq_true rfl) ?_
  intro p e s m args below meth c X H locs ls hH hl
  obtain ⟨hx, hb, hr, hts, hown, hlk, hml, hK, hN⟩ := id X
  have hl : lv_has ls 6 [(0, .ref (lo + x0)), (1, .int x1), (2, .int x2)] := hl
  unfold sh_Model_putNumber at hsh
  refine lv_iconst (v := 1) hx hb d_Model_putNumber_0 (by decide) ?_
  refine lv_istore_n (lv' := [(3, .int (1 : Int32)), (0, .ref (lo + x0)), (1, .int x1), (2, .int x2)]) hx hb d_Model_putNumber_1 rfl hl (by decide) rfl (fun ls hl => ?_)
  exact bk_Model_putNumber_2 X F x0 x1 x2 (1 : Int32) w hsh H locs ls hH (lv_sub hl [1, 2, 3, 0] rfl)
end GEN
