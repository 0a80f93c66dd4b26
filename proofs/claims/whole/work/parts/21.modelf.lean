section GEN
variable {l : Launch} {D : va_G} {tA : Nat → ClassId} {lo : Nat} {p : Program} {e : Env} {s : State} {m : MethodId} {args : Array Value} {below : List Frame} {meth : Method} {c : Code}
theorem wd_672 : (Jvm.Cond.fieldLink "LanguageTagsModel" (259 : Nat) "LanguageTagsModel" "shownLength" "I") ∈ im_T := im_memT (i := 672) (by decide +kernel) (by decide +kernel)
theorem wd_673 : (Jvm.Cond.fieldLink "LanguageTagsModel" (87 : Nat) "LanguageTagsModel" "show" "[C") ∈ im_T := im_memT (i := 673) (by decide +kernel) (by decide +kernel)
theorem wd_912 : (Jvm.Cond.methodLink "LanguageTagsModel" (251 : Nat) ({ cls := "LanguageTagsModel", name := "none", desc := "(I)Z" } : Jvm.MethodName)) ∈ im_T := im_memT (i := 912) (by decide +kernel) (by decide +kernel)
theorem wd_914 : (Jvm.Cond.instanceMethod ({ cls := "LanguageTagsModel", name := "none", desc := "(I)Z" } : Jvm.MethodName)) ∈ im_T := im_memT (i := 914) (by decide +kernel) (by decide +kernel)
theorem wd_915 : (Jvm.Cond.code ({ cls := "LanguageTagsModel", name := "none", desc := "(I)Z" } : Jvm.MethodName) prog_12_method_42_code (2 : Nat) (Option.some Jvm.ClassFile.FieldType.boolean)) ∈ im_T := im_memT (i := 915) (by decide +kernel) (by decide +kernel)
theorem wd_924 : (Jvm.Cond.methodLink "LanguageTagsModel" (255 : Nat) ({ cls := "LanguageTagsModel", name := "putMinimised", desc := "(I)V" } : Jvm.MethodName)) ∈ im_T := im_memT (i := 924) (by decide +kernel) (by decide +kernel)
theorem wd_926 : (Jvm.Cond.instanceMethod ({ cls := "LanguageTagsModel", name := "putMinimised", desc := "(I)V" } : Jvm.MethodName)) ∈ im_T := im_memT (i := 926) (by decide +kernel) (by decide +kernel)
theorem wd_927 : (Jvm.Cond.code ({ cls := "LanguageTagsModel", name := "putMinimised", desc := "(I)V" } : Jvm.MethodName) prog_12_method_41_code (5 : Nat) (Option.none : Option Jvm.ClassFile.FieldType)) ∈ im_T := im_memT (i := 927) (by decide +kernel) (by decide +kernel)
theorem d_Model_show_0 : decode c_Model_show 0 = .ok (.aload_n 0, 1) := by decide +kernel
theorem d_Model_show_1 : decode c_Model_show 1 = .ok (.iload_n 1, 1) := by decide +kernel
theorem d_Model_show_2 : decode c_Model_show 2 = .ok (.invokevirtual 251, 3) := by decide +kernel
theorem d_Model_show_5 : decode c_Model_show 5 = .ok (.ifCond .ne (12), 3) := by decide +kernel
theorem d_Model_show_8 : decode c_Model_show 8 = .ok (.iload_n 2, 1) := by decide +kernel
theorem d_Model_show_9 : decode c_Model_show 9 = .ok (.ifCond .lt (8), 3) := by decide +kernel
theorem d_Model_show_12 : decode c_Model_show 12 = .ok (.iload_n 2, 1) := by decide +kernel
theorem d_Model_show_13 : decode c_Model_show 13 = .ok (.iconst 3, 1) := by decide +kernel
theorem d_Model_show_14 : decode c_Model_show 14 = .ok (.if_icmp .le (5), 3) := by decide +kernel
theorem d_Model_show_17 : decode c_Model_show 17 = .ok (.iconst (-1), 1) := by decide +kernel
theorem d_Model_show_18 : decode c_Model_show 18 = .ok (.ireturn, 1) := by decide +kernel
theorem d_Model_show_19 : decode c_Model_show 19 = .ok (.iload_n 2, 1) := by decide +kernel
theorem d_Model_show_20 : decode c_Model_show 20 = .ok (.ifCond .ne (49), 3) := by decide +kernel
theorem d_Model_show_23 : decode c_Model_show 23 = .ok (.aload_n 0, 1) := by decide +kernel
theorem d_Model_show_24 : decode c_Model_show 24 = .ok (.aload_n 0, 1) := by decide +kernel
theorem d_Model_show_25 : decode c_Model_show 25 = .ok (.getfield 66, 3) := by decide +kernel
theorem d_Model_show_28 : decode c_Model_show 28 = .ok (.iload_n 1, 1) := by decide +kernel
theorem d_Model_show_29 : decode c_Model_show 29 = .ok (.iaload, 1) := by decide +kernel
theorem d_Model_show_30 : decode c_Model_show 30 = .ok (.putfield 177, 3) := by decide +kernel
theorem d_Model_show_33 : decode c_Model_show 33 = .ok (.iconst 0, 1) := by decide +kernel
theorem d_Model_show_34 : decode c_Model_show 34 = .ok (.istore_n 3, 1) := by decide +kernel
theorem d_Model_show_35 : decode c_Model_show 35 = .ok (.iload_n 3, 1) := by decide +kernel
theorem d_Model_show_36 : decode c_Model_show 36 = .ok (.aload_n 0, 1) := by decide +kernel
theorem d_Model_show_37 : decode c_Model_show 37 = .ok (.getfield 177, 3) := by decide +kernel
theorem d_Model_show_40 : decode c_Model_show 40 = .ok (.if_icmp .ge (26), 3) := by decide +kernel
theorem d_Model_show_43 : decode c_Model_show 43 = .ok (.aload_n 0, 1) := by decide +kernel
theorem d_Model_show_44 : decode c_Model_show 44 = .ok (.getfield 26, 3) := by decide +kernel
theorem d_Model_show_47 : decode c_Model_show 47 = .ok (.iload_n 3, 1) := by decide +kernel
theorem d_Model_show_48 : decode c_Model_show 48 = .ok (.aload_n 0, 1) := by decide +kernel
theorem d_Model_show_49 : decode c_Model_show 49 = .ok (.getfield 63, 3) := by decide +kernel
theorem d_Model_show_52 : decode c_Model_show 52 = .ok (.bipush (80), 2) := by decide +kernel
theorem d_Model_show_54 : decode c_Model_show 54 = .ok (.iload_n 1, 1) := by decide +kernel
theorem d_Model_show_55 : decode c_Model_show 55 = .ok (.imul, 1) := by decide +kernel
theorem d_Model_show_56 : decode c_Model_show 56 = .ok (.iload_n 3, 1) := by decide +kernel
theorem d_Model_show_57 : decode c_Model_show 57 = .ok (.iadd, 1) := by decide +kernel
theorem d_Model_show_58 : decode c_Model_show 58 = .ok (.caload, 1) := by decide +kernel
theorem d_Model_show_59 : decode c_Model_show 59 = .ok (.castore, 1) := by decide +kernel
theorem d_Model_show_60 : decode c_Model_show 60 = .ok (.iinc 3 (1), 3) := by decide +kernel
theorem d_Model_show_63 : decode c_Model_show 63 = .ok (.goto (-28), 3) := by decide +kernel
theorem d_Model_show_66 : decode c_Model_show 66 = .ok (.goto (84), 3) := by decide +kernel
theorem d_Model_show_69 : decode c_Model_show 69 = .ok (.iload_n 2, 1) := by decide +kernel
theorem d_Model_show_70 : decode c_Model_show 70 = .ok (.iconst 1, 1) := by decide +kernel
theorem d_Model_show_71 : decode c_Model_show 71 = .ok (.if_icmp .ne (28), 3) := by decide +kernel
theorem d_Model_show_74 : decode c_Model_show 74 = .ok (.aload_n 0, 1) := by decide +kernel
theorem d_Model_show_75 : decode c_Model_show 75 = .ok (.aload_n 0, 1) := by decide +kernel
theorem d_Model_show_76 : decode c_Model_show 76 = .ok (.getfield 69, 3) := by decide +kernel
theorem d_Model_show_79 : decode c_Model_show 79 = .ok (.iload_n 1, 1) := by decide +kernel
theorem d_Model_show_80 : decode c_Model_show 80 = .ok (.iaload, 1) := by decide +kernel
theorem d_Model_show_81 : decode c_Model_show 81 = .ok (.aload_n 0, 1) := by decide +kernel
theorem d_Model_show_82 : decode c_Model_show 82 = .ok (.getfield 72, 3) := by decide +kernel
theorem d_Model_show_85 : decode c_Model_show 85 = .ok (.iload_n 1, 1) := by decide +kernel
theorem d_Model_show_86 : decode c_Model_show 86 = .ok (.iaload, 1) := by decide +kernel
theorem d_Model_show_87 : decode c_Model_show 87 = .ok (.aload_n 0, 1) := by decide +kernel
theorem d_Model_show_88 : decode c_Model_show 88 = .ok (.getfield 75, 3) := by decide +kernel
theorem d_Model_show_91 : decode c_Model_show 91 = .ok (.iload_n 1, 1) := by decide +kernel
theorem d_Model_show_92 : decode c_Model_show 92 = .ok (.iaload, 1) := by decide +kernel
theorem d_Model_show_93 : decode c_Model_show 93 = .ok (.invokevirtual 195, 3) := by decide +kernel
theorem d_Model_show_96 : decode c_Model_show 96 = .ok (.goto (54), 3) := by decide +kernel
theorem d_Model_show_99 : decode c_Model_show 99 = .ok (.iload_n 2, 1) := by decide +kernel
theorem d_Model_show_100 : decode c_Model_show 100 = .ok (.iconst 2, 1) := by decide +kernel
theorem d_Model_show_101 : decode c_Model_show 101 = .ok (.if_icmp .ne (44), 3) := by decide +kernel
theorem d_Model_show_104 : decode c_Model_show 104 = .ok (.aload_n 0, 1) := by decide +kernel
theorem d_Model_show_105 : decode c_Model_show 105 = .ok (.aload_n 0, 1) := by decide +kernel
theorem d_Model_show_106 : decode c_Model_show 106 = .ok (.getfield 69, 3) := by decide +kernel
theorem d_Model_show_109 : decode c_Model_show 109 = .ok (.iload_n 1, 1) := by decide +kernel
theorem d_Model_show_110 : decode c_Model_show 110 = .ok (.iaload, 1) := by decide +kernel
theorem d_Model_show_111 : decode c_Model_show 111 = .ok (.aload_n 0, 1) := by decide +kernel
theorem d_Model_show_112 : decode c_Model_show 112 = .ok (.getfield 72, 3) := by decide +kernel
theorem d_Model_show_115 : decode c_Model_show 115 = .ok (.iload_n 1, 1) := by decide +kernel
theorem d_Model_show_116 : decode c_Model_show 116 = .ok (.iaload, 1) := by decide +kernel
theorem d_Model_show_117 : decode c_Model_show 117 = .ok (.aload_n 0, 1) := by decide +kernel
theorem d_Model_show_118 : decode c_Model_show 118 = .ok (.getfield 75, 3) := by decide +kernel
theorem d_Model_show_121 : decode c_Model_show 121 = .ok (.iload_n 1, 1) := by decide +kernel
theorem d_Model_show_122 : decode c_Model_show 122 = .ok (.iaload, 1) := by decide +kernel
theorem d_Model_show_123 : decode c_Model_show 123 = .ok (.invokevirtual 244, 3) := by decide +kernel
theorem d_Model_show_126 : decode c_Model_show 126 = .ok (.aload_n 0, 1) := by decide +kernel
theorem d_Model_show_127 : decode c_Model_show 127 = .ok (.aload_n 0, 1) := by decide +kernel
theorem d_Model_show_128 : decode c_Model_show 128 = .ok (.getfield 232, 3) := by decide +kernel
theorem d_Model_show_131 : decode c_Model_show 131 = .ok (.aload_n 0, 1) := by decide +kernel
theorem d_Model_show_132 : decode c_Model_show 132 = .ok (.getfield 235, 3) := by decide +kernel
theorem d_Model_show_135 : decode c_Model_show 135 = .ok (.aload_n 0, 1) := by decide +kernel
theorem d_Model_show_136 : decode c_Model_show 136 = .ok (.getfield 238, 3) := by decide +kernel
theorem d_Model_show_139 : decode c_Model_show 139 = .ok (.invokevirtual 195, 3) := by decide +kernel
theorem d_Model_show_142 : decode c_Model_show 142 = .ok (.goto (8), 3) := by decide +kernel
theorem d_Model_show_145 : decode c_Model_show 145 = .ok (.aload_n 0, 1) := by decide +kernel
theorem d_Model_show_146 : decode c_Model_show 146 = .ok (.iload_n 1, 1) := by decide +kernel
theorem d_Model_show_147 : decode c_Model_show 147 = .ok (.invokevirtual 255, 3) := by decide +kernel
theorem d_Model_show_150 : decode c_Model_show 150 = .ok (.aload_n 0, 1) := by decide +kernel
theorem d_Model_show_151 : decode c_Model_show 151 = .ok (.aload_n 0, 1) := by decide +kernel
theorem d_Model_show_152 : decode c_Model_show 152 = .ok (.getfield 177, 3) := by decide +kernel
theorem d_Model_show_155 : decode c_Model_show 155 = .ok (.putfield 259, 3) := by decide +kernel
theorem d_Model_show_158 : decode c_Model_show 158 = .ok (.iconst 0, 1) := by decide +kernel
theorem d_Model_show_159 : decode c_Model_show 159 = .ok (.istore_n 3, 1) := by decide +kernel
theorem d_Model_show_160 : decode c_Model_show 160 = .ok (.iload_n 3, 1) := by decide +kernel
theorem d_Model_show_161 : decode c_Model_show 161 = .ok (.aload_n 0, 1) := by decide +kernel
theorem d_Model_show_162 : decode c_Model_show 162 = .ok (.getfield 177, 3) := by decide +kernel
theorem d_Model_show_165 : decode c_Model_show 165 = .ok (.if_icmp .ge (21), 3) := by decide +kernel
theorem d_Model_show_168 : decode c_Model_show 168 = .ok (.aload_n 0, 1) := by decide +kernel
theorem d_Model_show_169 : decode c_Model_show 169 = .ok (.getfield 87, 3) := by decide +kernel
theorem d_Model_show_172 : decode c_Model_show 172 = .ok (.iload_n 3, 1) := by decide +kernel
theorem d_Model_show_173 : decode c_Model_show 173 = .ok (.aload_n 0, 1) := by decide +kernel
theorem d_Model_show_174 : decode c_Model_show 174 = .ok (.getfield 26, 3) := by decide +kernel
theorem d_Model_show_177 : decode c_Model_show 177 = .ok (.iload_n 3, 1) := by decide +kernel
theorem d_Model_show_178 : decode c_Model_show 178 = .ok (.caload, 1) := by decide +kernel
theorem d_Model_show_179 : decode c_Model_show 179 = .ok (.castore, 1) := by decide +kernel
theorem d_Model_show_180 : decode c_Model_show 180 = .ok (.iinc 3 (1), 3) := by decide +kernel
theorem d_Model_show_183 : decode c_Model_show 183 = .ok (.goto (-23), 3) := by decide +kernel
theorem d_Model_show_186 : decode c_Model_show 186 = .ok (.aload_n 0, 1) := by decide +kernel
theorem d_Model_show_187 : decode c_Model_show 187 = .ok (.getfield 259, 3) := by decide +kernel
theorem d_Model_show_190 : decode c_Model_show 190 = .ok (.ireturn, 1) := by decide +kernel
def sh_Model_show_17 (F : Nat)  (w : im_W) : Option (Int32 × im_W) :=
  some ((-1 : Int32), w)
set_option maxHeartbeats 4000000 in
set_option maxRecDepth 100000 in
theorem bk_Model_show_17 {F : Nat} {r : Int32 × im_W} (X : im_X D vwCl tA lo im_NW c_Model_show 4 (some .int) RC_Model im_T p s m args meth c)  (w : im_W) (hsh : sh_Model_show_17 F w = some r) : im_WW D vwCl tA lo 4 p l e (im_rm 4 99) s m args below meth c 0 0 (MQ below (im_Post D vwCl tA lo (some (.int r.1)) r.2) args s 0 0 (fun q => lo ≤ q)) 17 [] [] w := by
  obtain ⟨hx, hb, hr, hts, hown, hlk, hml, hK, hN⟩ := id X
  intro H locs ls hH hl
  unfold sh_Model_show_17 at hsh
  refine lv_iconst (v := -1) hx hb d_Model_show_17 (by decide) ?_
  obtain rfl := Option.some.inj hsh
  exact im_iret hx hb hr hlk hH d_Model_show_18
def sh_Model_show_160 (F : Nat) : Nat → Nat → Int32 → im_W → Option (Int32 × im_W)
  | 0, _, _, _ => none
  | f + 1, x0, x3, w => (im_gI w 9 x0 13).bind fun f1 => (if f1 ≤ x3 then (im_gI w 9 x0 41).bind fun f3 => some (f3, w) else (im_gR w 9 x0 42).bind fun f5 => (im_gR w 9 x0 14).bind fun f7 => (im_lI w 2 f7 x3).bind fun e9 => (im_sI w 2 f5 x3 (vp_nar .char e9)).bind fun w11 => (sh_Model_show_160 F f) x0 (x3 + (1 : Int32)) w11)
set_option maxHeartbeats 4000000 in
set_option maxRecDepth 100000 in
theorem bk_Model_show_160 {F : Nat} {r : Int32 × im_W} (X : im_X D vwCl tA lo im_NW c_Model_show 4 (some .int) RC_Model im_T p s m args meth c) : ∀ (f : Nat) (x0 : Nat) (x3 : Int32) (w : im_W), sh_Model_show_160 F f x0 x3 w = some r → im_WW D vwCl tA lo 4 p l e (im_rm 4 99) s m args below meth c 0 0 (MQ below (im_Post D vwCl tA lo (some (.int r.1)) r.2) args s 0 0 (fun q => lo ≤ q)) 160 [(0, .ref (lo + x0)), (3, .int x3)] [] w := by
  obtain ⟨hx, hb, hr, hts, hown, hlk, hml, hK, hN⟩ := id X
  intro f
  induction f with
  | zero =>
    intro x0 x3 w hsh
    cases hsh
  | succ f ih =>
    intro x0 x3 w hsh H locs ls hH hl
    unfold sh_Model_show_160 at hsh
    refine lv_iload_n hx hb d_Model_show_160 rfl (lv_at hl 1 rfl) ?_
    refine lv_aload_n hx hb d_Model_show_161 rfl (lv_at hl 0 rfl) ?_
    obtain ⟨f1, h2, hsh⟩ := im_bd hsh
    refine im_getI hx hb hts inC_Model hown hK hH (ci := 9) rfl 13 (by decide) (hts _ wd_644) rfl h2 d_Model_show_162 ?_
    refine lv_icmp_ge (tgt := 186) hx hb d_Model_show_165 (by decide) (fun cc => ?_) (fun cc => ?_)
    · have hsh := im_it hsh cc
      refine lv_aload_n hx hb d_Model_show_186 rfl (lv_at hl 0 rfl) ?_
      obtain ⟨f3, h4, hsh⟩ := im_bd hsh
      refine im_getI hx hb hts inC_Model hown hK hH (ci := 9) rfl 41 (by decide) (hts _ wd_672) rfl h4 d_Model_show_187 ?_
      obtain rfl := Option.some.inj hsh
      exact im_iret hx hb hr hlk hH d_Model_show_190
    · have hsh := im_if hsh cc
      refine lv_aload_n hx hb d_Model_show_168 rfl (lv_at hl 0 rfl) ?_
      obtain ⟨f5, h6, hsh⟩ := im_bd hsh
      refine im_getR hx hb hts inC_Model hown hK hH (ci := 9) rfl 42 (by decide) (hts _ wd_673) rfl h6 d_Model_show_169 ?_
      refine lv_iload_n hx hb d_Model_show_172 rfl (lv_at hl 1 rfl) ?_
      refine lv_aload_n hx hb d_Model_show_173 rfl (lv_at hl 0 rfl) ?_
      obtain ⟨f7, h8, hsh⟩ := im_bd hsh
      refine im_getR hx hb hts inC_Model hown hK hH (ci := 9) rfl 14 (by decide) (hts _ wd_645) rfl h8 d_Model_show_174 ?_
      refine lv_iload_n hx hb d_Model_show_177 rfl (lv_at hl 1 rfl) ?_
      obtain ⟨e9, h10, hsh⟩ := im_bd hsh
      refine im_cald hx hb hK hH h10 d_Model_show_178 ?_
      obtain ⟨w11, h12, hsh⟩ := im_bd hsh
      refine im_cast hx hb hK hH h12 d_Model_show_179 (fun H locs hH => ?_)
      refine lv_iinc (v := (x3 + (1 : Int32))) (lv' := [(3, .int (x3 + (1 : Int32))), (0, .ref (lo + x0))]) hx hb d_Model_show_180 hl (k := 1) rfl rfl (by decide) rfl (fun ls hl => ?_)
      refine lv_goto (tgt := 160) hx hb d_Model_show_183 (by decide) ?_
      exact ih x0 (x3 + (1 : Int32)) w11 hsh H locs ls hH (lv_sub hl [1, 0] rfl)
def sh_Model_show_150 (F : Nat) (x0 : Nat) (w : im_W) : Option (Int32 × im_W) :=
  (im_gI w 9 x0 13).bind fun f1 => (im_pV w 9 x0 41 (.int f1)).bind fun w3 => sh_Model_show_160 F F x0 (0 : Int32) w3
set_option maxHeartbeats 4000000 in
set_option maxRecDepth 100000 in
theorem bk_Model_show_150 {F : Nat} {r : Int32 × im_W} (X : im_X D vwCl tA lo im_NW c_Model_show 4 (some .int) RC_Model im_T p s m args meth c) (x0 : Nat) (w : im_W) (hsh : sh_Model_show_150 F x0 w = some r) : im_WW D vwCl tA lo 4 p l e (im_rm 4 99) s m args below meth c 0 0 (MQ below (im_Post D vwCl tA lo (some (.int r.1)) r.2) args s 0 0 (fun q => lo ≤ q)) 150 [(0, .ref (lo + x0))] [] w := by
  obtain ⟨hx, hb, hr, hts, hown, hlk, hml, hK, hN⟩ := id X
  intro H locs ls hH hl
  unfold sh_Model_show_150 at hsh
  refine lv_aload_n hx hb d_Model_show_150 rfl (lv_at hl 0 rfl) ?_
  refine lv_aload_n hx hb d_Model_show_151 rfl (lv_at hl 0 rfl) ?_
  obtain ⟨f1, h2, hsh⟩ := im_bd hsh
  refine im_getI hx hb hts inC_Model hown hK hH (ci := 9) rfl 13 (by decide) (hts _ wd_644) rfl h2 d_Model_show_152 ?_
  obtain ⟨w3, h4, hsh⟩ := im_bd hsh
  refine im_put (v := .int f1) hx hb hts inC_Model tyC_Model tyC_Model_ok nmC_Model hown hK hH (ci := 9) rfl 41 (by decide) (hts _ wd_672) rfl rfl rfl rfl h4 d_Model_show_155 (fun H locs hH => ?_)
  refine lv_iconst (v := 0) hx hb d_Model_show_158 (by decide) ?_
  refine lv_istore_n (lv' := [(3, .int (0 : Int32)), (0, .ref (lo + x0))]) hx hb d_Model_show_159 rfl hl (by decide) rfl (fun ls hl => ?_)
  exact bk_Model_show_160 X F x0 (0 : Int32) w3 hsh H locs ls hH (lv_sub hl [1, 0] rfl)
def sh_Model_show_35 (F : Nat) : Nat → Nat → Int32 → Int32 → im_W → Option (Int32 × im_W)
  | 0, _, _, _, _ => none
  | f + 1, x0, x1, x3, w => (im_gI w 9 x0 13).bind fun f1 => (if f1 ≤ x3 then sh_Model_show_150 F x0 w else (im_gR w 9 x0 14).bind fun f3 => (im_gR w 9 x0 32).bind fun f5 => (im_lI w 2 f5 (((80 : Int32) * x1) + x3)).bind fun e7 => (im_sI w 2 f3 x3 (vp_nar .char e7)).bind fun w9 => (sh_Model_show_35 F f) x0 x1 (x3 + (1 : Int32)) w9)
set_option maxHeartbeats 4000000 in
set_option maxRecDepth 100000 in
theorem bk_Model_show_35 {F : Nat} {r : Int32 × im_W} (X : im_X D vwCl tA lo im_NW c_Model_show 4 (some .int) RC_Model im_T p s m args meth c) : ∀ (f : Nat) (x0 : Nat) (x1 : Int32) (x3 : Int32) (w : im_W), sh_Model_show_35 F f x0 x1 x3 w = some r → im_WW D vwCl tA lo 4 p l e (im_rm 4 99) s m args below meth c 0 0 (MQ below (im_Post D vwCl tA lo (some (.int r.1)) r.2) args s 0 0 (fun q => lo ≤ q)) 35 [(0, .ref (lo + x0)), (1, .int x1), (3, .int x3)] [] w := by
  obtain ⟨hx, hb, hr, hts, hown, hlk, hml, hK, hN⟩ := id X
  intro f
  induction f with
  | zero =>
    intro x0 x1 x3 w hsh
    cases hsh
  | succ f ih =>
    intro x0 x1 x3 w hsh H locs ls hH hl
    unfold sh_Model_show_35 at hsh
    refine lv_iload_n hx hb d_Model_show_35 rfl (lv_at hl 2 rfl) ?_
    refine lv_aload_n hx hb d_Model_show_36 rfl (lv_at hl 0 rfl) ?_
    obtain ⟨f1, h2, hsh⟩ := im_bd hsh
    refine im_getI hx hb hts inC_Model hown hK hH (ci := 9) rfl 13 (by decide) (hts _ wd_644) rfl h2 d_Model_show_37 ?_
    refine lv_icmp_ge (tgt := 66) hx hb d_Model_show_40 (by decide) (fun cc => ?_) (fun cc => ?_)
    · have hsh := im_it hsh cc
      refine lv_goto (tgt := 150) hx hb d_Model_show_66 (by decide) ?_
      exact bk_Model_show_150 X x0 w hsh H locs ls hH (lv_sub hl [0] rfl)
    · have hsh := im_if hsh cc
      refine lv_aload_n hx hb d_Model_show_43 rfl (lv_at hl 0 rfl) ?_
      obtain ⟨f3, h4, hsh⟩ := im_bd hsh
      refine im_getR hx hb hts inC_Model hown hK hH (ci := 9) rfl 14 (by decide) (hts _ wd_645) rfl h4 d_Model_show_44 ?_
      refine lv_iload_n hx hb d_Model_show_47 rfl (lv_at hl 2 rfl) ?_
      refine lv_aload_n hx hb d_Model_show_48 rfl (lv_at hl 0 rfl) ?_
      obtain ⟨f5, h6, hsh⟩ := im_bd hsh
      refine im_getR hx hb hts inC_Model hown hK hH (ci := 9) rfl 32 (by decide) (hts _ wd_663) rfl h6 d_Model_show_49 ?_
      refine lv_bipush (v := 80) hx hb d_Model_show_52 (by decide) ?_
      refine lv_iload_n hx hb d_Model_show_54 rfl (lv_at hl 1 rfl) ?_
      refine lv_imul hx hb d_Model_show_55 ?_
      refine lv_iload_n hx hb d_Model_show_56 rfl (lv_at hl 2 rfl) ?_
      refine lv_iadd hx hb d_Model_show_57 ?_
      obtain ⟨e7, h8, hsh⟩ := im_bd hsh
      refine im_cald hx hb hK hH h8 d_Model_show_58 ?_
      obtain ⟨w9, h10, hsh⟩ := im_bd hsh
      refine im_cast hx hb hK hH h10 d_Model_show_59 (fun H locs hH => ?_)
      refine lv_iinc (v := (x3 + (1 : Int32))) (lv' := [(3, .int (x3 + (1 : Int32))), (0, .ref (lo + x0)), (1, .int x1)]) hx hb d_Model_show_60 hl (k := 2) rfl rfl (by decide) rfl (fun ls hl => ?_)
      refine lv_goto (tgt := 35) hx hb d_Model_show_63 (by decide) ?_
      exact ih x0 x1 (x3 + (1 : Int32)) w9 hsh H locs ls hH (lv_sub hl [1, 2, 0] rfl)
def sh_Model_show (F : Nat) (x0 : Nat) (x1 : Int32) (x2 : Int32) (w : im_W) : Option (Int32 × im_W) :=
  (im_is w 9 x0).bind fun u1 => im_b2 (sh_Model_none F x0 x1 w) fun v7 w5 => (if v7 = 0 then (if x2 < 0 then sh_Model_show_17 F w5 else (if x2 ≤ (3 : Int32) then (if x2 = 0 then (im_gR w5 9 x0 33).bind fun f62 => (im_lI w5 0 f62 x1).bind fun e64 => (im_pV w5 9 x0 13 (.int e64)).bind fun w66 => sh_Model_show_35 F F x0 x1 (0 : Int32) w66 else (if x2 = (1 : Int32) then (im_gR w5 9 x0 34).bind fun f44 => (im_lI w5 0 f44 x1).bind fun e46 => (im_gR w5 9 x0 35).bind fun f48 => (im_lI w5 0 f48 x1).bind fun e50 => (im_gR w5 9 x0 36).bind fun f52 => (im_lI w5 0 f52 x1).bind fun e54 => (im_is w5 9 x0).bind fun u56 => (sh_Model_putShort F x0 e46 e50 e54 w5).bind fun w60 => sh_Model_show_150 F x0 w60 else (if x2 = (2 : Int32) then (im_gR w5 9 x0 34).bind fun f14 => (im_lI w5 0 f14 x1).bind fun e16 => (im_gR w5 9 x0 35).bind fun f18 => (im_lI w5 0 f18 x1).bind fun e20 => (im_gR w5 9 x0 36).bind fun f22 => (im_lI w5 0 f22 x1).bind fun e24 => (im_is w5 9 x0).bind fun u26 => (sh_Model_maximise F x0 e16 e20 e24 w5).bind fun w30 => (im_gI w30 9 x0 28).bind fun f32 => (im_gI w30 9 x0 29).bind fun f34 => (im_gI w30 9 x0 30).bind fun f36 => (im_is w30 9 x0).bind fun u38 => (sh_Model_putShort F x0 f32 f34 f36 w30).bind fun w42 => sh_Model_show_150 F x0 w42 else (im_is w5 9 x0).bind fun u8 => (sh_Model_putMinimised F x0 x1 w5).bind fun w12 => sh_Model_show_150 F x0 w12))) else sh_Model_show_17 F w5)) else sh_Model_show_17 F w5)
set_option maxHeartbeats 4000000 in
set_option maxRecDepth 100000 in
theorem met_Model_show {F : Nat} {x0 : Nat} {x1 : Int32} {x2 : Int32} {w : im_W} {r : Int32 × im_W} (hsh : sh_Model_show F x0 x1 x2 w = some r) : Met l y_Model_show (Cond.code y_Model_show c_Model_show 4 (some .int) :: im_T) (im_rm 4 99) (im_Pre D vwCl tA lo im_NW [.ref (lo + x0), .int x1, .int x2] w) (im_Post D vwCl tA lo (some (.int r.1)) r.2) 0 0 (fun q => lo ≤ q) := by
  refine im_ofW (cc := c_Model_show) (nL := 4) (ret := (some .int)) (by decide) (Nat.le_of_ble_eq_true rfl) ?_
  intro p e s m args below meth c X H locs ls hH hl
  obtain ⟨hx, hb, hr, hts, hown, hlk, hml, hK, hN⟩ := id X
  have hl : lv_has ls 4 [(0, .ref (lo + x0)), (1, .int x1), (2, .int x2)] := hl
  unfold sh_Model_show at hsh
  refine lv_aload_n hx hb d_Model_show_0 rfl (lv_at hl 0 rfl) ?_
  refine lv_iload_n hx hb d_Model_show_1 rfl (lv_at hl 1 rfl) ?_
  obtain ⟨u1, h2, hsh⟩ := im_bd hsh
  obtain ⟨g3, h4⟩ := im_is_s h2
  obtain ⟨v7, w5, h6, hsh⟩ := im_bd2 hsh
  refine im_afterI (va_runV (As := [.int x1]) (rest := []) (C := RC_Model) ⟨hx, hb, hml, hown, hts⟩ (met_Model_none h6) ⟨(callB_of 1 hts (im_good wd_915) rfl rfl rfl (hts _ wd_10) (hts _ wd_912) (by decide +kernel) ⟨Nat.le_of_ble_eq_true rfl, Nat.le_of_ble_eq_true rfl⟩), hts _ wd_914, hts _ sl_Model_none⟩ (im_preV im_NW_ok hK hN hH (ci := 9) rfl rfl h4 _) rfl rfl hl.1 rfl (lv_room (Nat.le_of_ble_eq_true rfl)) d_Model_show_2 ⟨Nat.le_of_ble_eq_true rfl, Nat.le_of_ble_eq_true rfl⟩) hH (fun H locs hH => ?_)
  refine lv_if_ne (tgt := 17) hx hb d_Model_show_5 (by decide) (fun cc => ?_) (fun cc => ?_)
  · have hsh := im_if hsh cc
    exact bk_Model_show_17 X w5 hsh H locs ls hH (lv_sub hl [] rfl)
  · have hsh := im_it hsh cc
    refine lv_iload_n hx hb d_Model_show_8 rfl (lv_at hl 2 rfl) ?_
    refine lv_if_lt (tgt := 17) hx hb d_Model_show_9 (by decide) (fun cc => ?_) (fun cc => ?_)
    · have hsh := im_it hsh cc
      exact bk_Model_show_17 X w5 hsh H locs ls hH (lv_sub hl [] rfl)
    · have hsh := im_if hsh cc
      refine lv_iload_n hx hb d_Model_show_12 rfl (lv_at hl 2 rfl) ?_
      refine lv_iconst (v := 3) hx hb d_Model_show_13 (by decide) ?_
      refine lv_icmp_le (tgt := 19) hx hb d_Model_show_14 (by decide) (fun cc => ?_) (fun cc => ?_)
      · have hsh := im_it hsh cc
        refine lv_iload_n hx hb d_Model_show_19 rfl (lv_at hl 2 rfl) ?_
        refine lv_if_ne (tgt := 69) hx hb d_Model_show_20 (by decide) (fun cc => ?_) (fun cc => ?_)
        · have hsh := im_if hsh cc
          refine lv_iload_n hx hb d_Model_show_69 rfl (lv_at hl 2 rfl) ?_
          refine lv_iconst (v := 1) hx hb d_Model_show_70 (by decide) ?_
          refine lv_icmp_ne (tgt := 99) hx hb d_Model_show_71 (by decide) (fun cc => ?_) (fun cc => ?_)
          · have hsh := im_if hsh cc
            refine lv_iload_n hx hb d_Model_show_99 rfl (lv_at hl 2 rfl) ?_
            refine lv_iconst (v := 2) hx hb d_Model_show_100 (by decide) ?_
            refine lv_icmp_ne (tgt := 145) hx hb d_Model_show_101 (by decide) (fun cc => ?_) (fun cc => ?_)
            · have hsh := im_if hsh cc
              refine lv_aload_n hx hb d_Model_show_145 rfl (lv_at hl 0 rfl) ?_
              refine lv_iload_n hx hb d_Model_show_146 rfl (lv_at hl 1 rfl) ?_
              obtain ⟨u8, h9, hsh⟩ := im_bd hsh
              obtain ⟨g10, h11⟩ := im_is_s h9
              obtain ⟨w12, h13, hsh⟩ := im_bd hsh
              refine im_afterV (va_runV (As := [.int x1]) (rest := []) (C := RC_Model) ⟨hx, hb, hml, hown, hts⟩ (met_Model_putMinimised h13) ⟨(callB_of 1 hts (im_good wd_927) rfl rfl rfl (hts _ wd_10) (hts _ wd_924) (by decide +kernel) ⟨Nat.le_of_ble_eq_true rfl, Nat.le_of_ble_eq_true rfl⟩), hts _ wd_926, hts _ sl_Model_putMinimised⟩ (im_preV im_NW_ok hK hN hH (ci := 9) rfl rfl h11 _) rfl rfl hl.1 rfl (lv_room (Nat.le_of_ble_eq_true rfl)) d_Model_show_147 ⟨Nat.le_of_ble_eq_true rfl, Nat.le_of_ble_eq_true rfl⟩) hH (fun H locs hH => ?_)
              exact bk_Model_show_150 X x0 w12 hsh H locs ls hH (lv_sub hl [0] rfl)
            · have hsh := im_it hsh cc
              refine lv_aload_n hx hb d_Model_show_104 rfl (lv_at hl 0 rfl) ?_
              refine lv_aload_n hx hb d_Model_show_105 rfl (lv_at hl 0 rfl) ?_
              obtain ⟨f14, h15, hsh⟩ := im_bd hsh
              refine im_getR hx hb hts inC_Model hown hK hH (ci := 9) rfl 34 (by decide) (hts _ wd_665) rfl h15 d_Model_show_106 ?_
              refine lv_iload_n hx hb d_Model_show_109 rfl (lv_at hl 1 rfl) ?_
              obtain ⟨e16, h17, hsh⟩ := im_bd hsh
              refine im_iald hx hb hK hH h17 d_Model_show_110 ?_
              refine lv_aload_n hx hb d_Model_show_111 rfl (lv_at hl 0 rfl) ?_
              obtain ⟨f18, h19, hsh⟩ := im_bd hsh
              refine im_getR hx hb hts inC_Model hown hK hH (ci := 9) rfl 35 (by decide) (hts _ wd_666) rfl h19 d_Model_show_112 ?_
              refine lv_iload_n hx hb d_Model_show_115 rfl (lv_at hl 1 rfl) ?_
              obtain ⟨e20, h21, hsh⟩ := im_bd hsh
              refine im_iald hx hb hK hH h21 d_Model_show_116 ?_
              refine lv_aload_n hx hb d_Model_show_117 rfl (lv_at hl 0 rfl) ?_
              obtain ⟨f22, h23, hsh⟩ := im_bd hsh
              refine im_getR hx hb hts inC_Model hown hK hH (ci := 9) rfl 36 (by decide) (hts _ wd_667) rfl h23 d_Model_show_118 ?_
              refine lv_iload_n hx hb d_Model_show_121 rfl (lv_at hl 1 rfl) ?_
              obtain ⟨e24, h25, hsh⟩ := im_bd hsh
              refine im_iald hx hb hK hH h25 d_Model_show_122 ?_
              obtain ⟨u26, h27, hsh⟩ := im_bd hsh
              obtain ⟨g28, h29⟩ := im_is_s h27
              obtain ⟨w30, h31, hsh⟩ := im_bd hsh
              refine im_afterV (va_runV (As := [.int e16, .int e20, .int e24]) (rest := []) (C := RC_Model) ⟨hx, hb, hml, hown, hts⟩ (met_Model_maximise h31) ⟨(callB_of 3 hts (im_good wd_919) rfl rfl rfl (hts _ wd_10) (hts _ wd_916) (by decide +kernel) ⟨Nat.le_of_ble_eq_true rfl, Nat.le_of_ble_eq_true rfl⟩), hts _ wd_918, hts _ sl_Model_maximise⟩ (im_preV im_NW_ok hK hN hH (ci := 9) rfl rfl h29 _) rfl rfl hl.1 rfl (lv_room (Nat.le_of_ble_eq_true rfl)) d_Model_show_123 ⟨Nat.le_of_ble_eq_true rfl, Nat.le_of_ble_eq_true rfl⟩) hH (fun H locs hH => ?_)
              refine lv_aload_n hx hb d_Model_show_126 rfl (lv_at hl 0 rfl) ?_
              refine lv_aload_n hx hb d_Model_show_127 rfl (lv_at hl 0 rfl) ?_
              obtain ⟨f32, h33, hsh⟩ := im_bd hsh
              refine im_getI hx hb hts inC_Model hown hK hH (ci := 9) rfl 28 (by decide) (hts _ wd_659) rfl h33 d_Model_show_128 ?_
              refine lv_aload_n hx hb d_Model_show_131 rfl (lv_at hl 0 rfl) ?_
              obtain ⟨f34, h35, hsh⟩ := im_bd hsh
              refine im_getI hx hb hts inC_Model hown hK hH (ci := 9) rfl 29 (by decide) (hts _ wd_660) rfl h35 d_Model_show_132 ?_
              refine lv_aload_n hx hb d_Model_show_135 rfl (lv_at hl 0 rfl) ?_
              obtain ⟨f36, h37, hsh⟩ := im_bd hsh
              refine im_getI hx hb hts inC_Model hown hK hH (ci := 9) rfl 30 (by decide) (hts _ wd_661) rfl h37 d_Model_show_136 ?_
              obtain ⟨u38, h39, hsh⟩ := im_bd hsh
              obtain ⟨g40, h41⟩ := im_is_s h39
              obtain ⟨w42, h43, hsh⟩ := im_bd hsh
              refine im_afterV (va_runV (As := [.int f32, .int f34, .int f36]) (rest := []) (C := RC_Model) ⟨hx, hb, hml, hown, hts⟩ (met_Model_putShort h43) ⟨(callB_of 3 hts (im_good wd_863) rfl rfl rfl (hts _ wd_10) (hts _ wd_860) (by decide +kernel) ⟨Nat.le_of_ble_eq_true rfl, Nat.le_of_ble_eq_true rfl⟩), hts _ wd_862, hts _ sl_Model_putShort⟩ (im_preV im_NW_ok hK hN hH (ci := 9) rfl rfl h41 _) rfl rfl hl.1 rfl (lv_room (Nat.le_of_ble_eq_true rfl)) d_Model_show_139 ⟨Nat.le_of_ble_eq_true rfl, Nat.le_of_ble_eq_true rfl⟩) hH (fun H locs hH => ?_)
              refine lv_goto (tgt := 150) hx hb d_Model_show_142 (by decide) ?_
              exact bk_Model_show_150 X x0 w42 hsh H locs ls hH (lv_sub hl [0] rfl)
          · have hsh := im_it hsh cc
            refine lv_aload_n hx hb d_Model_show_74 rfl (lv_at hl 0 rfl) ?_
            refine lv_aload_n hx hb d_Model_show_75 rfl (lv_at hl 0 rfl) ?_
            obtain ⟨f44, h45, hsh⟩ := im_bd hsh
            refine im_getR hx hb hts inC_Model hown hK hH (ci := 9) rfl 34 (by decide) (hts _ wd_665) rfl h45 d_Model_show_76 ?_
            refine lv_iload_n hx hb d_Model_show_79 rfl (lv_at hl 1 rfl) ?_
            obtain ⟨e46, h47, hsh⟩ := im_bd hsh
            refine im_iald hx hb hK hH h47 d_Model_show_80 ?_
            refine lv_aload_n hx hb d_Model_show_81 rfl (lv_at hl 0 rfl) ?_
            obtain ⟨f48, h49, hsh⟩ := im_bd hsh
            refine im_getR hx hb hts inC_Model hown hK hH (ci := 9) rfl 35 (by decide) (hts _ wd_666) rfl h49 d_Model_show_82 ?_
            refine lv_iload_n hx hb d_Model_show_85 rfl (lv_at hl 1 rfl) ?_
            obtain ⟨e50, h51, hsh⟩ := im_bd hsh
            refine im_iald hx hb hK hH h51 d_Model_show_86 ?_
            refine lv_aload_n hx hb d_Model_show_87 rfl (lv_at hl 0 rfl) ?_
            obtain ⟨f52, h53, hsh⟩ := im_bd hsh
            refine im_getR hx hb hts inC_Model hown hK hH (ci := 9) rfl 36 (by decide) (hts _ wd_667) rfl h53 d_Model_show_88 ?_
            refine lv_iload_n hx hb d_Model_show_91 rfl (lv_at hl 1 rfl) ?_
            obtain ⟨e54, h55, hsh⟩ := im_bd hsh
            refine im_iald hx hb hK hH h55 d_Model_show_92 ?_
            obtain ⟨u56, h57, hsh⟩ := im_bd hsh
            obtain ⟨g58, h59⟩ := im_is_s h57
            obtain ⟨w60, h61, hsh⟩ := im_bd hsh
            refine im_afterV (va_runV (As := [.int e46, .int e50, .int e54]) (rest := []) (C := RC_Model) ⟨hx, hb, hml, hown, hts⟩ (met_Model_putShort h61) ⟨(callB_of 3 hts (im_good wd_863) rfl rfl rfl (hts _ wd_10) (hts _ wd_860) (by decide +kernel) ⟨Nat.le_of_ble_eq_true rfl, Nat.le_of_ble_eq_true rfl⟩), hts _ wd_862, hts _ sl_Model_putShort⟩ (im_preV im_NW_ok hK hN hH (ci := 9) rfl rfl h59 _) rfl rfl hl.1 rfl (lv_room (Nat.le_of_ble_eq_true rfl)) d_Model_show_93 ⟨Nat.le_of_ble_eq_true rfl, Nat.le_of_ble_eq_true rfl⟩) hH (fun H locs hH => ?_)
            refine lv_goto (tgt := 150) hx hb d_Model_show_96 (by decide) ?_
            exact bk_Model_show_150 X x0 w60 hsh H locs ls hH (lv_sub hl [0] rfl)
        · have hsh := im_it hsh cc
          refine lv_aload_n hx hb d_Model_show_23 rfl (lv_at hl 0 rfl) ?_
          refine lv_aload_n hx hb d_Model_show_24 rfl (lv_at hl 0 rfl) ?_
          obtain ⟨f62, h63, hsh⟩ := im_bd hsh
          refine im_getR hx hb hts inC_Model hown hK hH (ci := 9) rfl 33 (by decide) (hts _ wd_664) rfl h63 d_Model_show_25 ?_
          refine lv_iload_n hx hb d_Model_show_28 rfl (lv_at hl 1 rfl) ?_
          obtain ⟨e64, h65, hsh⟩ := im_bd hsh
          refine im_iald hx hb hK hH h65 d_Model_show_29 ?_
          obtain ⟨w66, h67, hsh⟩ := im_bd hsh
          refine im_put (v := .int e64) hx hb hts inC_Model tyC_Model tyC_Model_ok nmC_Model hown hK hH (ci := 9) rfl 13 (by decide) (hts _ wd_644) rfl rfl rfl rfl h67 d_Model_show_30 (fun H locs hH => ?_)
          refine lv_iconst (v := 0) hx hb d_Model_show_33 (by decide) ?_
          refine lv_istore_n (lv' := [(3, .int (0 : Int32)), (0, .ref (lo + x0)), (1, .int x1), (2, .int x2)]) hx hb d_Model_show_34 rfl hl (by decide) rfl (fun ls hl => ?_)
          exact bk_Model_show_35 X F x0 x1 (0 : Int32) w66 hsh H locs ls hH (lv_sub hl [1, 2, 0] rfl)
      · have hsh := im_if hsh cc
        exact bk_Model_show_17 X w5 hsh H locs ls hH (lv_sub hl [] rfl)
theorem d_Model_shown_0 : decode c_Model_shown 0 = .ok (.iload_n 1, 1) := by decide +kernel
theorem d_Model_shown_1 : decode c_Model_shown 1 = .ok (.ifCond .lt (11), 3) := by decide +kernel
theorem d_Model_shown_4 : decode c_Model_shown 4 = .ok (.iload_n 1, 1) := by decide +kernel
theorem d_Model_shown_5 : decode c_Model_shown 5 = .ok (.aload_n 0, 1) := by decide +kernel
theorem d_Model_shown_6 : decode c_Model_shown 6 = .ok (.getfield 259, 3) := by decide +kernel
theorem d_Model_shown_9 : decode c_Model_shown 9 = .ok (.if_icmp .lt (8), 3) := by decide +kernel
theorem d_Model_shown_12 : decode c_Model_shown 12 = .ok (.bipush (32), 2) := by decide +kernel
theorem d_Model_shown_14 : decode c_Model_shown 14 = .ok (.goto (9), 3) := by decide +kernel
theorem d_Model_shown_17 : decode c_Model_shown 17 = .ok (.aload_n 0, 1) := by decide +kernel
theorem d_Model_shown_18 : decode c_Model_shown 18 = .ok (.getfield 87, 3) := by decide +kernel
theorem d_Model_shown_21 : decode c_Model_shown 21 = .ok (.iload_n 1, 1) := by decide +kernel
theorem d_Model_shown_22 : decode c_Model_shown 22 = .ok (.caload, 1) := by decide +kernel
theorem d_Model_shown_23 : decode c_Model_shown 23 = .ok (.ireturn, 1) := by decide +kernel
def sh_Model_shown_23 (F : Nat) (y0 : Int32) (w : im_W) : Option (Int32 × im_W) :=
  im_rc y0 w
set_option maxHeartbeats 4000000 in
set_option maxRecDepth 100000 in
theorem bk_Model_shown_23 {F : Nat} {r : Int32 × im_W} (X : im_X D vwCl tA lo im_NW c_Model_shown 2 (some .char) RC_Model im_T p s m args meth c) (y0 : Int32) (w : im_W) (hsh : sh_Model_shown_23 F y0 w = some r) : im_WW D vwCl tA lo 2 p l e (im_rm 0 0) s m args below meth c 0 0 (MQ below (im_Post D vwCl tA lo (some (.int r.1)) r.2) args s 0 0 (fun q => lo ≤ q)) 23 [] [.int y0] w := by
  obtain ⟨hx, hb, hr, hts, hown, hlk, hml, hK, hN⟩ := id X
  intro H locs ls hH hl
  unfold sh_Model_shown_23 at hsh
  obtain ⟨rfl, hn⟩ := im_rc_s hsh
  exact im_zret hx hb hr hlk hn hH d_Model_shown_23
def sh_Model_shown_12 (F : Nat)  (w : im_W) : Option (Int32 × im_W) :=
  sh_Model_shown_23 F (32 : Int32) w
set_option maxHeartbeats 4000000 in
set_option maxRecDepth 100000 in
theorem bk_Model_shown_12 {F : Nat} {r : Int32 × im_W} (X : im_X D vwCl tA lo im_NW c_Model_shown 2 (some .char) RC_Model im_T p s m args meth c)  (w : im_W) (hsh : sh_Model_shown_12 F w = some r) : im_WW D vwCl tA lo 2 p l e (im_rm 0 0) s m args below meth c 0 0 (MQ below (im_Post D vwCl tA lo (some (.int r.1)) r.2) args s 0 0 (fun q => lo ≤ q)) 12 [] [] w := by
  obtain ⟨hx, hb, hr, hts, hown, hlk, hml, hK, hN⟩ := id X
  intro H locs ls hH hl
  unfold sh_Model_shown_12 at hsh
  refine lv_bipush (v := 32) hx hb d_Model_shown_12 (by decide) ?_
  refine lv_goto (tgt := 23) hx hb d_Model_shown_14 (by decide) ?_
  exact bk_Model_shown_23 X (32 : Int32) w hsh H locs ls hH (lv_sub hl [] rfl)
def sh_Model_shown (F : Nat) (x0 : Nat) (x1 : Int32) (w : im_W) : Option (Int32 × im_W) :=
  (if x1 < 0 then sh_Model_shown_12 F w else (im_gI w 9 x0 41).bind fun f1 => (if x1 < f1 then (im_gR w 9 x0 42).bind fun f3 => (im_lI w 2 f3 x1).bind fun e5 => sh_Model_shown_23 F e5 w else sh_Model_shown_12 F w))
set_option maxHeartbeats 4000000 in
set_option maxRecDepth 100000 in
theorem met_Model_shown {F : Nat} {x0 : Nat} {x1 : Int32} {w : im_W} {r : Int32 × im_W} (hsh : sh_Model_shown F x0 x1 w = some r) : Met l y_Model_shown (Cond.code y_Model_shown c_Model_shown 2 (some .char) :: im_T) (im_rm 0 0) (im_Pre D vwCl tA lo im_NW [.ref (lo + x0), .int x1] w) (im_Post D vwCl tA lo (some (.int r.1)) r.2) 0 0 (fun q => lo ≤ q) := by
  refine im_ofW (cc := c_Model_shown) (nL := 2) (ret := (some .char)) (by decide) (Nat.le_of_ble_eq_true rfl) ?_
  intro p e s m args below meth c X H locs ls hH hl
  obtain ⟨hx, hb, hr, hts, hown, hlk, hml, hK, hN⟩ := id X
  have hl : lv_has ls 2 [(0, .ref (lo + x0)), (1, .int x1)] := hl
  unfold sh_Model_shown at hsh
  refine lv_iload_n hx hb d_Model_shown_0 rfl (lv_at hl 1 rfl) ?_
  refine lv_if_lt (tgt := 12) hx hb d_Model_shown_1 (by decide) (fun cc => ?_) (fun cc => ?_)
  · have hsh := im_it hsh cc
    exact bk_Model_shown_12 X w hsh H locs ls hH (lv_sub hl [] rfl)
  · have hsh := im_if hsh cc
    refine lv_iload_n hx hb d_Model_shown_4 rfl (lv_at hl 1 rfl) ?_
    refine lv_aload_n hx hb d_Model_shown_5 rfl (lv_at hl 0 rfl) ?_
    obtain ⟨f1, h2, hsh⟩ := im_bd hsh
    refine im_getI hx hb hts inC_Model hown hK hH (ci := 9) rfl 41 (by decide) (hts _ wd_672) rfl h2 d_Model_shown_6 ?_
    refine lv_icmp_lt (tgt := 17) hx hb d_Model_shown_9 (by decide) (fun cc => ?_) (fun cc => ?_)
    · have hsh := im_it hsh cc
      refine lv_aload_n hx hb d_Model_shown_17 rfl (lv_at hl 0 rfl) ?_
      obtain ⟨f3, h4, hsh⟩ := im_bd hsh
      refine im_getR hx hb hts inC_Model hown hK hH (ci := 9) rfl 42 (by decide) (hts _ wd_673) rfl h4 d_Model_shown_18 ?_
      refine lv_iload_n hx hb d_Model_shown_21 rfl (lv_at hl 1 rfl) ?_
      obtain ⟨e5, h6, hsh⟩ := im_bd hsh
      refine im_cald hx hb hK hH h6 d_Model_shown_22 ?_
      exact bk_Model_shown_23 X e5 w hsh H locs ls hH (lv_sub hl [] rfl)
    · have hsh := im_if hsh cc
      exact bk_Model_shown_12 X w hsh H locs ls hH (lv_sub hl [] rfl)
theorem d_Model_tags_0 : decode c_Model_tags 0 = .ok (.aload_n 0, 1) := by decide +kernel
theorem d_Model_tags_1 : decode c_Model_tags 1 = .ok (.getfield 208, 3) := by decide +kernel
theorem d_Model_tags_4 : decode c_Model_tags 4 = .ok (.ireturn, 1) := by decide +kernel
def sh_Model_tags (F : Nat) (x0 : Nat) (w : im_W) : Option (Int32 × im_W) :=
  (im_gI w 9 x0 31).bind fun f1 => some (f1, w)
set_option maxHeartbeats 4000000 in
set_option maxRecDepth 100000 in
theorem met_Model_tags {F : Nat} {x0 : Nat} {w : im_W} {r : Int32 × im_W} (hsh : sh_Model_tags F x0 w = some r) : Met l y_Model_tags (Cond.code y_Model_tags c_Model_tags 1 (some .int) :: im_T) (im_rm 0 0) (im_Pre D vwCl tA lo im_NW [.ref (lo + x0)] w) (im_Post D vwCl tA lo (some (.int r.1)) r.2) 0 0 (fun q => lo ≤ q) := by
  refine im_ofW (cc := c_Model_tags) (nL := 1) (ret := (some .int)) (by decide) (Nat.le_of_ble_eq_true rfl) ?_
  intro p e s m args below meth c X H locs ls hH hl
  obtain ⟨hx, hb, hr, hts, hown, hlk, hml, hK, hN⟩ := id X
  have hl : lv_has ls 1 [(0, .ref (lo + x0))] := hl
  unfold sh_Model_tags at hsh
  refine lv_aload_n hx hb d_Model_tags_0 rfl (lv_at hl 0 rfl) ?_
  obtain ⟨f1, h2, hsh⟩ := im_bd hsh
  refine im_getI hx hb hts inC_Model hown hK hH (ci := 9) rfl 31 (by decide) (hts _ wd_662) rfl h2 d_Model_tags_1 ?_
  obtain rfl := Option.some.inj hsh
  exact im_iret hx hb hr hlk hH d_Model_tags_4
theorem wd_670 : (Jvm.Cond.fieldLink "LanguageTagsModel" (262 : Nat) "LanguageTagsModel" "supported" "I") ∈ im_T := im_memT (i := 670) (by decide +kernel) (by decide +kernel)
theorem wd_671 : (Jvm.Cond.fieldLink "LanguageTagsModel" (84 : Nat) "LanguageTagsModel" "support" "[I") ∈ im_T := im_memT (i := 671) (by decide +kernel) (by decide +kernel)
theorem d_Model_isSupported_0 : decode c_Model_isSupported 0 = .ok (.iconst 0, 1) := by decide +kernel
theorem d_Model_isSupported_1 : decode c_Model_isSupported 1 = .ok (.istore_n 2, 1) := by decide +kernel
theorem d_Model_isSupported_2 : decode c_Model_isSupported 2 = .ok (.iload_n 2, 1) := by decide +kernel
theorem d_Model_isSupported_3 : decode c_Model_isSupported 3 = .ok (.aload_n 0, 1) := by decide +kernel
theorem d_Model_isSupported_4 : decode c_Model_isSupported 4 = .ok (.getfield 262, 3) := by decide +kernel
theorem d_Model_isSupported_7 : decode c_Model_isSupported 7 = .ok (.if_icmp .ge (21), 3) := by decide +kernel
theorem d_Model_isSupported_10 : decode c_Model_isSupported 10 = .ok (.aload_n 0, 1) := by decide +kernel
theorem d_Model_isSupported_11 : decode c_Model_isSupported 11 = .ok (.getfield 84, 3) := by decide +kernel
theorem d_Model_isSupported_14 : decode c_Model_isSupported 14 = .ok (.iload_n 2, 1) := by decide +kernel
theorem d_Model_isSupported_15 : decode c_Model_isSupported 15 = .ok (.iaload, 1) := by decide +kernel
theorem d_Model_isSupported_16 : decode c_Model_isSupported 16 = .ok (.iload_n 1, 1) := by decide +kernel
theorem d_Model_isSupported_17 : decode c_Model_isSupported 17 = .ok (.if_icmp .ne (5), 3) := by decide +kernel
theorem d_Model_isSupported_20 : decode c_Model_isSupported 20 = .ok (.iconst 1, 1) := by decide +kernel
theorem d_Model_isSupported_21 : decode c_Model_isSupported 21 = .ok (.ireturn, 1) := by decide +kernel
theorem d_Model_isSupported_22 : decode c_Model_isSupported 22 = .ok (.iinc 2 (1), 3) := by decide +kernel
theorem d_Model_isSupported_25 : decode c_Model_isSupported 25 = .ok (.goto (-23), 3) := by decide +kernel
theorem d_Model_isSupported_28 : decode c_Model_isSupported 28 = .ok (.iconst 0, 1) := by decide +kernel
theorem d_Model_isSupported_29 : decode c_Model_isSupported 29 = .ok (.ireturn, 1) := by decide +kernel
def sh_Model_isSupported_2 (F : Nat) : Nat → Nat → Int32 → Int32 → im_W → Option (Int32 × im_W)
  | 0, _, _, _, _ => none
  | f + 1, x0, x1, x2, w => (im_gI w 9 x0 39).bind fun f1 => (if f1 ≤ x2 then im_rz (0 : Int32) w else (im_gR w 9 x0 40).bind fun f3 => (im_lI w 0 f3 x2).bind fun e5 => (if e5 = x1 then im_rz (1 : Int32) w else (sh_Model_isSupported_2 F f) x0 x1 (x2 + (1 : Int32)) w))
set_option maxHeartbeats 4000000 in
set_option maxRecDepth 100000 in
theorem bk_Model_isSupported_2 {F : Nat} {r : Int32 × im_W} (X : im_X D vwCl tA lo im_NW c_Model_isSupported 3 (some .boolean) RC_Model im_T p s m args meth c) : ∀ (f : Nat) (x0 : Nat) (x1 : Int32) (x2 : Int32) (w : im_W), sh_Model_isSupported_2 F f x0 x1 x2 w = some r → im_WW D vwCl tA lo 3 p l e (im_rm 0 0) s m args below meth c 0 0 (MQ below (im_Post D vwCl tA lo (some (.int r.1)) r.2) args s 0 0 (fun q => lo ≤ q)) 2 [(0, .ref (lo + x0)), (1, .int x1), (2, .int x2)] [] w := by
  obtain ⟨hx, hb, hr, hts, hown, hlk, hml, hK, hN⟩ := id X
  intro f
  induction f with
  | zero =>
    intro x0 x1 x2 w hsh
    cases hsh
  | succ f ih =>
    intro x0 x1 x2 w hsh H locs ls hH hl
    unfold sh_Model_isSupported_2 at hsh
    refine lv_iload_n hx hb d_Model_isSupported_2 rfl (lv_at hl 2 rfl) ?_
    refine lv_aload_n hx hb d_Model_isSupported_3 rfl (lv_at hl 0 rfl) ?_
    obtain ⟨f1, h2, hsh⟩ := im_bd hsh
    refine im_getI hx hb hts inC_Model hown hK hH (ci := 9) rfl 39 (by decide) (hts _ wd_670) rfl h2 d_Model_isSupported_4 ?_
    refine lv_icmp_ge (tgt := 28) hx hb d_Model_isSupported_7 (by decide) (fun cc => ?_) (fun cc => ?_)
    · have hsh := im_it hsh cc
      refine lv_iconst (v := 0) hx hb d_Model_isSupported_28 (by decide) ?_
      obtain ⟨rfl, hn⟩ := im_rz_s hsh
      exact im_zret hx hb hr hlk hn hH d_Model_isSupported_29
    · have hsh := im_if hsh cc
      refine lv_aload_n hx hb d_Model_isSupported_10 rfl (lv_at hl 0 rfl) ?_
      obtain ⟨f3, h4, hsh⟩ := im_bd hsh
      refine im_getR hx hb hts inC_Model hown hK hH (ci := 9) rfl 40 (by decide) (hts _ wd_671) rfl h4 d_Model_isSupported_11 ?_
      refine lv_iload_n hx hb d_Model_isSupported_14 rfl (lv_at hl 2 rfl) ?_
      obtain ⟨e5, h6, hsh⟩ := im_bd hsh
      refine im_iald hx hb hK hH h6 d_Model_isSupported_15 ?_
      refine lv_iload_n hx hb d_Model_isSupported_16 rfl (lv_at hl 1 rfl) ?_
      refine lv_icmp_ne (tgt := 22) hx hb d_Model_isSupported_17 (by decide) (fun cc => ?_) (fun cc => ?_)
      · have hsh := im_if hsh cc
        refine lv_iinc (v := (x2 + (1 : Int32))) (lv' := [(2, .int (x2 + (1 : Int32))), (0, .ref (lo + x0)), (1, .int x1)]) hx hb d_Model_isSupported_22 hl (k := 2) rfl rfl (by decide) rfl (fun ls hl => ?_)
        refine lv_goto (tgt := 2) hx hb d_Model_isSupported_25 (by decide) ?_
        exact ih x0 x1 (x2 + (1 : Int32)) w hsh H locs ls hH (lv_sub hl [1, 2, 0] rfl)
      · have hsh := im_it hsh cc
        refine lv_iconst (v := 1) hx hb d_Model_isSupported_20 (by decide) ?_
        obtain ⟨rfl, hn⟩ := im_rz_s hsh
        exact im_zret hx hb hr hlk hn hH d_Model_isSupported_21
def sh_Model_isSupported (F : Nat) (x0 : Nat) (x1 : Int32) (w : im_W) : Option (Int32 × im_W) :=
  sh_Model_isSupported_2 F F x0 x1 (0 : Int32) w
set_option maxHeartbeats 4000000 in
set_option maxRecDepth 100000 in
theorem met_Model_isSupported {F : Nat} {x0 : Nat} {x1 : Int32} {w : im_W} {r : Int32 × im_W} (hsh : sh_Model_isSupported F x0 x1 w = some r) : Met l y_Model_isSupported (Cond.code y_Model_isSupported c_Model_isSupported 3 (some .boolean) :: im_T) (im_rm 0 0) (im_Pre D vwCl tA lo im_NW [.ref (lo + x0), .int x1] w) (im_Post D vwCl tA lo (some (.int r.1)) r.2) 0 0 (fun q => lo ≤ q) := by
  refine im_ofW (cc := c_Model_isSupported) (nL := 3) (ret := (some .boolean)) (by decide) (Nat.le_of_ble_eq_true rfl) ?_
  intro p e s m args below meth c X H locs ls hH hl
  obtain ⟨hx, hb, hr, hts, hown, hlk, hml, hK, hN⟩ := id X
  have hl : lv_has ls 3 [(0, .ref (lo + x0)), (1, .int x1)] := hl
  unfold sh_Model_isSupported at hsh
  refine lv_iconst (v := 0) hx hb d_Model_isSupported_0 (by decide) ?_
  refine lv_istore_n (lv' := [(2, .int (0 : Int32)), (0, .ref (lo + x0)), (1, .int x1)]) hx hb d_Model_isSupported_1 rfl hl (by decide) rfl (fun ls hl => ?_)
  exact bk_Model_isSupported_2 X F x0 x1 (0 : Int32) w hsh H locs ls hH (lv_sub hl [1, 2, 0] rfl)
theorem wd_944 : (Jvm.Cond.methodLink "LanguageTagsModel" (265 : Nat) ({ cls := "LanguageTagsModel", name := "isSupported", desc := "(I)Z" } : Jvm.MethodName)) ∈ im_T := im_memT (i := 944) (by decide +kernel) (by decide +kernel)
theorem wd_946 : (Jvm.Cond.instanceMethod ({ cls := "LanguageTagsModel", name := "isSupported", desc := "(I)Z" } : Jvm.MethodName)) ∈ im_T := im_memT (i := 946) (by decide +kernel) (by decide +kernel)
theorem wd_947 : (Jvm.Cond.code ({ cls := "LanguageTagsModel", name := "isSupported", desc := "(I)Z" } : Jvm.MethodName) prog_12_method_46_code (3 : Nat) (Option.some Jvm.ClassFile.FieldType.boolean)) ∈ im_T := im_memT (i := 947) (by decide +kernel) (by decide +kernel)
theorem d_Model_support_0 : decode c_Model_support 0 = .ok (.aload_n 0, 1) := by decide +kernel
theorem d_Model_support_1 : decode c_Model_support 1 = .ok (.iload_n 1, 1) := by decide +kernel
theorem d_Model_support_2 : decode c_Model_support 2 = .ok (.invokevirtual 251, 3) := by decide +kernel
theorem d_Model_support_5 : decode c_Model_support 5 = .ok (.ifCond .ne (11), 3) := by decide +kernel
theorem d_Model_support_8 : decode c_Model_support 8 = .ok (.aload_n 0, 1) := by decide +kernel
theorem d_Model_support_9 : decode c_Model_support 9 = .ok (.iload_n 1, 1) := by decide +kernel
theorem d_Model_support_10 : decode c_Model_support 10 = .ok (.invokevirtual 265, 3) := by decide +kernel
theorem d_Model_support_13 : decode c_Model_support 13 = .ok (.ifCond .eq (5), 3) := by decide +kernel
theorem d_Model_support_16 : decode c_Model_support 16 = .ok (.iconst 0, 1) := by decide +kernel
theorem d_Model_support_17 : decode c_Model_support 17 = .ok (.ireturn, 1) := by decide +kernel
theorem d_Model_support_18 : decode c_Model_support 18 = .ok (.aload_n 0, 1) := by decide +kernel
theorem d_Model_support_19 : decode c_Model_support 19 = .ok (.getfield 84, 3) := by decide +kernel
theorem d_Model_support_22 : decode c_Model_support 22 = .ok (.aload_n 0, 1) := by decide +kernel
theorem d_Model_support_23 : decode c_Model_support 23 = .ok (.getfield 262, 3) := by decide +kernel
theorem d_Model_support_26 : decode c_Model_support 26 = .ok (.iload_n 1, 1) := by decide +kernel
theorem d_Model_support_27 : decode c_Model_support 27 = .ok (.iastore, 1) := by decide +kernel
theorem d_Model_support_28 : decode c_Model_support 28 = .ok (.aload_n 0, 1) := by decide +kernel
theorem d_Model_support_29 : decode c_Model_support 29 = .ok (.dup, 1) := by decide +kernel
theorem d_Model_support_30 : decode c_Model_support 30 = .ok (.getfield 262, 3) := by decide +kernel
theorem d_Model_support_33 : decode c_Model_support 33 = .ok (.iconst 1, 1) := by decide +kernel
theorem d_Model_support_34 : decode c_Model_support 34 = .ok (.iadd, 1) := by decide +kernel
theorem d_Model_support_35 : decode c_Model_support 35 = .ok (.putfield 262, 3) := by decide +kernel
theorem d_Model_support_38 : decode c_Model_support 38 = .ok (.iconst 1, 1) := by decide +kernel
theorem d_Model_support_39 : decode c_Model_support 39 = .ok (.ireturn, 1) := by decide +kernel
def sh_Model_support_16 (F : Nat)  (w : im_W) : Option (Int32 × im_W) :=
  im_rz (0 : Int32) w
set_option maxHeartbeats 4000000 in
set_option maxRecDepth 100000 in
theorem bk_Model_support_16 {F : Nat} {r : Int32 × im_W} (X : im_X D vwCl tA lo im_NW c_Model_support 2 (some .boolean) RC_Model im_T p s m args meth c)  (w : im_W) (hsh : sh_Model_support_16 F w = some r) : im_WW D vwCl tA lo 2 p l e (im_rm 1 22) s m args below meth c 0 0 (MQ below (im_Post D vwCl tA lo (some (.int r.1)) r.2) args s 0 0 (fun q => lo ≤ q)) 16 [] [] w := by
  obtain ⟨hx, hb, hr, hts, hown, hlk, hml, hK, hN⟩ := id X
  intro H locs ls hH hl
  unfold sh_Model_support_16 at hsh
  refine lv_iconst (v := 0) hx hb d_Model_support_16 (by decide) ?_
  obtain ⟨rfl, hn⟩ := im_rz_s hsh
  exact im_zret hx hb hr hlk hn hH d_Model_support_17
def sh_Model_support (F : Nat) (x0 : Nat) (x1 : Int32) (w : im_W) : Option (Int32 × im_W) :=
  (im_is w 9 x0).bind fun u1 => im_b2 (sh_Model_none F x0 x1 w) fun v7 w5 => (if v7 = 0 then (im_is w5 9 x0).bind fun u8 => im_b2 (sh_Model_isSupported F x0 x1 w5) fun v14 w12 => (if v14 = 0 then (im_gR w12 9 x0 40).bind fun f15 => (im_gI w12 9 x0 39).bind fun f17 => (im_sI w12 0 f15 f17 x1).bind fun w19 => (im_gI w19 9 x0 39).bind fun f21 => (im_pV w19 9 x0 39 (.int (f21 + (1 : Int32)))).bind fun w23 => im_rz (1 : Int32) w23 else sh_Model_support_16 F w12) else sh_Model_support_16 F w5)
set_option maxHeartbeats 4000000 in
set_option maxRecDepth 100000 in
theorem met_Model_support {F : Nat} {x0 : Nat} {x1 : Int32} {w : im_W} {r : Int32 × im_W} (hsh : sh_Model_support F x0 x1 w = some r) : Met l y_Model_support (Cond.code y_Model_support c_Model_support 2 (some .boolean) :: im_T) (im_rm 1 22) (im_Pre D vwCl tA lo im_NW [.ref (lo + x0), .int x1] w) (im_Post D vwCl tA lo (some (.int r.1)) r.2) 0 0 (fun q => lo ≤ q) := by
  refine im_ofW (cc := c_Model_support) (nL := 2) (ret := (some .boolean)) (by decide) (Nat.le_of_ble_eq_true rfl) ?_
  intro p e s m args below meth c X H locs ls hH hl
  obtain ⟨hx, hb, hr, hts, hown, hlk, hml, hK, hN⟩ := id X
  have hl : lv_has ls 2 [(0, .ref (lo + x0)), (1, .int x1)] := hl
  unfold sh_Model_support at hsh
  refine lv_aload_n hx hb d_Model_support_0 rfl (lv_at hl 0 rfl) ?_
  refine lv_iload_n hx hb d_Model_support_1 rfl (lv_at hl 1 rfl) ?_
  obtain ⟨u1, h2, hsh⟩ := im_bd hsh
  obtain ⟨g3, h4⟩ := im_is_s h2
  obtain ⟨v7, w5, h6, hsh⟩ := im_bd2 hsh
  refine im_afterI (va_runV (As := [.int x1]) (rest := []) (C := RC_Model) ⟨hx, hb, hml, hown, hts⟩ (met_Model_none h6) ⟨(callB_of 1 hts (im_good wd_915) rfl rfl rfl (hts _ wd_10) (hts _ wd_912) (by decide +kernel) ⟨Nat.le_of_ble_eq_true rfl, Nat.le_of_ble_eq_true rfl⟩), hts _ wd_914, hts _ sl_Model_none⟩ (im_preV im_NW_ok hK hN hH (ci := 9) rfl rfl h4 _) rfl rfl hl.1 rfl (lv_room (Nat.le_of_ble_eq_true rfl)) d_Model_support_2 ⟨Nat.le_of_ble_eq_true rfl, Nat.le_of_ble_eq_true rfl⟩) hH (fun H locs hH => ?_)
  refine lv_if_ne (tgt := 16) hx hb d_Model_support_5 (by decide) (fun cc => ?_) (fun cc => ?_)
  · have hsh := im_if hsh cc
    exact bk_Model_support_16 X w5 hsh H locs ls hH (lv_sub hl [] rfl)
  · have hsh := im_it hsh cc
    refine lv_aload_n hx hb d_Model_support_8 rfl (lv_at hl 0 rfl) ?_
    refine lv_iload_n hx hb d_Model_support_9 rfl (lv_at hl 1 rfl) ?_
    obtain ⟨u8, h9, hsh⟩ := im_bd hsh
    obtain ⟨g10, h11⟩ := im_is_s h9
    obtain ⟨v14, w12, h13, hsh⟩ := im_bd2 hsh
    refine im_afterI (va_runV (As := [.int x1]) (rest := []) (C := RC_Model) ⟨hx, hb, hml, hown, hts⟩ (met_Model_isSupported h13) ⟨(callB_of 1 hts (im_good wd_947) rfl rfl rfl (hts _ wd_10) (hts _ wd_944) (by decide +kernel) ⟨Nat.le_of_ble_eq_true rfl, Nat.le_of_ble_eq_true rfl⟩), hts _ wd_946, hts _ sl_Model_isSupported⟩ (im_preV im_NW_ok hK hN hH (ci := 9) rfl rfl h11 _) rfl rfl hl.1 rfl (lv_room (Nat.le_of_ble_eq_true rfl)) d_Model_support_10 ⟨Nat.le_of_ble_eq_true rfl, Nat.le_of_ble_eq_true rfl⟩) hH (fun H locs hH => ?_)
    refine lv_if_eq (tgt := 18) hx hb d_Model_support_13 (by decide) (fun cc => ?_) (fun cc => ?_)
    · have hsh := im_it hsh cc
      refine lv_aload_n hx hb d_Model_support_18 rfl (lv_at hl 0 rfl) ?_
      obtain ⟨f15, h16, hsh⟩ := im_bd hsh
      refine im_getR hx hb hts inC_Model hown hK hH (ci := 9) rfl 40 (by decide) (hts _ wd_671) rfl h16 d_Model_support_19 ?_
      refine lv_aload_n hx hb d_Model_support_22 rfl (lv_at hl 0 rfl) ?_
      obtain ⟨f17, h18, hsh⟩ := im_bd hsh
      refine im_getI hx hb hts inC_Model hown hK hH (ci := 9) rfl 39 (by decide) (hts _ wd_670) rfl h18 d_Model_support_23 ?_
      refine lv_iload_n hx hb d_Model_support_26 rfl (lv_at hl 1 rfl) ?_
      obtain ⟨w19, h20, hsh⟩ := im_bd hsh
      refine im_iast hx hb hK hH h20 d_Model_support_27 (fun H locs hH => ?_)
      refine lv_aload_n hx hb d_Model_support_28 rfl (lv_at hl 0 rfl) ?_
      refine lv_dup hx hb d_Model_support_29 rfl ?_
      obtain ⟨f21, h22, hsh⟩ := im_bd hsh
      refine im_getI hx hb hts inC_Model hown hK hH (ci := 9) rfl 39 (by decide) (hts _ wd_670) rfl h22 d_Model_support_30 ?_
      refine lv_iconst (v := 1) hx hb d_Model_support_33 (by decide) ?_
      refine lv_iadd hx hb d_Model_support_34 ?_
      obtain ⟨w23, h24, hsh⟩ := im_bd hsh
      refine im_put (v := .int (f21 + (1 : Int32))) hx hb hts inC_Model tyC_Model tyC_Model_ok nmC_Model hown hK hH (ci := 9) rfl 39 (by decide) (hts _ wd_670) rfl rfl rfl rfl h24 d_Model_support_35 (fun H locs hH => ?_)
      refine lv_iconst (v := 1) hx hb d_Model_support_38 (by decide) ?_
      obtain ⟨rfl, hn⟩ := im_rz_s hsh
      exact im_zret hx hb hr hlk hn hH d_Model_support_39
    · have hsh := im_if hsh cc
      exact bk_Model_support_16 X w12 hsh H locs ls hH (lv_sub hl [] rfl)
theorem d_Model_subtagEnd_0 : decode c_Model_subtagEnd 0 = .ok (.iload_n 2, 1) := by decide +kernel
theorem d_Model_subtagEnd_1 : decode c_Model_subtagEnd 1 = .ok (.istore_n 3, 1) := by decide +kernel
theorem d_Model_subtagEnd_2 : decode c_Model_subtagEnd 2 = .ok (.iload_n 3, 1) := by decide +kernel
theorem d_Model_subtagEnd_3 : decode c_Model_subtagEnd 3 = .ok (.aload_n 0, 1) := by decide +kernel
theorem d_Model_subtagEnd_4 : decode c_Model_subtagEnd 4 = .ok (.getfield 66, 3) := by decide +kernel
theorem d_Model_subtagEnd_7 : decode c_Model_subtagEnd 7 = .ok (.iload_n 1, 1) := by decide +kernel
theorem d_Model_subtagEnd_8 : decode c_Model_subtagEnd 8 = .ok (.iaload, 1) := by decide +kernel
theorem d_Model_subtagEnd_9 : decode c_Model_subtagEnd 9 = .ok (.if_icmp .ge (25), 3) := by decide +kernel
theorem d_Model_subtagEnd_12 : decode c_Model_subtagEnd 12 = .ok (.aload_n 0, 1) := by decide +kernel
theorem d_Model_subtagEnd_13 : decode c_Model_subtagEnd 13 = .ok (.getfield 63, 3) := by decide +kernel
theorem d_Model_subtagEnd_16 : decode c_Model_subtagEnd 16 = .ok (.bipush (80), 2) := by decide +kernel
theorem d_Model_subtagEnd_18 : decode c_Model_subtagEnd 18 = .ok (.iload_n 1, 1) := by decide +kernel
theorem d_Model_subtagEnd_19 : decode c_Model_subtagEnd 19 = .ok (.imul, 1) := by decide +kernel
theorem d_Model_subtagEnd_20 : decode c_Model_subtagEnd 20 = .ok (.iload_n 3, 1) := by decide +kernel
theorem d_Model_subtagEnd_21 : decode c_Model_subtagEnd 21 = .ok (.iadd, 1) := by decide +kernel
theorem d_Model_subtagEnd_22 : decode c_Model_subtagEnd 22 = .ok (.caload, 1) := by decide +kernel
theorem d_Model_subtagEnd_23 : decode c_Model_subtagEnd 23 = .ok (.bipush (45), 2) := by decide +kernel
theorem d_Model_subtagEnd_25 : decode c_Model_subtagEnd 25 = .ok (.if_icmp .eq (9), 3) := by decide +kernel
theorem d_Model_subtagEnd_28 : decode c_Model_subtagEnd 28 = .ok (.iinc 3 (1), 3) := by decide +kernel
theorem d_Model_subtagEnd_31 : decode c_Model_subtagEnd 31 = .ok (.goto (-29), 3) := by decide +kernel
theorem d_Model_subtagEnd_34 : decode c_Model_subtagEnd 34 = .ok (.iload_n 3, 1) := by decide +kernel
theorem d_Model_subtagEnd_35 : decode c_Model_subtagEnd 35 = .ok (.ireturn, 1) := by decide +kernel
def sh_Model_subtagEnd_34 (F : Nat) (x3 : Int32) (w : im_W) : Option (Int32 × im_W) :=
  some (x3, w)
set_option maxHeartbeats 4000000 in
set_option maxRecDepth 100000 in
theorem bk_Model_subtagEnd_34 {F : Nat} {r : Int32 × im_W} (X : im_X D vwCl tA lo im_NW c_Model_subtagEnd 4 (some .int) RC_Model im_T p s m args meth c) (x3 : Int32) (w : im_W) (hsh : sh_Model_subtagEnd_34 F x3 w = some r) : im_WW D vwCl tA lo 4 p l e (im_rm 0 0) s m args below meth c 0 0 (MQ below (im_Post D vwCl tA lo (some (.int r.1)) r.2) args s 0 0 (fun q => lo ≤ q)) 34 [(3, .int x3)] [] w := by
  obtain ⟨hx, hb, hr, hts, hown, hlk, hml, hK, hN⟩ := id X
  intro H locs ls hH hl
  unfold sh_Model_subtagEnd_34 at hsh
  refine lv_iload_n hx hb d_Model_subtagEnd_34 rfl (lv_at hl 0 rfl) ?_
  obtain rfl := Option.some.inj hsh
  exact im_iret hx hb hr hlk hH d_Model_subtagEnd_35
def sh_Model_subtagEnd_2 (F : Nat) : Nat → Nat → Int32 → Int32 → im_W → Option (Int32 × im_W)
  | 0, _, _, _, _ => none
  | f + 1, x0, x1, x3, w => (im_gR w 9 x0 33).bind fun f1 => (im_lI w 0 f1 x1).bind fun e3 => (if e3 ≤ x3 then sh_Model_subtagEnd_34 F x3 w else (im_gR w 9 x0 32).bind fun f5 => (im_lI w 2 f5 (((80 : Int32) * x1) + x3)).bind fun e7 => (if e7 = (45 : Int32) then sh_Model_subtagEnd_34 F x3 w else (sh_Model_subtagEnd_2 F f) x0 x1 (x3 + (1 : Int32)) w))
set_option maxHeartbeats 4000000 in
set_option maxRecDepth 100000 in
theorem bk_Model_subtagEnd_2 {F : Nat} {r : Int32 × im_W} (X : im_X D vwCl tA lo im_NW c_Model_subtagEnd 4 (some .int) RC_Model im_T p s m args meth c) : ∀ (f : Nat) (x0 : Nat) (x1 : Int32) (x3 : Int32) (w : im_W), sh_Model_subtagEnd_2 F f x0 x1 x3 w = some r → im_WW D vwCl tA lo 4 p l e (im_rm 0 0) s m args below meth c 0 0 (MQ below (im_Post D vwCl tA lo (some (.int r.1)) r.2) args s 0 0 (fun q => lo ≤ q)) 2 [(0, .ref (lo + x0)), (1, .int x1), (3, .int x3)] [] w := by
  obtain ⟨hx, hb, hr, hts, hown, hlk, hml, hK, hN⟩ := id X
  intro f
  induction f with
  | zero =>
    intro x0 x1 x3 w hsh
    cases hsh
  | succ f ih =>
    intro x0 x1 x3 w hsh H locs ls hH hl
    unfold sh_Model_subtagEnd_2 at hsh
    refine lv_iload_n hx hb d_Model_subtagEnd_2 rfl (lv_at hl 2 rfl) ?_
    refine lv_aload_n hx hb d_Model_subtagEnd_3 rfl (lv_at hl 0 rfl) ?_
    obtain ⟨f1, h2, hsh⟩ := im_bd hsh
    refine im_getR hx hb hts inC_Model hown hK hH (ci := 9) rfl 33 (by decide) (hts _ wd_664) rfl h2 d_Model_subtagEnd_4 ?_
    refine lv_iload_n hx hb d_Model_subtagEnd_7 rfl (lv_at hl 1 rfl) ?_
    obtain ⟨e3, h4, hsh⟩ := im_bd hsh
    refine im_iald hx hb hK hH h4 d_Model_subtagEnd_8 ?_
    refine lv_icmp_ge (tgt := 34) hx hb d_Model_subtagEnd_9 (by decide) (fun cc => ?_) (fun cc => ?_)
    · have hsh := im_it hsh cc
      exact bk_Model_subtagEnd_34 X x3 w hsh H locs ls hH (lv_sub hl [2] rfl)
    · have hsh := im_if hsh cc
      refine lv_aload_n hx hb d_Model_subtagEnd_12 rfl (lv_at hl 0 rfl) ?_
      obtain ⟨f5, h6, hsh⟩ := im_bd hsh
      refine im_getR hx hb hts inC_Model hown hK hH (ci := 9) rfl 32 (by decide) (hts _ wd_663) rfl h6 d_Model_subtagEnd_13 ?_
      refine lv_bipush (v := 80) hx hb d_Model_subtagEnd_16 (by decide) ?_
      refine lv_iload_n hx hb d_Model_subtagEnd_18 rfl (lv_at hl 1 rfl) ?_
      refine lv_imul hx hb d_Model_subtagEnd_19 ?_
      refine lv_iload_n hx hb d_Model_subtagEnd_20 rfl (lv_at hl 2 rfl) ?_
      refine lv_iadd hx hb d_Model_subtagEnd_21 ?_
      obtain ⟨e7, h8, hsh⟩ := im_bd hsh
      refine im_cald hx hb hK hH h8 d_Model_subtagEnd_22 ?_
      refine lv_bipush (v := 45) hx hb d_Model_subtagEnd_23 (by decide) ?_
      refine lv_icmp_eq (tgt := 34) hx hb d_Model_subtagEnd_25 (by decide) (fun cc => ?_) (fun cc => ?_)
      · have hsh := im_it hsh cc
        exact bk_Model_subtagEnd_34 X x3 w hsh H locs ls hH (lv_sub hl [2] rfl)
      · have hsh := im_if hsh cc
        refine lv_iinc (v := (x3 + (1 : Int32))) (lv' := [(3, .int (x3 + (1 : Int32))), (0, .ref (lo + x0)), (1, .int x1)]) hx hb d_Model_subtagEnd_28 hl (k := 2) rfl rfl (by decide) rfl (fun ls hl => ?_)
        refine lv_goto (tgt := 2) hx hb d_Model_subtagEnd_31 (by decide) ?_
        exact ih x0 x1 (x3 + (1 : Int32)) w hsh H locs ls hH (lv_sub hl [1, 2, 0] rfl)
def sh_Model_subtagEnd (F : Nat) (x0 : Nat) (x1 : Int32) (x2 : Int32) (w : im_W) : Option (Int32 × im_W) :=
  sh_Model_subtagEnd_2 F F x0 x1 x2 w
set_option maxHeartbeats 4000000 in
set_option maxRecDepth 100000 in
theorem met_Model_subtagEnd {F : Nat} {x0 : Nat} {x1 : Int32} {x2 : Int32} {w : im_W} {r : Int32 × im_W} (hsh : sh_Model_subtagEnd F x0 x1 x2 w = some r) : Met l y_Model_subtagEnd (Cond.code y_Model_subtagEnd c_Model_subtagEnd 4 (some .int) :: im_T) (im_rm 0 0) (im_Pre D vwCl tA lo im_NW [.ref (lo + x0), .int x1, .int x2] w) (im_Post D vwCl tA lo (some (.int r.1)) r.2) 0 0 (fun q => lo ≤ q) := by
  refine im_ofW (cc := c_Model_subtagEnd) (nL := 4) (ret := (some .int)) (by decide) (Nat.le_of_ble_eq_true rfl) ?_
  intro p e s m args below meth c X H locs ls hH hl
  obtain ⟨hx, hb, hr, hts, hown, hlk, hml, hK, hN⟩ := id X
  have hl : lv_has ls 4 [(0, .ref (lo + x0)), (1, .int x1), (2, .int x2)] := hl
  unfold sh_Model_subtagEnd at hsh
  refine lv_iload_n hx hb d_Model_subtagEnd_0 rfl (lv_at hl 2 rfl) ?_
  refine lv_istore_n (lv' := [(3, .int x2), (0, .ref (lo + x0)), (1, .int x1), (2, .int x2)]) hx hb d_Model_subtagEnd_1 rfl hl (by decide) rfl (fun ls hl => ?_)
  exact bk_Model_subtagEnd_2 X F x0 x1 x2 w hsh H locs ls hH (lv_sub hl [1, 2, 0] rfl)
theorem wd_952 : (Jvm.Cond.methodLink "LanguageTagsModel" (268 : Nat) ({ cls := "LanguageTagsModel", name := "subtagEnd", desc := "(II)I" } : Jvm.MethodName)) ∈ im_T := im_memT (i := 952) (by decide +kernel) (by decide +kernel)
theorem wd_954 : (Jvm.Cond.instanceMethod ({ cls := "LanguageTagsModel", name := "subtagEnd", desc := "(II)I" } : Jvm.MethodName)) ∈ im_T := im_memT (i := 954) (by decide +kernel) (by decide +kernel)
theorem wd_955 : (Jvm.Cond.code ({ cls := "LanguageTagsModel", name := "subtagEnd", desc := "(II)I" } : Jvm.MethodName) prog_12_method_48_code (4 : Nat) (Option.some Jvm.ClassFile.FieldType.int)) ∈ im_T := im_memT (i := 955) (by decide +kernel) (by decide +kernel)
theorem d_Model_fits_0 : decode c_Model_fits 0 = .ok (.aload_n 0, 1) := by decide +kernel
theorem d_Model_fits_1 : decode c_Model_fits 1 = .ok (.iload_n 1, 1) := by decide +kernel
theorem d_Model_fits_2 : decode c_Model_fits 2 = .ok (.invokevirtual 251, 3) := by decide +kernel
theorem d_Model_fits_5 : decode c_Model_fits 5 = .ok (.ifCond .ne (26), 3) := by decide +kernel
theorem d_Model_fits_8 : decode c_Model_fits 8 = .ok (.aload_n 0, 1) := by decide +kernel
theorem d_Model_fits_9 : decode c_Model_fits 9 = .ok (.iload_n 2, 1) := by decide +kernel
theorem d_Model_fits_10 : decode c_Model_fits 10 = .ok (.invokevirtual 251, 3) := by decide +kernel
theorem d_Model_fits_13 : decode c_Model_fits 13 = .ok (.ifCond .ne (18), 3) := by decide +kernel
theorem d_Model_fits_16 : decode c_Model_fits 16 = .ok (.aload_n 0, 1) := by decide +kernel
theorem d_Model_fits_17 : decode c_Model_fits 17 = .ok (.getfield 69, 3) := by decide +kernel
theorem d_Model_fits_20 : decode c_Model_fits 20 = .ok (.iload_n 1, 1) := by decide +kernel
theorem d_Model_fits_21 : decode c_Model_fits 21 = .ok (.iaload, 1) := by decide +kernel
theorem d_Model_fits_22 : decode c_Model_fits 22 = .ok (.aload_n 0, 1) := by decide +kernel
theorem d_Model_fits_23 : decode c_Model_fits 23 = .ok (.getfield 69, 3) := by decide +kernel
theorem d_Model_fits_26 : decode c_Model_fits 26 = .ok (.iload_n 2, 1) := by decide +kernel
theorem d_Model_fits_27 : decode c_Model_fits 27 = .ok (.iaload, 1) := by decide +kernel
theorem d_Model_fits_28 : decode c_Model_fits 28 = .ok (.if_icmp .eq (5), 3) := by decide +kernel
theorem d_Model_fits_31 : decode c_Model_fits 31 = .ok (.iconst 0, 1) := by decide +kernel
theorem d_Model_fits_32 : decode c_Model_fits 32 = .ok (.ireturn, 1) := by decide +kernel
theorem d_Model_fits_33 : decode c_Model_fits 33 = .ok (.aload_n 0, 1) := by decide +kernel
theorem d_Model_fits_34 : decode c_Model_fits 34 = .ok (.iload_n 1, 1) := by decide +kernel
theorem d_Model_fits_35 : decode c_Model_fits 35 = .ok (.iconst 0, 1) := by decide +kernel
theorem d_Model_fits_36 : decode c_Model_fits 36 = .ok (.invokevirtual 268, 3) := by decide +kernel
theorem d_Model_fits_39 : decode c_Model_fits 39 = .ok (.iconst 1, 1) := by decide +kernel
theorem d_Model_fits_40 : decode c_Model_fits 40 = .ok (.iadd, 1) := by decide +kernel
theorem d_Model_fits_41 : decode c_Model_fits 41 = .ok (.istore_n 3, 1) := by decide +kernel
theorem d_Model_fits_42 : decode c_Model_fits 42 = .ok (.aload_n 0, 1) := by decide +kernel
theorem d_Model_fits_43 : decode c_Model_fits 43 = .ok (.iload_n 2, 1) := by decide +kernel
theorem d_Model_fits_44 : decode c_Model_fits 44 = .ok (.iconst 0, 1) := by decide +kernel
theorem d_Model_fits_45 : decode c_Model_fits 45 = .ok (.invokevirtual 268, 3) := by decide +kernel
theorem d_Model_fits_48 : decode c_Model_fits 48 = .ok (.iconst 1, 1) := by decide +kernel
theorem d_Model_fits_49 : decode c_Model_fits 49 = .ok (.iadd, 1) := by decide +kernel
theorem d_Model_fits_50 : decode c_Model_fits 50 = .ok (.istore 4, 2) := by decide +kernel
theorem d_Model_fits_52 : decode c_Model_fits 52 = .ok (.iload_n 3, 1) := by decide +kernel
theorem d_Model_fits_53 : decode c_Model_fits 53 = .ok (.aload_n 0, 1) := by decide +kernel
theorem d_Model_fits_54 : decode c_Model_fits 54 = .ok (.getfield 66, 3) := by decide +kernel
theorem d_Model_fits_57 : decode c_Model_fits 57 = .ok (.iload_n 1, 1) := by decide +kernel
theorem d_Model_fits_58 : decode c_Model_fits 58 = .ok (.iaload, 1) := by decide +kernel
theorem d_Model_fits_59 : decode c_Model_fits 59 = .ok (.if_icmp .ge (161), 3) := by decide +kernel
theorem d_Model_fits_62 : decode c_Model_fits 62 = .ok (.iload 4, 2) := by decide +kernel
theorem d_Model_fits_64 : decode c_Model_fits 64 = .ok (.aload_n 0, 1) := by decide +kernel
theorem d_Model_fits_65 : decode c_Model_fits 65 = .ok (.getfield 66, 3) := by decide +kernel
theorem d_Model_fits_68 : decode c_Model_fits 68 = .ok (.iload_n 2, 1) := by decide +kernel
theorem d_Model_fits_69 : decode c_Model_fits 69 = .ok (.iaload, 1) := by decide +kernel
theorem d_Model_fits_70 : decode c_Model_fits 70 = .ok (.if_icmp .lt (5), 3) := by decide +kernel
theorem d_Model_fits_73 : decode c_Model_fits 73 = .ok (.iconst 0, 1) := by decide +kernel
theorem d_Model_fits_74 : decode c_Model_fits 74 = .ok (.ireturn, 1) := by decide +kernel
theorem d_Model_fits_75 : decode c_Model_fits 75 = .ok (.aload_n 0, 1) := by decide +kernel
theorem d_Model_fits_76 : decode c_Model_fits 76 = .ok (.iload_n 1, 1) := by decide +kernel
theorem d_Model_fits_77 : decode c_Model_fits 77 = .ok (.iload_n 3, 1) := by decide +kernel
theorem d_Model_fits_78 : decode c_Model_fits 78 = .ok (.invokevirtual 268, 3) := by decide +kernel
theorem d_Model_fits_81 : decode c_Model_fits 81 = .ok (.istore 5, 2) := by decide +kernel
theorem d_Model_fits_83 : decode c_Model_fits 83 = .ok (.aload_n 0, 1) := by decide +kernel
theorem d_Model_fits_84 : decode c_Model_fits 84 = .ok (.iload_n 2, 1) := by decide +kernel
theorem d_Model_fits_85 : decode c_Model_fits 85 = .ok (.iload 4, 2) := by decide +kernel
theorem d_Model_fits_87 : decode c_Model_fits 87 = .ok (.invokevirtual 268, 3) := by decide +kernel
theorem d_Model_fits_90 : decode c_Model_fits 90 = .ok (.istore 6, 2) := by decide +kernel
theorem d_Model_fits_92 : decode c_Model_fits 92 = .ok (.iload 5, 2) := by decide +kernel
theorem d_Model_fits_94 : decode c_Model_fits 94 = .ok (.iload_n 3, 1) := by decide +kernel
theorem d_Model_fits_95 : decode c_Model_fits 95 = .ok (.isub, 1) := by decide +kernel
theorem d_Model_fits_96 : decode c_Model_fits 96 = .ok (.iload 6, 2) := by decide +kernel
theorem d_Model_fits_98 : decode c_Model_fits 98 = .ok (.iload 4, 2) := by decide +kernel
theorem d_Model_fits_100 : decode c_Model_fits 100 = .ok (.isub, 1) := by decide +kernel
theorem d_Model_fits_101 : decode c_Model_fits 101 = .ok (.if_icmp .ne (7), 3) := by decide +kernel
theorem d_Model_fits_104 : decode c_Model_fits 104 = .ok (.iconst 1, 1) := by decide +kernel
theorem d_Model_fits_105 : decode c_Model_fits 105 = .ok (.goto (4), 3) := by decide +kernel
theorem d_Model_fits_108 : decode c_Model_fits 108 = .ok (.iconst 0, 1) := by decide +kernel
theorem d_Model_fits_109 : decode c_Model_fits 109 = .ok (.istore 7, 2) := by decide +kernel
theorem d_Model_fits_111 : decode c_Model_fits 111 = .ok (.iconst 0, 1) := by decide +kernel
theorem d_Model_fits_112 : decode c_Model_fits 112 = .ok (.istore 8, 2) := by decide +kernel
theorem d_Model_fits_114 : decode c_Model_fits 114 = .ok (.iload 8, 2) := by decide +kernel
theorem d_Model_fits_116 : decode c_Model_fits 116 = .ok (.iload 5, 2) := by decide +kernel
theorem d_Model_fits_118 : decode c_Model_fits 118 = .ok (.iload_n 3, 1) := by decide +kernel
theorem d_Model_fits_119 : decode c_Model_fits 119 = .ok (.isub, 1) := by decide +kernel
theorem d_Model_fits_120 : decode c_Model_fits 120 = .ok (.if_icmp .ge (61), 3) := by decide +kernel
theorem d_Model_fits_123 : decode c_Model_fits 123 = .ok (.iload 7, 2) := by decide +kernel
theorem d_Model_fits_125 : decode c_Model_fits 125 = .ok (.ifCond .eq (56), 3) := by decide +kernel
theorem d_Model_fits_128 : decode c_Model_fits 128 = .ok (.aload_n 0, 1) := by decide +kernel
theorem d_Model_fits_129 : decode c_Model_fits 129 = .ok (.aload_n 0, 1) := by decide +kernel
theorem d_Model_fits_130 : decode c_Model_fits 130 = .ok (.getfield 63, 3) := by decide +kernel
theorem d_Model_fits_133 : decode c_Model_fits 133 = .ok (.bipush (80), 2) := by decide +kernel
theorem d_Model_fits_135 : decode c_Model_fits 135 = .ok (.iload_n 1, 1) := by decide +kernel
theorem d_Model_fits_136 : decode c_Model_fits 136 = .ok (.imul, 1) := by decide +kernel
theorem d_Model_fits_137 : decode c_Model_fits 137 = .ok (.iload_n 3, 1) := by decide +kernel
theorem d_Model_fits_138 : decode c_Model_fits 138 = .ok (.iadd, 1) := by decide +kernel
theorem d_Model_fits_139 : decode c_Model_fits 139 = .ok (.iload 8, 2) := by decide +kernel
theorem d_Model_fits_141 : decode c_Model_fits 141 = .ok (.iadd, 1) := by decide +kernel
theorem d_Model_fits_142 : decode c_Model_fits 142 = .ok (.caload, 1) := by decide +kernel
theorem d_Model_fits_143 : decode c_Model_fits 143 = .ok (.invokevirtual 90, 3) := by decide +kernel
theorem d_Model_fits_146 : decode c_Model_fits 146 = .ok (.aload_n 0, 1) := by decide +kernel
theorem d_Model_fits_147 : decode c_Model_fits 147 = .ok (.aload_n 0, 1) := by decide +kernel
theorem d_Model_fits_148 : decode c_Model_fits 148 = .ok (.getfield 63, 3) := by decide +kernel
theorem d_Model_fits_151 : decode c_Model_fits 151 = .ok (.bipush (80), 2) := by decide +kernel
theorem d_Model_fits_153 : decode c_Model_fits 153 = .ok (.iload_n 2, 1) := by decide +kernel
theorem d_Model_fits_154 : decode c_Model_fits 154 = .ok (.imul, 1) := by decide +kernel
theorem d_Model_fits_155 : decode c_Model_fits 155 = .ok (.iload 4, 2) := by decide +kernel
theorem d_Model_fits_157 : decode c_Model_fits 157 = .ok (.iadd, 1) := by decide +kernel
theorem d_Model_fits_158 : decode c_Model_fits 158 = .ok (.iload 8, 2) := by decide +kernel
theorem d_Model_fits_160 : decode c_Model_fits 160 = .ok (.iadd, 1) := by decide +kernel
theorem d_Model_fits_161 : decode c_Model_fits 161 = .ok (.caload, 1) := by decide +kernel
theorem d_Model_fits_162 : decode c_Model_fits 162 = .ok (.invokevirtual 90, 3) := by decide +kernel
theorem d_Model_fits_165 : decode c_Model_fits 165 = .ok (.if_icmp .ne (7), 3) := by decide +kernel
theorem d_Model_fits_168 : decode c_Model_fits 168 = .ok (.iconst 1, 1) := by decide +kernel
theorem d_Model_fits_169 : decode c_Model_fits 169 = .ok (.goto (4), 3) := by decide +kernel
theorem d_Model_fits_172 : decode c_Model_fits 172 = .ok (.iconst 0, 1) := by decide +kernel
theorem d_Model_fits_173 : decode c_Model_fits 173 = .ok (.istore 7, 2) := by decide +kernel
theorem d_Model_fits_175 : decode c_Model_fits 175 = .ok (.iinc 8 (1), 3) := by decide +kernel
theorem d_Model_fits_178 : decode c_Model_fits 178 = .ok (.goto (-64), 3) := by decide +kernel
theorem d_Model_fits_181 : decode c_Model_fits 181 = .ok (.iload 7, 2) := by decide +kernel
theorem d_Model_fits_183 : decode c_Model_fits 183 = .ok (.ifCond .ne (14), 3) := by decide +kernel
theorem d_Model_fits_186 : decode c_Model_fits 186 = .ok (.iload 6, 2) := by decide +kernel
theorem d_Model_fits_188 : decode c_Model_fits 188 = .ok (.iload 4, 2) := by decide +kernel
theorem d_Model_fits_190 : decode c_Model_fits 190 = .ok (.isub, 1) := by decide +kernel
theorem d_Model_fits_191 : decode c_Model_fits 191 = .ok (.iconst 1, 1) := by decide +kernel
theorem d_Model_fits_192 : decode c_Model_fits 192 = .ok (.if_icmp .ne (5), 3) := by decide +kernel
theorem d_Model_fits_195 : decode c_Model_fits 195 = .ok (.iconst 0, 1) := by decide +kernel
theorem d_Model_fits_196 : decode c_Model_fits 196 = .ok (.ireturn, 1) := by decide +kernel
theorem d_Model_fits_197 : decode c_Model_fits 197 = .ok (.iload 7, 2) := by decide +kernel
theorem d_Model_fits_199 : decode c_Model_fits 199 = .ok (.ifCond .eq (10), 3) := by decide +kernel
theorem d_Model_fits_202 : decode c_Model_fits 202 = .ok (.iload 5, 2) := by decide +kernel
theorem d_Model_fits_204 : decode c_Model_fits 204 = .ok (.iconst 1, 1) := by decide +kernel
theorem d_Model_fits_205 : decode c_Model_fits 205 = .ok (.iadd, 1) := by decide +kernel
theorem d_Model_fits_206 : decode c_Model_fits 206 = .ok (.goto (4), 3) := by decide +kernel
theorem d_Model_fits_209 : decode c_Model_fits 209 = .ok (.iload_n 3, 1) := by decide +kernel
theorem d_Model_fits_210 : decode c_Model_fits 210 = .ok (.istore_n 3, 1) := by decide +kernel
theorem d_Model_fits_211 : decode c_Model_fits 211 = .ok (.iload 6, 2) := by decide +kernel
theorem d_Model_fits_213 : decode c_Model_fits 213 = .ok (.iconst 1, 1) := by decide +kernel
theorem d_Model_fits_214 : decode c_Model_fits 214 = .ok (.iadd, 1) := by decide +kernel
theorem d_Model_fits_215 : decode c_Model_fits 215 = .ok (.istore 4, 2) := by decide +kernel
theorem d_Model_fits_217 : decode c_Model_fits 217 = .ok (.goto (-165), 3) := by decide +kernel
theorem d_Model_fits_220 : decode c_Model_fits 220 = .ok (.iconst 1, 1) := by decide +kernel
theorem d_Model_fits_221 : decode c_Model_fits 221 = .ok (.ireturn, 1) := by decide +kernel
def sh_Model_fits_31 (F : Nat)  (w : im_W) : Option (Int32 × im_W) :=
  im_rz (0 : Int32) w
set_option maxHeartbeats 4000000 in
set_option maxRecDepth 100000 in
theorem bk_Model_fits_31 {F : Nat} {r : Int32 × im_W} (X : im_X D vwCl tA lo im_NW c_Model_fits 9 (some .boolean) RC_Model im_T p s m args meth c)  (w : im_W) (hsh : sh_Model_fits_31 F w = some r) : im_WW D vwCl tA lo 9 p l e (im_rm 1 23) s m args below meth c 0 0 (MQ below (im_Post D vwCl tA lo (some (.int r.1)) r.2) args s 0 0 (fun q => lo ≤ q)) 31 [] [] w := by
  obtain ⟨hx, hb, hr, hts, hown, hlk, hml, hK, hN⟩ := id X
  intro H locs ls hH hl
  unfold sh_Model_fits_31 at hsh
  refine lv_iconst (v := 0) hx hb d_Model_fits_31 (by decide) ?_
  obtain ⟨rfl, hn⟩ := im_rz_s hsh
  exact im_zret hx hb hr hlk hn hH d_Model_fits_32
def sh_Model_fits_173 (F : Nat) (k52 : Nat → Int32 → Int32 → Int32 → Int32 → im_W → Option (Int32 × im_W)) (k114 : Nat → Int32 → Int32 → Int32 → Int32 → Int32 → Int32 → Int32 → Int32 → im_W → Option (Int32 × im_W)) (x0 : Nat) (x1 : Int32) (x2 : Int32) (x3 : Int32) (x4 : Int32) (x5 : Int32) (x6 : Int32) (x8 : Int32) (y0 : Int32) (w : im_W) : Option (Int32 × im_W) :=
  k114 x0 x1 x2 x3 x4 x5 x6 y0 (x8 + (1 : Int32)) w
set_option maxHeartbeats 4000000 in
set_option maxRecDepth 100000 in
theorem bk_Model_fits_173 {F : Nat} {r : Int32 × im_W} (X : im_X D vwCl tA lo im_NW c_Model_fits 9 (some .boolean) RC_Model im_T p s m args meth c) {k52 : Nat → Int32 → Int32 → Int32 → Int32 → im_W → Option (Int32 × im_W)} (hk52 : ∀ (x0 : Nat) (x1 : Int32) (x2 : Int32) (x3 : Int32) (x4 : Int32) (w : im_W), k52 x0 x1 x2 x3 x4 w = some r → im_WW D vwCl tA lo 9 p l e (im_rm 1 23) s m args below meth c 0 0 (MQ below (im_Post D vwCl tA lo (some (.int r.1)) r.2) args s 0 0 (fun q => lo ≤ q)) 52 [(0, .ref (lo + x0)), (1, .int x1), (2, .int x2), (3, .int x3), (4, .int x4)] [] w) {k114 : Nat → Int32 → Int32 → Int32 → Int32 → Int32 → Int32 → Int32 → Int32 → im_W → Option (Int32 × im_W)} (hk114 : ∀ (x0 : Nat) (x1 : Int32) (x2 : Int32) (x3 : Int32) (x4 : Int32) (x5 : Int32) (x6 : Int32) (x7 : Int32) (x8 : Int32) (w : im_W), k114 x0 x1 x2 x3 x4 x5 x6 x7 x8 w = some r → im_WW D vwCl tA lo 9 p l e (im_rm 1 23) s m args below meth c 0 0 (MQ below (im_Post D vwCl tA lo (some (.int r.1)) r.2) args s 0 0 (fun q => lo ≤ q)) 114 [(0, .ref (lo + x0)), (1, .int x1), (2, .int x2), (3, .int x3), (4, .int x4), (5, .int x5), (6, .int x6), (7, .int x7), (8, .int x8)] [] w) (x0 : Nat) (x1 : Int32) (x2 : Int32) (x3 : Int32) (x4 : Int32) (x5 : Int32) (x6 : Int32) (x8 : Int32) (y0 : Int32) (w : im_W) (hsh : sh_Model_fits_173 F k52 k114 x0 x1 x2 x3 x4 x5 x6 x8 y0 w = some r) : im_WW D vwCl tA lo 9 p l e (im_rm 1 23) s m args below meth c 0 0 (MQ below (im_Post D vwCl tA lo (some (.int r.1)) r.2) args s 0 0 (fun q => lo ≤ q)) 173 [(0, .ref (lo + x0)), (1, .int x1), (2, .int x2), (3, .int x3), (4, .int x4), (5, .int x5), (6, .int x6), (8, .int x8)] [.int y0] w := by
  obtain ⟨hx, hb, hr, hts, hown, hlk, hml, hK, hN⟩ := id X
  intro H locs ls hH hl
  unfold sh_Model_fits_173 at hsh
  refine lv_istore (lv' := [(7, .int y0), (0, .ref (lo + x0)), (1, .int x1), (2, .int x2), (3, .int x3), (4, .int x4), (5, .int x5), (6, .int x6), (8, .int x8)]) hx hb d_Model_fits_173 hl (by decide) rfl (fun ls hl => ?_)
  refine lv_iinc (v := (x8 + (1 : Int32))) (lv' := [(8, .int (x8 + (1 : Int32))), (7, .int y0), (0, .ref (lo + x0)), (1, .int x1), (2, .int x2), (3, .int x3), (4, .int x4), (5, .int x5), (6, .int x6)]) hx hb d_Model_fits_175 hl (k := 8) rfl rfl (by decide) rfl (fun ls hl => ?_)
  refine lv_goto (tgt := 114) hx hb d_Model_fits_178 (by decide) ?_
  exact hk114 x0 x1 x2 x3 x4 x5 x6 y0 (x8 + (1 : Int32)) w hsh H locs ls hH (lv_sub hl [2, 3, 4, 5, 6, 7, 8, 1, 0] rfl)
def sh_Model_fits_210 (F : Nat) (k52 : Nat → Int32 → Int32 → Int32 → Int32 → im_W → Option (Int32 × im_W)) (x0 : Nat) (x1 : Int32) (x2 : Int32) (x6 : Int32) (y0 : Int32) (w : im_W) : Option (Int32 × im_W) :=
  k52 x0 x1 x2 y0 (x6 + (1 : Int32)) w
set_option maxHeartbeats 4000000 in
set_option maxRecDepth 100000 in
theorem bk_Model_fits_210 {F : Nat} {r : Int32 × im_W} (X : im_X D vwCl tA lo im_NW c_Model_fits 9 (some .boolean) RC_Model im_T p s m args meth c) {k52 : Nat → Int32 → Int32 → Int32 → Int32 → im_W → Option (Int32 × im_W)} (hk52 : ∀ (x0 : Nat) (x1 : Int32) (x2 : Int32) (x3 : Int32) (x4 : Int32) (w : im_W), k52 x0 x1 x2 x3 x4 w = some r → im_WW D vwCl tA lo 9 p l e (im_rm 1 23) s m args below meth c 0 0 (MQ below (im_Post D vwCl tA lo (some (.int r.1)) r.2) args s 0 0 (fun q => lo ≤ q)) 52 [(0, .ref (lo + x0)), (1, .int x1), (2, .int x2), (3, .int x3), (4, .int x4)] [] w) (x0 : Nat) (x1 : Int32) (x2 : Int32) (x6 : Int32) (y0 : Int32) (w : im_W) (hsh : sh_Model_fits_210 F k52 x0 x1 x2 x6 y0 w = some r) : im_WW D vwCl tA lo 9 p l e (im_rm 1 23) s m args below meth c 0 0 (MQ below (im_Post D vwCl tA lo (some (.int r.1)) r.2) args s 0 0 (fun q => lo ≤ q)) 210 [(0, .ref (lo + x0)), (1, .int x1), (2, .int x2), (6, .int x6)] [.int y0] w := by
  obtain ⟨hx, hb, hr, hts, hown, hlk, hml, hK, hN⟩ := id X
  intro H locs ls hH hl
  unfold sh_Model_fits_210 at hsh
  refine lv_istore_n (lv' := [(3, .int y0), (0, .ref (lo + x0)), (1, .int x1), (2, .int x2), (6, .int x6)]) hx hb d_Model_fits_210 rfl hl (by decide) rfl (fun ls hl => ?_)
  refine lv_iload hx hb d_Model_fits_211 (lv_at hl 4 rfl) ?_
  refine lv_iconst (v := 1) hx hb d_Model_fits_213 (by decide) ?_
  refine lv_iadd hx hb d_Model_fits_214 ?_
  refine lv_istore (lv' := [(4, .int (x6 + (1 : Int32))), (3, .int y0), (0, .ref (lo + x0)), (1, .int x1), (2, .int x2), (6, .int x6)]) hx hb d_Model_fits_215 hl (by decide) rfl (fun ls hl => ?_)
  refine lv_goto (tgt := 52) hx hb d_Model_fits_217 (by decide) ?_
  exact hk52 x0 x1 x2 y0 (x6 + (1 : Int32)) w hsh H locs ls hH (lv_sub hl [2, 3, 4, 1, 0] rfl)
def sh_Model_fits_197 (F : Nat) (k52 : Nat → Int32 → Int32 → Int32 → Int32 → im_W → Option (Int32 × im_W)) (x0 : Nat) (x1 : Int32) (x2 : Int32) (x3 : Int32) (x5 : Int32) (x6 : Int32) (x7 : Int32) (w : im_W) : Option (Int32 × im_W) :=
  (if x7 = 0 then sh_Model_fits_210 F k52 x0 x1 x2 x6 x3 w else sh_Model_fits_210 F k52 x0 x1 x2 x6 (x5 + (1 : Int32)) w)
set_option maxHeartbeats 4000000 in
set_option maxRecDepth 100000 in
theorem bk_Model_fits_197 {F : Nat} {r : Int32 × im_W} (X : im_X D vwCl tA lo im_NW c_Model_fits 9 (some .boolean) RC_Model im_T p s m args meth c) {k52 : Nat → Int32 → Int32 → Int32 → Int32 → im_W → Option (Int32 × im_W)} (hk52 : ∀ (x0 : Nat) (x1 : Int32) (x2 : Int32) (x3 : Int32) (x4 : Int32) (w : im_W), k52 x0 x1 x2 x3 x4 w = some r → im_WW D vwCl tA lo 9 p l e (im_rm 1 23) s m args below meth c 0 0 (MQ below (im_Post D vwCl tA lo (some (.int r.1)) r.2) args s 0 0 (fun q => lo ≤ q)) 52 [(0, .ref (lo + x0)), (1, .int x1), (2, .int x2), (3, .int x3), (4, .int x4)] [] w) (x0 : Nat) (x1 : Int32) (x2 : Int32) (x3 : Int32) (x5 : Int32) (x6 : Int32) (x7 : Int32) (w : im_W) (hsh : sh_Model_fits_197 F k52 x0 x1 x2 x3 x5 x6 x7 w = some r) : im_WW D vwCl tA lo 9 p l e (im_rm 1 23) s m args below meth c 0 0 (MQ below (im_Post D vwCl tA lo (some (.int r.1)) r.2) args s 0 0 (fun q => lo ≤ q)) 197 [(0, .ref (lo + x0)), (1, .int x1), (2, .int x2), (3, .int x3), (5, .int x5), (6, .int x6), (7, .int x7)] [] w := by
  obtain ⟨hx, hb, hr, hts, hown, hlk, hml, hK, hN⟩ := id X
  intro H locs ls hH hl
  unfold sh_Model_fits_197 at hsh
  refine lv_iload hx hb d_Model_fits_197 (lv_at hl 6 rfl) ?_
  refine lv_if_eq (tgt := 209) hx hb d_Model_fits_199 (by decide) (fun cc => ?_) (fun cc => ?_)
  · have hsh := im_it hsh cc
    refine lv_iload_n hx hb d_Model_fits_209 rfl (lv_at hl 3 rfl) ?_
    exact bk_Model_fits_210 X hk52 x0 x1 x2 x6 x3 w hsh H locs ls hH (lv_sub hl [0, 1, 2, 5] rfl)
  · have hsh := im_if hsh cc
    refine lv_iload hx hb d_Model_fits_202 (lv_at hl 4 rfl) ?_
    refine lv_iconst (v := 1) hx hb d_Model_fits_204 (by decide) ?_
    refine lv_iadd hx hb d_Model_fits_205 ?_
    refine lv_goto (tgt := 210) hx hb d_Model_fits_206 (by decide) ?_
    exact bk_Model_fits_210 X hk52 x0 x1 x2 x6 (x5 + (1 : Int32)) w hsh H locs ls hH (lv_sub hl [0, 1, 2, 5] rfl)
def sh_Model_fits_181 (F : Nat) (k52 : Nat → Int32 → Int32 → Int32 → Int32 → im_W → Option (Int32 × im_W)) (x0 : Nat) (x1 : Int32) (x2 : Int32) (x3 : Int32) (x4 : Int32) (x5 : Int32) (x6 : Int32) (x7 : Int32) (w : im_W) : Option (Int32 × im_W) :=
  (if x7 = 0 then (if (x6 - x4) = (1 : Int32) then im_rz (0 : Int32) w else sh_Model_fits_197 F k52 x0 x1 x2 x3 x5 x6 x7 w) else sh_Model_fits_197 F k52 x0 x1 x2 x3 x5 x6 x7 w)
set_option maxHeartbeats 4000000 in
set_option maxRecDepth 100000 in
theorem bk_Model_fits_181 {F : Nat} {r : Int32 × im_W} (X : im_X D vwCl tA lo im_NW c_Model_fits 9 (some .boolean) RC_Model im_T p s m args meth c) {k52 : Nat → Int32 → Int32 → Int32 → Int32 → im_W → Option (Int32 × im_W)} (hk52 : ∀ (x0 : Nat) (x1 : Int32) (x2 : Int32) (x3 : Int32) (x4 : Int32) (w : im_W), k52 x0 x1 x2 x3 x4 w = some r → im_WW D vwCl tA lo 9 p l e (im_rm 1 23) s m args below meth c 0 0 (MQ below (im_Post D vwCl tA lo (some (.int r.1)) r.2) args s 0 0 (fun q => lo ≤ q)) 52 [(0, .ref (lo + x0)), (1, .int x1), (2, .int x2), (3, .int x3), (4, .int x4)] [] w) (x0 : Nat) (x1 : Int32) (x2 : Int32) (x3 : Int32) (x4 : Int32) (x5 : Int32) (x6 : Int32) (x7 : Int32) (w : im_W) (hsh : sh_Model_fits_181 F k52 x0 x1 x2 x3 x4 x5 x6 x7 w = some r) : im_WW D vwCl tA lo 9 p l e (im_rm 1 23) s m args below meth c 0 0 (MQ below (im_Post D vwCl tA lo (some (.int r.1)) r.2) args s 0 0 (fun q => lo ≤ q)) 181 [(0, .ref (lo + x0)), (1, .int x1), (2, .int x2), (3, .int x3), (4, .int x4), (5, .int x5), (6, .int x6), (7, .int x7)] [] w := by
  obtain ⟨hx, hb, hr, hts, hown, hlk, hml, hK, hN⟩ := id X
  intro H locs ls hH hl
  unfold sh_Model_fits_181 at hsh
  refine lv_iload hx hb d_Model_fits_181 (lv_at hl 7 rfl) ?_
  refine lv_if_ne (tgt := 197) hx hb d_Model_fits_183 (by decide) (fun cc => ?_) (fun cc => ?_)
  · have hsh := im_if hsh cc
    exact bk_Model_fits_197 X hk52 x0 x1 x2 x3 x5 x6 x7 w hsh H locs ls hH (lv_sub hl [0, 1, 2, 3, 5, 6, 7] rfl)
  · have hsh := im_it hsh cc
    refine lv_iload hx hb d_Model_fits_186 (lv_at hl 6 rfl) ?_
    refine lv_iload hx hb d_Model_fits_188 (lv_at hl 4 rfl) ?_
    refine lv_isub hx hb d_Model_fits_190 ?_
    refine lv_iconst (v := 1) hx hb d_Model_fits_191 (by decide) ?_
    refine lv_icmp_ne (tgt := 197) hx hb d_Model_fits_192 (by decide) (fun cc => ?_) (fun cc => ?_)
    · have hsh := im_if hsh cc
      exact bk_Model_fits_197 X hk52 x0 x1 x2 x3 x5 x6 x7 w hsh H locs ls hH (lv_sub hl [0, 1, 2, 3, 5, 6, 7] rfl)
    · have hsh := im_it hsh cc
      refine lv_iconst (v := 0) hx hb d_Model_fits_195 (by decide) ?_
      obtain ⟨rfl, hn⟩ := im_rz_s hsh
      exact im_zret hx hb hr hlk hn hH d_Model_fits_196
def sh_Model_fits_114 (F : Nat) (k52 : Nat → Int32 → Int32 → Int32 → Int32 → im_W → Option (Int32 × im_W)) : Nat → Nat → Int32 → Int32 → Int32 → Int32 → Int32 → Int32 → Int32 → Int32 → im_W → Option (Int32 × im_W)
  | 0, _, _, _, _, _, _, _, _, _, _ => none
  | f + 1, x0, x1, x2, x3, x4, x5, x6, x7, x8, w => (if (x5 - x3) ≤ x8 then sh_Model_fits_181 F k52 x0 x1 x2 x3 x4 x5 x6 x7 w else (if x7 = 0 then sh_Model_fits_181 F k52 x0 x1 x2 x3 x4 x5 x6 x7 w else (im_gR w 9 x0 32).bind fun f1 => (im_lI w 2 f1 ((((80 : Int32) * x1) + x3) + x8)).bind fun e3 => (im_is w 9 x0).bind fun u5 => im_b2 (sh_Model_small F x0 e3 w) fun v11 w9 => (im_gR w9 9 x0 32).bind fun f12 => (im_lI w9 2 f12 ((((80 : Int32) * x2) + x4) + x8)).bind fun e14 => (im_is w9 9 x0).bind fun u16 => im_b2 (sh_Model_small F x0 e14 w9) fun v22 w20 => (if v11 = v22 then sh_Model_fits_173 F k52 (sh_Model_fits_114 F k52 f) x0 x1 x2 x3 x4 x5 x6 x8 (1 : Int32) w20 else sh_Model_fits_173 F k52 (sh_Model_fits_114 F k52 f) x0 x1 x2 x3 x4 x5 x6 x8 (0 : Int32) w20)))
set_option maxHeartbeats 4000000 in
set_option maxRecDepth 100000 in
theorem bk_Model_fits_114 {F : Nat} {r : Int32 × im_W} (X : im_X D vwCl tA lo im_NW c_Model_fits 9 (some .boolean) RC_Model im_T p s m args meth c) {k52 : Nat → Int32 → Int32 → Int32 → Int32 → im_W → Option (Int32 × im_W)} (hk52 : ∀ (x0 : Nat) (x1 : Int32) (x2 : Int32) (x3 : Int32) (x4 : Int32) (w : im_W), k52 x0 x1 x2 x3 x4 w = some r → im_WW D vwCl tA lo 9 p l e (im_rm 1 23) s m args below meth c 0 0 (MQ below (im_Post D vwCl tA lo (some (.int r.1)) r.2) args s 0 0 (fun q => lo ≤ q)) 52 [(0, .ref (lo + x0)), (1, .int x1), (2, .int x2), (3, .int x3), (4, .int x4)] [] w) : ∀ (f : Nat) (x0 : Nat) (x1 : Int32) (x2 : Int32) (x3 : Int32) (x4 : Int32) (x5 : Int32) (x6 : Int32) (x7 : Int32) (x8 : Int32) (w : im_W), sh_Model_fits_114 F k52 f x0 x1 x2 x3 x4 x5 x6 x7 x8 w = some r → im_WW D vwCl tA lo 9 p l e (im_rm 1 23) s m args below meth c 0 0 (MQ below (im_Post D vwCl tA lo (some (.int r.1)) r.2) args s 0 0 (fun q => lo ≤ q)) 114 [(0, .ref (lo + x0)), (1, .int x1), (2, .int x2), (3, .int x3), (4, .int x4), (5, .int x5), (6, .int x6), (7, .int x7), (8, .int x8)] [] w := by
  obtain ⟨hx, hb, hr, hts, hown, hlk, hml, hK, hN⟩ := id X
  intro f
  induction f with
  | zero =>
    intro x0 x1 x2 x3 x4 x5 x6 x7 x8 w hsh
    cases hsh
  | succ f ih =>
    intro x0 x1 x2 x3 x4 x5 x6 x7 x8 w hsh H locs ls hH hl
    unfold sh_Model_fits_114 at hsh
    refine lv_iload hx hb d_Model_fits_114 (lv_at hl 8 rfl) ?_
    refine lv_iload hx hb d_Model_fits_116 (lv_at hl 5 rfl) ?_
    refine lv_iload_n hx hb d_Model_fits_118 rfl (lv_at hl 3 rfl) ?_
    refine lv_isub hx hb d_Model_fits_119 ?_
    refine lv_icmp_ge (tgt := 181) hx hb d_Model_fits_120 (by decide) (fun cc => ?_) (fun cc => ?_)
    · have hsh := im_it hsh cc
      exact bk_Model_fits_181 X hk52 x0 x1 x2 x3 x4 x5 x6 x7 w hsh H locs ls hH (lv_sub hl [0, 1, 2, 3, 4, 5, 6, 7] rfl)
    · have hsh := im_if hsh cc
      refine lv_iload hx hb d_Model_fits_123 (lv_at hl 7 rfl) ?_
      refine lv_if_eq (tgt := 181) hx hb d_Model_fits_125 (by decide) (fun cc => ?_) (fun cc => ?_)
      · have hsh := im_it hsh cc
        exact bk_Model_fits_181 X hk52 x0 x1 x2 x3 x4 x5 x6 x7 w hsh H locs ls hH (lv_sub hl [0, 1, 2, 3, 4, 5, 6, 7] rfl)
      · have hsh := im_if hsh cc
        refine lv_aload_n hx hb d_Model_fits_128 rfl (lv_at hl 0 rfl) ?_
        refine lv_aload_n hx hb d_Model_fits_129 rfl (lv_at hl 0 rfl) ?_
        obtain ⟨f1, h2, hsh⟩ := im_bd hsh
        refine im_getR hx hb hts inC_Model hown hK hH (ci := 9) rfl 32 (by decide) (hts _ wd_663) rfl h2 d_Model_fits_130 ?_
        refine lv_bipush (v := 80) hx hb d_Model_fits_133 (by decide) ?_
        refine lv_iload_n hx hb d_Model_fits_135 rfl (lv_at hl 1 rfl) ?_
        refine lv_imul hx hb d_Model_fits_136 ?_
        refine lv_iload_n hx hb d_Model_fits_137 rfl (lv_at hl 3 rfl) ?_
        refine lv_iadd hx hb d_Model_fits_138 ?_
        refine lv_iload hx hb d_Model_fits_139 (lv_at hl 8 rfl) ?_
        refine lv_iadd hx hb d_Model_fits_141 ?_
        obtain ⟨e3, h4, hsh⟩ := im_bd hsh
        refine im_cald hx hb hK hH h4 d_Model_fits_142 ?_
        obtain ⟨u5, h6, hsh⟩ := im_bd hsh
        obtain ⟨g7, h8⟩ := im_is_s h6
        obtain ⟨v11, w9, h10, hsh⟩ := im_bd2 hsh
        refine im_afterI (va_runV (As := [.int e3]) (rest := []) (C := RC_Model) ⟨hx, hb, hml, hown, hts⟩ (met_Model_small h10) ⟨(callB_of 1 hts (im_good wd_775) rfl rfl rfl (hts _ wd_10) (hts _ wd_772) (by decide +kernel) ⟨Nat.le_of_ble_eq_true rfl, Nat.le_of_ble_eq_true rfl⟩), hts _ wd_774, hts _ sl_Model_small⟩ (im_preV im_NW_ok hK hN hH (ci := 9) rfl rfl h8 _) rfl rfl hl.1 rfl (lv_room (Nat.le_of_ble_eq_true rfl)) d_Model_fits_143 ⟨Nat.le_of_ble_eq_true rfl, Nat.le_of_ble_eq_true rfl⟩) hH (fun H locs hH => ?_)
        refine lv_aload_n hx hb d_Model_fits_146 rfl (lv_at hl 0 rfl) ?_
        refine lv_aload_n hx hb d_Model_fits_147 rfl (lv_at hl 0 rfl) ?_
        obtain ⟨f12, h13, hsh⟩ := im_bd hsh
        refine im_getR hx hb hts inC_Model hown hK hH (ci := 9) rfl 32 (by decide) (hts _ wd_663) rfl h13 d_Model_fits_148 ?_
        refine lv_bipush (v := 80) hx hb d_Model_fits_151 (by decide) ?_
        refine lv_iload_n hx hb d_Model_fits_153 rfl (lv_at hl 2 rfl) ?_
        refine lv_imul hx hb d_Model_fits_154 ?_
        refine lv_iload hx hb d_Model_fits_155 (lv_at hl 4 rfl) ?_
        refine lv_iadd hx hb d_Model_fits_157 ?_
        refine lv_iload hx hb d_Model_fits_158 (lv_at hl 8 rfl) ?_
        refine lv_iadd hx hb d_Model_fits_160 ?_
        obtain ⟨e14, h15, hsh⟩ := im_bd hsh
        refine im_cald hx hb hK hH h15 d_Model_fits_161 ?_
        obtain ⟨u16, h17, hsh⟩ := im_bd hsh
        obtain ⟨g18, h19⟩ := im_is_s h17
        obtain ⟨v22, w20, h21, hsh⟩ := im_bd2 hsh
        refine im_afterI (va_runV (As := [.int e14]) (rest := [.int v11]) (C := RC_Model) ⟨hx, hb, hml, hown, hts⟩ (met_Model_small h21) ⟨(callB_of 1 hts (im_good wd_775) rfl rfl rfl (hts _ wd_10) (hts _ wd_772) (by decide +kernel) ⟨Nat.le_of_ble_eq_true rfl, Nat.le_of_ble_eq_true rfl⟩), hts _ wd_774, hts _ sl_Model_small⟩ (im_preV im_NW_ok hK hN hH (ci := 9) rfl rfl h19 _) rfl rfl hl.1 rfl (lv_room (Nat.le_of_ble_eq_true rfl)) d_Model_fits_162 ⟨Nat.le_of_ble_eq_true rfl, Nat.le_of_ble_eq_true rfl⟩) hH (fun H locs hH => ?_)
        refine lv_icmp_ne (tgt := 172) hx hb d_Model_fits_165 (by decide) (fun cc => ?_) (fun cc => ?_)
        · have hsh := im_if hsh cc
          refine lv_iconst (v := 0) hx hb d_Model_fits_172 (by decide) ?_
          exact bk_Model_fits_173 X hk52 ih x0 x1 x2 x3 x4 x5 x6 x8 (0 : Int32) w20 hsh H locs ls hH (lv_sub hl [0, 1, 2, 3, 4, 5, 6, 8] rfl)
        · have hsh := im_it hsh cc
          refine lv_iconst (v := 1) hx hb d_Model_fits_168 (by decide) ?_
          refine lv_goto (tgt := 173) hx hb d_Model_fits_169 (by decide) ?_
          exact bk_Model_fits_173 X hk52 ih x0 x1 x2 x3 x4 x5 x6 x8 (1 : Int32) w20 hsh H locs ls hH (lv_sub hl [0, 1, 2, 3, 4, 5, 6, 8] rfl)
def sh_Model_fits_109 (F : Nat) (k52 : Nat → Int32 → Int32 → Int32 → Int32 → im_W → Option (Int32 × im_W)) (x0 : Nat) (x1 : Int32) (x2 : Int32) (x3 : Int32) (x4 : Int32) (x5 : Int32) (x6 : Int32) (y0 : Int32) (w : im_W) : Option (Int32 × im_W) :=
  sh_Model_fits_114 F k52 F x0 x1 x2 x3 x4 x5 x6 y0 (0 : Int32) w
set_option maxHeartbeats 4000000 in
set_option maxRecDepth 100000 in
theorem bk_Model_fits_109 {F : Nat} {r : Int32 × im_W} (X : im_X D vwCl tA lo im_NW c_Model_fits 9 (some .boolean) RC_Model im_T p s m args meth c) {k52 : Nat → Int32 → Int32 → Int32 → Int32 → im_W → Option (Int32 × im_W)} (hk52 : ∀ (x0 : Nat) (x1 : Int32) (x2 : Int32) (x3 : Int32) (x4 : Int32) (w : im_W), k52 x0 x1 x2 x3 x4 w = some r → im_WW D vwCl tA lo 9 p l e (im_rm 1 23) s m args below meth c 0 0 (MQ below (im_Post D vwCl tA lo (some (.int r.1)) r.2) args s 0 0 (fun q => lo ≤ q)) 52 [(0, .ref (lo + x0)), (1, .int x1), (2, .int x2), (3, .int x3), (4, .int x4)] [] w) (x0 : Nat) (x1 : Int32) (x2 : Int32) (x3 : Int32) (x4 : Int32) (x5 : Int32) (x6 : Int32) (y0 : Int32) (w : im_W) (hsh : sh_Model_fits_109 F k52 x0 x1 x2 x3 x4 x5 x6 y0 w = some r) : im_WW D vwCl tA lo 9 p l e (im_rm 1 23) s m args below meth c 0 0 (MQ below (im_Post D vwCl tA lo (some (.int r.1)) r.2) args s 0 0 (fun q => lo ≤ q)) 109 [(0, .ref (lo + x0)), (1, .int x1), (2, .int x2), (3, .int x3), (4, .int x4), (5, .int x5), (6, .int x6)] [.int y0] w := by
  obtain ⟨hx, hb, hr, hts, hown, hlk, hml, hK, hN⟩ := id X
  intro H locs ls hH hl
  unfold sh_Model_fits_109 at hsh
  refine lv_istore (lv' := [(7, .int y0), (0, .ref (lo + x0)), (1, .int x1), (2, .int x2), (3, .int x3), (4, .int x4), (5, .int x5), (6, .int x6)]) hx hb d_Model_fits_109 hl (by decide) rfl (fun ls hl => ?_)
  refine lv_iconst (v := 0) hx hb d_Model_fits_111 (by decide) ?_
  refine lv_istore (lv' := [(8, .int (0 : Int32)), (7, .int y0), (0, .ref (lo + x0)), (1, .int x1), (2, .int x2), (3, .int x3), (4, .int x4), (5, .int x5), (6, .int x6)]) hx hb d_Model_fits_112 hl (by decide) rfl (fun ls hl => ?_)
  exact bk_Model_fits_114 X hk52 F x0 x1 x2 x3 x4 x5 x6 y0 (0 : Int32) w hsh H locs ls hH (lv_sub hl [2, 3, 4, 5, 6, 7, 8, 1, 0] rfl)
def sh_Model_fits_52 (F : Nat) : Nat → Nat → Int32 → Int32 → Int32 → Int32 → im_W → Option (Int32 × im_W)
  | 0, _, _, _, _, _, _ => none
  | f + 1, x0, x1, x2, x3, x4, w => (im_gR w 9 x0 33).bind fun f1 => (im_lI w 0 f1 x1).bind fun e3 => (if e3 ≤ x3 then im_rz (1 : Int32) w else (im_gR w 9 x0 33).bind fun f5 => (im_lI w 0 f5 x2).bind fun e7 => (if x4 < e7 then (im_is w 9 x0).bind fun u9 => im_b2 (sh_Model_subtagEnd F x0 x1 x3 w) fun v15 w13 => (im_is w13 9 x0).bind fun u16 => im_b2 (sh_Model_subtagEnd F x0 x2 x4 w13) fun v22 w20 => (if (v15 - x3) = (v22 - x4) then sh_Model_fits_109 F (sh_Model_fits_52 F f) x0 x1 x2 x3 x4 v15 v22 (1 : Int32) w20 else sh_Model_fits_109 F (sh_Model_fits_52 F f) x0 x1 x2 x3 x4 v15 v22 (0 : Int32) w20) else im_rz (0 : Int32) w))
set_option maxHeartbeats 4000000 in
set_option maxRecDepth 100000 in
theorem bk_Model_fits_52 {F : Nat} {r : Int32 × im_W} (X : im_X D vwCl tA lo im_NW c_Model_fits 9 (some .boolean) RC_Model im_T p s m args meth c) : ∀ (f : Nat) (x0 : Nat) (x1 : Int32) (x2 : Int32) (x3 : Int32) (x4 : Int32) (w : im_W), sh_Model_fits_52 F f x0 x1 x2 x3 x4 w = some r → im_WW D vwCl tA lo 9 p l e (im_rm 1 23) s m args below meth c 0 0 (MQ below (im_Post D vwCl tA lo (some (.int r.1)) r.2) args s 0 0 (fun q => lo ≤ q)) 52 [(0, .ref (lo + x0)), (1, .int x1), (2, .int x2), (3, .int x3), (4, .int x4)] [] w := by
  obtain ⟨hx, hb, hr, hts, hown, hlk, hml, hK, hN⟩ := id X
  intro f
  induction f with
  | zero =>
    intro x0 x1 x2 x3 x4 w hsh
    cases hsh
  | succ f ih =>
    intro x0 x1 x2 x3 x4 w hsh H locs ls hH hl
    unfold sh_Model_fits_52 at hsh
    refine lv_iload_n hx hb d_Model_fits_52 rfl (lv_at hl 3 rfl) ?_
    refine lv_aload_n hx hb d_Model_fits_53 rfl (lv_at hl 0 rfl) ?_
    obtain ⟨f1, h2, hsh⟩ := im_bd hsh
    refine im_getR hx hb hts inC_Model hown hK hH (ci := 9) rfl 33 (by decide) (hts _ wd_664) rfl h2 d_Model_fits_54 ?_
    refine lv_iload_n hx hb d_Model_fits_57 rfl (lv_at hl 1 rfl) ?_
    obtain ⟨e3, h4, hsh⟩ := im_bd hsh
    refine im_iald hx hb hK hH h4 d_Model_fits_58 ?_
    refine lv_icmp_ge (tgt := 220) hx hb d_Model_fits_59 (by decide) (fun cc => ?_) (fun cc => ?_)
    · have hsh := im_it hsh cc
      refine lv_iconst (v := 1) hx hb d_Model_fits_220 (by decide) ?_
      obtain ⟨rfl, hn⟩ := im_rz_s hsh
      exact im_zret hx hb hr hlk hn hH d_Model_fits_221
    · have hsh := im_if hsh cc
      refine lv_iload hx hb d_Model_fits_62 (lv_at hl 4 rfl) ?_
      refine lv_aload_n hx hb d_Model_fits_64 rfl (lv_at hl 0 rfl) ?_
      obtain ⟨f5, h6, hsh⟩ := im_bd hsh
      refine im_getR hx hb hts inC_Model hown hK hH (ci := 9) rfl 33 (by decide) (hts _ wd_664) rfl h6 d_Model_fits_65 ?_
      refine lv_iload_n hx hb d_Model_fits_68 rfl (lv_at hl 2 rfl) ?_
      obtain ⟨e7, h8, hsh⟩ := im_bd hsh
      refine im_iald hx hb hK hH h8 d_Model_fits_69 ?_
      refine lv_icmp_lt (tgt := 75) hx hb d_Model_fits_70 (by decide) (fun cc => ?_) (fun cc => ?_)
      · have hsh := im_it hsh cc
        refine lv_aload_n hx hb d_Model_fits_75 rfl (lv_at hl 0 rfl) ?_
        refine lv_iload_n hx hb d_Model_fits_76 rfl (lv_at hl 1 rfl) ?_
        refine lv_iload_n hx hb d_Model_fits_77 rfl (lv_at hl 3 rfl) ?_
        obtain ⟨u9, h10, hsh⟩ := im_bd hsh
        obtain ⟨g11, h12⟩ := im_is_s h10
        obtain ⟨v15, w13, h14, hsh⟩ := im_bd2 hsh
        refine im_afterI (va_runV (As := [.int x1, .int x3]) (rest := []) (C := RC_Model) ⟨hx, hb, hml, hown, hts⟩ (met_Model_subtagEnd h14) ⟨(callB_of 2 hts (im_good wd_955) rfl rfl rfl (hts _ wd_10) (hts _ wd_952) (by decide +kernel) ⟨Nat.le_of_ble_eq_true rfl, Nat.le_of_ble_eq_true rfl⟩), hts _ wd_954, hts _ sl_Model_subtagEnd⟩ (im_preV im_NW_ok hK hN hH (ci := 9) rfl rfl h12 _) rfl rfl hl.1 rfl (lv_room (Nat.le_of_ble_eq_true rfl)) d_Model_fits_78 ⟨Nat.le_of_ble_eq_true rfl, Nat.le_of_ble_eq_true rfl⟩) hH (fun H locs hH => ?_)
        refine lv_istore (lv' := [(5, .int v15), (0, .ref (lo + x0)), (1, .int x1), (2, .int x2), (3, .int x3), (4, .int x4)]) hx hb d_Model_fits_81 hl (by decide) rfl (fun ls hl => ?_)
        refine lv_aload_n hx hb d_Model_fits_83 rfl (lv_at hl 1 rfl) ?_
        refine lv_iload_n hx hb d_Model_fits_84 rfl (lv_at hl 3 rfl) ?_
        refine lv_iload hx hb d_Model_fits_85 (lv_at hl 5 rfl) ?_
        obtain ⟨u16, h17, hsh⟩ := im_bd hsh
        obtain ⟨g18, h19⟩ := im_is_s h17
        obtain ⟨v22, w20, h21, hsh⟩ := im_bd2 hsh
        refine im_afterI (va_runV (As := [.int x2, .int x4]) (rest := []) (C := RC_Model) ⟨hx, hb, hml, hown, hts⟩ (met_Model_subtagEnd h21) ⟨(callB_of 2 hts (im_good wd_955) rfl rfl rfl (hts _ wd_10) (hts _ wd_952) (by decide +kernel) ⟨Nat.le_of_ble_eq_true rfl, Nat.le_of_ble_eq_true rfl⟩), hts _ wd_954, hts _ sl_Model_subtagEnd⟩ (im_preV im_NW_ok hK hN hH (ci := 9) rfl rfl h19 _) rfl rfl hl.1 rfl (lv_room (Nat.le_of_ble_eq_true rfl)) d_Model_fits_87 ⟨Nat.le_of_ble_eq_true rfl, Nat.le_of_ble_eq_true rfl⟩) hH (fun H locs hH => ?_)
        refine lv_istore (lv' := [(6, .int v22), (5, .int v15), (0, .ref (lo + x0)), (1, .int x1), (2, .int x2), (3, .int x3), (4, .int x4)]) hx hb d_Model_fits_90 hl (by decide) rfl (fun ls hl => ?_)
        refine lv_iload hx hb d_Model_fits_92 (lv_at hl 1 rfl) ?_
        refine lv_iload_n hx hb d_Model_fits_94 rfl (lv_at hl 5 rfl) ?_
        refine lv_isub hx hb d_Model_fits_95 ?_
        refine lv_iload hx hb d_Model_fits_96 (lv_at hl 0 rfl) ?_
        refine lv_iload hx hb d_Model_fits_98 (lv_at hl 6 rfl) ?_
        refine lv_isub hx hb d_Model_fits_100 ?_
        refine lv_icmp_ne (tgt := 108) hx hb d_Model_fits_101 (by decide) (fun cc => ?_) (fun cc => ?_)
        · have hsh := im_if hsh cc
          refine lv_iconst (v := 0) hx hb d_Model_fits_108 (by decide) ?_
          exact bk_Model_fits_109 X ih x0 x1 x2 x3 x4 v15 v22 (0 : Int32) w20 hsh H locs ls hH (lv_sub hl [2, 3, 4, 5, 6, 1, 0] rfl)
        · have hsh := im_it hsh cc
          refine lv_iconst (v := 1) hx hb d_Model_fits_104 (by decide) ?_
          refine lv_goto (tgt := 109) hx hb d_Model_fits_105 (by decide) ?_
          exact bk_Model_fits_109 X ih x0 x1 x2 x3 x4 v15 v22 (1 : Int32) w20 hsh H locs ls hH (lv_sub hl [2, 3, 4, 5, 6, 1, 0] rfl)
      · have hsh := im_if hsh cc
        refine lv_iconst (v := 0) hx hb d_Model_fits_73 (by decide) ?_
        obtain ⟨rfl, hn⟩ := im_rz_s hsh
        exact im_zret hx hb hr hlk hn hH d_Model_fits_74
def sh_Model_fits (F : Nat) (x0 : Nat) (x1 : Int32) (x2 : Int32) (w : im_W) : Option (Int32 × im_W) :=
  (im_is w 9 x0).bind fun u1 => im_b2 (sh_Model_none F x0 x1 w) fun v7 w5 => (if v7 = 0 then (im_is w5 9 x0).bind fun u8 => im_b2 (sh_Model_none F x0 x2 w5) fun v14 w12 => (if v14 = 0 then (im_gR w12 9 x0 34).bind fun f15 => (im_lI w12 0 f15 x1).bind fun e17 => (im_gR w12 9 x0 34).bind fun f19 => (im_lI w12 0 f19 x2).bind fun e21 => (if e17 = e21 then (im_is w12 9 x0).bind fun u23 => im_b2 (sh_Model_subtagEnd F x0 x1 (0 : Int32) w12) fun v29 w27 => (im_is w27 9 x0).bind fun u30 => im_b2 (sh_Model_subtagEnd F x0 x2 (0 : Int32) w27) fun v36 w34 => sh_Model_fits_52 F F x0 x1 x2 (v29 + (1 : Int32)) (v36 + (1 : Int32)) w34 else sh_Model_fits_31 F w12) else sh_Model_fits_31 F w12) else sh_Model_fits_31 F w5)
set_option maxHeartbeats 4000000 in
set_option maxRecDepth 100000 in
theorem met_Model_fits {F : Nat} {x0 : Nat} {x1 : Int32} {x2 : Int32} {w : im_W} {r : Int32 × im_W} (hsh : sh_Model_fits F x0 x1 x2 w = some r) : Met l y_Model_fits (Cond.code y_Model_fits c_Model_fits 9 (some .boolean) :: im_T) (im_rm 1 23) (im_Pre D vwCl tA lo im_NW [.ref (lo + x0), .int x1, .int x2] w) (im_Post D vwCl tA lo (some (.int r.1)) r.2) 0 0 (fun q => lo ≤ q) := by
  refine im_ofW (cc := c_Model_fits) (nL := 9) (ret := (some .boolean)) (by decide) (Nat.le_of_ble_eq_true rfl) ?_
  intro p e s m args below meth c X H locs ls hH hl
  obtain ⟨hx, hb, hr, hts, hown, hlk, hml, hK, hN⟩ := id X
  have hl : lv_has ls 9 [(0, .ref (lo + x0)), (1, .int x1), (2, .int x2)] := hl
  unfold sh_Model_fits at hsh
  refine lv_aload_n hx hb d_Model_fits_0 rfl (lv_at hl 0 rfl) ?_
  refine lv_iload_n hx hb d_Model_fits_1 rfl (lv_at hl 1 rfl) ?_
  obtain ⟨u1, h2, hsh⟩ := im_bd hsh
  obtain ⟨g3, h4⟩ := im_is_s h2
  obtain ⟨v7, w5, h6, hsh⟩ := im_bd2 hsh
  refine im_afterI (va_runV (As := [.int x1]) (rest := []) (C := RC_Model) ⟨hx, hb, hml, hown, hts⟩ (met_Model_none h6) ⟨(callB_of 1 hts (im_good wd_915) rfl rfl rfl (hts _ wd_10) (hts _ wd_912) (by decide +kernel) ⟨Nat.le_of_ble_eq_true rfl, Nat.le_of_ble_eq_true rfl⟩), hts _ wd_914, hts _ sl_Model_none⟩ (im_preV im_NW_ok hK hN hH (ci := 9) rfl rfl h4 _) rfl rfl hl.1 rfl (lv_room (Nat.le_of_ble_eq_true rfl)) d_Model_fits_2 ⟨Nat.le_of_ble_eq_true rfl, Nat.le_of_ble_eq_true rfl⟩) hH (fun H locs hH => ?_)
  refine lv_if_ne (tgt := 31) hx hb d_Model_fits_5 (by decide) (fun cc => ?_) (fun cc => ?_)
  · have hsh := im_if hsh cc
    exact bk_Model_fits_31 X w5 hsh H locs ls hH (lv_sub hl [] rfl)
  · have hsh := im_it hsh cc
    refine lv_aload_n hx hb d_Model_fits_8 rfl (lv_at hl 0 rfl) ?_
    refine lv_iload_n hx hb d_Model_fits_9 rfl (lv_at hl 2 rfl) ?_
    obtain ⟨u8, h9, hsh⟩ := im_bd hsh
    obtain ⟨g10, h11⟩ := im_is_s h9
    obtain ⟨v14, w12, h13, hsh⟩ := im_bd2 hsh
    refine im_afterI (va_runV (As := [.int x2]) (rest := []) (C := RC_Model) ⟨hx, hb, hml, hown, hts⟩ (met_Model_none h13) ⟨(callB_of 1 hts (im_good wd_915) rfl rfl rfl (hts _ wd_10) (hts _ wd_912) (by decide +kernel) ⟨Nat.le_of_ble_eq_true rfl, Nat.le_of_ble_eq_true rfl⟩), hts _ wd_914, hts _ sl_Model_none⟩ (im_preV im_NW_ok hK hN hH (ci := 9) rfl rfl h11 _) rfl rfl hl.1 rfl (lv_room (Nat.le_of_ble_eq_true rfl)) d_Model_fits_10 ⟨Nat.le_of_ble_eq_true rfl, Nat.le_of_ble_eq_true rfl⟩) hH (fun H locs hH => ?_)
    refine lv_if_ne (tgt := 31) hx hb d_Model_fits_13 (by decide) (fun cc => ?_) (fun cc => ?_)
    · have hsh := im_if hsh cc
      exact bk_Model_fits_31 X w12 hsh H locs ls hH (lv_sub hl [] rfl)
    · have hsh := im_it hsh cc
      refine lv_aload_n hx hb d_Model_fits_16 rfl (lv_at hl 0 rfl) ?_
      obtain ⟨f15, h16, hsh⟩ := im_bd hsh
      refine im_getR hx hb hts inC_Model hown hK hH (ci := 9) rfl 34 (by decide) (hts _ wd_665) rfl h16 d_Model_fits_17 ?_
      refine lv_iload_n hx hb d_Model_fits_20 rfl (lv_at hl 1 rfl) ?_
      obtain ⟨e17, h18, hsh⟩ := im_bd hsh
      refine im_iald hx hb hK hH h18 d_Model_fits_21 ?_
      refine lv_aload_n hx hb d_Model_fits_22 rfl (lv_at hl 0 rfl) ?_
      obtain ⟨f19, h20, hsh⟩ := im_bd hsh
      refine im_getR hx hb hts inC_Model hown hK hH (ci := 9) rfl 34 (by decide) (hts _ wd_665) rfl h20 d_Model_fits_23 ?_
      refine lv_iload_n hx hb d_Model_fits_26 rfl (lv_at hl 2 rfl) ?_
      obtain ⟨e21, h22, hsh⟩ := im_bd hsh
      refine im_iald hx hb hK hH h22 d_Model_fits_27 ?_
      refine lv_icmp_eq (tgt := 33) hx hb d_Model_fits_28 (by decide) (fun cc => ?_) (fun cc => ?_)
      · have hsh := im_it hsh cc
        refine lv_aload_n hx hb d_Model_fits_33 rfl (lv_at hl 0 rfl) ?_
        refine lv_iload_n hx hb d_Model_fits_34 rfl (lv_at hl 1 rfl) ?_
        refine lv_iconst (v := 0) hx hb d_Model_fits_35 (by decide) ?_
        obtain ⟨u23, h24, hsh⟩ := im_bd hsh
        obtain ⟨g25, h26⟩ := im_is_s h24
        obtain ⟨v29, w27, h28, hsh⟩ := im_bd2 hsh
        refine im_afterI (va_runV (As := [.int x1, .int (0 : Int32)]) (rest := []) (C := RC_Model) ⟨hx, hb, hml, hown, hts⟩ (met_Model_subtagEnd h28) ⟨(callB_of 2 hts (im_good wd_955) rfl rfl rfl (hts _ wd_10) (hts _ wd_952) (by decide +kernel) ⟨Nat.le_of_ble_eq_true rfl, Nat.le_of_ble_eq_true rfl⟩), hts _ wd_954, hts _ sl_Model_subtagEnd⟩ (im_preV im_NW_ok hK hN hH (ci := 9) rfl rfl h26 _) rfl rfl hl.1 rfl (lv_room (Nat.le_of_ble_eq_true rfl)) d_Model_fits_36 ⟨Nat.le_of_ble_eq_true rfl, Nat.le_of_ble_eq_true rfl⟩) hH (fun H locs hH => ?_)
        refine lv_iconst (v := 1) hx hb d_Model_fits_39 (by decide) ?_
        refine lv_iadd hx hb d_Model_fits_40 ?_
        refine lv_istore_n (lv' := [(3, .int (v29 + (1 : Int32))), (0, .ref (lo + x0)), (1, .int x1), (2, .int x2)]) hx hb d_Model_fits_41 rfl hl (by decide) rfl (fun ls hl => ?_)
        refine lv_aload_n hx hb d_Model_fits_42 rfl (lv_at hl 1 rfl) ?_
        refine lv_iload_n hx hb d_Model_fits_43 rfl (lv_at hl 3 rfl) ?_
        refine lv_iconst (v := 0) hx hb d_Model_fits_44 (by decide) ?_
        obtain ⟨u30, h31, hsh⟩ := im_bd hsh
        obtain ⟨g32, h33⟩ := im_is_s h31
        obtain ⟨v36, w34, h35, hsh⟩ := im_bd2 hsh
        refine im_afterI (va_runV (As := [.int x2, .int (0 : Int32)]) (rest := []) (C := RC_Model) ⟨hx, hb, hml, hown, hts⟩ (met_Model_subtagEnd h35) ⟨(callB_of 2 hts (im_good wd_955) rfl rfl rfl (hts _ wd_10) (hts _ wd_952) (by decide +kernel) ⟨Nat.le_of_ble_eq_true rfl, Nat.le_of_ble_eq_true rfl⟩), hts _ wd_954, hts _ sl_Model_subtagEnd⟩ (im_preV im_NW_ok hK hN hH (ci := 9) rfl rfl h33 _) rfl rfl hl.1 rfl (lv_room (Nat.le_of_ble_eq_true rfl)) d_Model_fits_45 ⟨Nat.le_of_ble_eq_true rfl, Nat.le_of_ble_eq_true rfl⟩) hH (fun H locs hH => ?_)
        refine lv_iconst (v := 1) hx hb d_Model_fits_48 (by decide) ?_
        refine lv_iadd hx hb d_Model_fits_49 ?_
        refine lv_istore (lv' := [(4, .int (v36 + (1 : Int32))), (3, .int (v29 + (1 : Int32))), (0, .ref (lo + x0)), (1, .int x1), (2, .int x2)]) hx hb d_Model_fits_50 hl (by decide) rfl (fun ls hl => ?_)
        exact bk_Model_fits_52 X F x0 x1 x2 (v29 + (1 : Int32)) (v36 + (1 : Int32)) w34 hsh H locs ls hH (lv_sub hl [2, 3, 4, 1, 0] rfl)
      · have hsh := im_if hsh cc
        exact bk_Model_fits_31 X w12 hsh H locs ls hH (lv_sub hl [] rfl)
theorem wd_646 : (Jvm.Cond.fieldLink "LanguageTagsModel" (271 : Nat) "LanguageTagsModel" "cutLength" "I") ∈ im_T := im_memT (i := 646) (by decide +kernel) (by decide +kernel)
theorem wd_647 : (Jvm.Cond.fieldLink "LanguageTagsModel" (29 : Nat) "LanguageTagsModel" "cut" "[C") ∈ im_T := im_memT (i := 647) (by decide +kernel) (by decide +kernel)
theorem d_Model_startCut_0 : decode c_Model_startCut 0 = .ok (.aload_n 0, 1) := by decide +kernel
theorem d_Model_startCut_1 : decode c_Model_startCut 1 = .ok (.aload_n 0, 1) := by decide +kernel
theorem d_Model_startCut_2 : decode c_Model_startCut 2 = .ok (.getfield 66, 3) := by decide +kernel
theorem d_Model_startCut_5 : decode c_Model_startCut 5 = .ok (.iload_n 1, 1) := by decide +kernel
theorem d_Model_startCut_6 : decode c_Model_startCut 6 = .ok (.iaload, 1) := by decide +kernel
theorem d_Model_startCut_7 : decode c_Model_startCut 7 = .ok (.putfield 271, 3) := by decide +kernel
theorem d_Model_startCut_10 : decode c_Model_startCut 10 = .ok (.iconst 0, 1) := by decide +kernel
theorem d_Model_startCut_11 : decode c_Model_startCut 11 = .ok (.istore_n 2, 1) := by decide +kernel
theorem d_Model_startCut_12 : decode c_Model_startCut 12 = .ok (.iload_n 2, 1) := by decide +kernel
theorem d_Model_startCut_13 : decode c_Model_startCut 13 = .ok (.aload_n 0, 1) := by decide +kernel
theorem d_Model_startCut_14 : decode c_Model_startCut 14 = .ok (.getfield 271, 3) := by decide +kernel
theorem d_Model_startCut_17 : decode c_Model_startCut 17 = .ok (.if_icmp .ge (26), 3) := by decide +kernel
theorem d_Model_startCut_20 : decode c_Model_startCut 20 = .ok (.aload_n 0, 1) := by decide +kernel
theorem d_Model_startCut_21 : decode c_Model_startCut 21 = .ok (.getfield 29, 3) := by decide +kernel
theorem d_Model_startCut_24 : decode c_Model_startCut 24 = .ok (.iload_n 2, 1) := by decide +kernel
theorem d_Model_startCut_25 : decode c_Model_startCut 25 = .ok (.aload_n 0, 1) := by decide +kernel
theorem d_Model_startCut_26 : decode c_Model_startCut 26 = .ok (.getfield 63, 3) := by decide +kernel
theorem d_Model_startCut_29 : decode c_Model_startCut 29 = .ok (.bipush (80), 2) := by decide +kernel
theorem d_Model_startCut_31 : decode c_Model_startCut 31 = .ok (.iload_n 1, 1) := by decide +kernel
theorem d_Model_startCut_32 : decode c_Model_startCut 32 = .ok (.imul, 1) := by decide +kernel
theorem d_Model_startCut_33 : decode c_Model_startCut 33 = .ok (.iload_n 2, 1) := by decide +kernel
theorem d_Model_startCut_34 : decode c_Model_startCut 34 = .ok (.iadd, 1) := by decide +kernel
theorem d_Model_startCut_35 : decode c_Model_startCut 35 = .ok (.caload, 1) := by decide +kernel
theorem d_Model_startCut_36 : decode c_Model_startCut 36 = .ok (.castore, 1) := by decide +kernel
theorem d_Model_startCut_37 : decode c_Model_startCut 37 = .ok (.iinc 2 (1), 3) := by decide +kernel
theorem d_Model_startCut_40 : decode c_Model_startCut 40 = .ok (.goto (-28), 3) := by decide +kernel
theorem d_Model_startCut_43 : decode c_Model_startCut 43 = .ok (.return_, 1) := by decide +kernel
def sh_Model_startCut_12 (F : Nat) : Nat → Nat → Int32 → Int32 → im_W → Option (im_W)
  | 0, _, _, _, _ => none
  | f + 1, x0, x1, x2, w => (im_gI w 9 x0 15).bind fun f1 => (if f1 ≤ x2 then some w else (im_gR w 9 x0 16).bind fun f3 => (im_gR w 9 x0 32).bind fun f5 => (im_lI w 2 f5 (((80 : Int32) * x1) + x2)).bind fun e7 => (im_sI w 2 f3 x2 (vp_nar .char e7)).bind fun w9 => (sh_Model_startCut_12 F f) x0 x1 (x2 + (1 : Int32)) w9)
set_option maxHeartbeats 4000000 in
set_option maxRecDepth 100000 in
theorem bk_Model_startCut_12 {F : Nat} {r : im_W} (X : im_X D vwCl tA lo im_NW c_Model_startCut 3 none RC_Model im_T p s m args meth c) : ∀ (f : Nat) (x0 : Nat) (x1 : Int32) (x2 : Int32) (w : im_W), sh_Model_startCut_12 F f x0 x1 x2 w = some r → im_WW D vwCl tA lo 3 p l e (im_rm 0 0) s m args below meth c 0 0 (MQ below (im_Post D vwCl tA lo none r) args s 0 0 (fun q => lo ≤ q)) 12 [(0, .ref (lo + x0)), (1, .int x1), (2, .int x2)] [] w := by
  obtain ⟨hx, hb, hr, hts, hown, hlk, hml, hK, hN⟩ := id X
  intro f
  induction f with
  | zero =>
    intro x0 x1 x2 w hsh
    cases hsh
  | succ f ih =>
    intro x0 x1 x2 w hsh H locs ls hH hl
    unfold sh_Model_startCut_12 at hsh
    refine lv_iload_n hx hb d_Model_startCut_12 rfl (lv_at hl 2 rfl) ?_
    refine lv_aload_n hx hb d_Model_startCut_13 rfl (lv_at hl 0 rfl) ?_
    obtain ⟨f1, h2, hsh⟩ := im_bd hsh
    refine im_getI hx hb hts inC_Model hown hK hH (ci := 9) rfl 15 (by decide) (hts _ wd_646) rfl h2 d_Model_startCut_14 ?_
    refine lv_icmp_ge (tgt := 43) hx hb d_Model_startCut_17 (by decide) (fun cc => ?_) (fun cc => ?_)
    · have hsh := im_it hsh cc
      obtain rfl := Option.some.inj hsh
      exact im_vret hx hb hr hlk hH d_Model_startCut_43
    · have hsh := im_if hsh cc
      refine lv_aload_n hx hb d_Model_startCut_20 rfl (lv_at hl 0 rfl) ?_
      obtain ⟨f3, h4, hsh⟩ := im_bd hsh
      refine im_getR hx hb hts inC_Model hown hK hH (ci := 9) rfl 16 (by decide) (hts _ wd_647) rfl h4 d_Model_startCut_21 ?_
      refine lv_iload_n hx hb d_Model_startCut_24 rfl (lv_at hl 2 rfl) ?_
      refine lv_aload_n hx hb d_Model_startCut_25 rfl (lv_at hl 0 rfl) ?_
      obtain ⟨f5, h6, hsh⟩ := im_bd hsh
      refine im_getR hx hb hts inC_Model hown hK hH (ci := 9) rfl 32 (by decide) (hts _ wd_663) rfl h6 d_Model_startCut_26 ?_
      refine lv_bipush (v := 80) hx hb d_Model_startCut_29 (by decide) ?_
      refine lv_iload_n hx hb d_Model_startCut_31 rfl (lv_at hl 1 rfl) ?_
      refine lv_imul hx hb d_Model_startCut_32 ?_
      refine lv_iload_n hx hb d_Model_startCut_33 rfl (lv_at hl 2 rfl) ?_
      refine lv_iadd hx hb d_Model_startCut_34 ?_
      obtain ⟨e7, h8, hsh⟩ := im_bd hsh
      refine im_cald hx hb hK hH h8 d_Model_startCut_35 ?_
      obtain ⟨w9, h10, hsh⟩ := im_bd hsh
      refine im_cast hx hb hK hH h10 d_Model_startCut_36 (fun H locs hH => ?_)
      refine lv_iinc (v := (x2 + (1 : Int32))) (lv' := [(2, .int (x2 + (1 : Int32))), (0, .ref (lo + x0)), (1, .int x1)]) hx hb d_Model_startCut_37 hl (k := 2) rfl rfl (by decide) rfl (fun ls hl => ?_)
      refine lv_goto (tgt := 12) hx hb d_Model_startCut_40 (by decide) ?_
      exact ih x0 x1 (x2 + (1 : Int32)) w9 hsh H locs ls hH (lv_sub hl [1, 2, 0] rfl)
def sh_Model_startCut (F : Nat) (x0 : Nat) (x1 : Int32) (w : im_W) : Option (im_W) :=
  (im_gR w 9 x0 33).bind fun f1 => (im_lI w 0 f1 x1).bind fun e3 => (im_pV w 9 x0 15 (.int e3)).bind fun w5 => sh_Model_startCut_12 F F x0 x1 (0 : Int32) w5
set_option maxHeartbeats 4000000 in
set_option maxRecDepth 100000 in
theorem met_Model_startCut {F : Nat} {x0 : Nat} {x1 : Int32} {w : im_W} {r : im_W} (hsh : sh_Model_startCut F x0 x1 w = some r) : Met l y_Model_startCut (Cond.code y_Model_startCut c_Model_startCut 3 none :: im_T) (im_rm 0 0) (im_Pre D vwCl tA lo im_NW [.ref (lo + x0), .int x1] w) (im_Post D vwCl tA lo none r) 0 0 (fun q => lo ≤ q) := by
  refine im_ofW (cc := c_Model_startCut) (nL := 3) (ret := none) (by decide) (Nat.le_of_ble_eq_true rfl) ?_
  intro p e s m args below meth c X H locs ls hH hl
  obtain ⟨hx, hb, hr, hts, hown, hlk, hml, hK, hN⟩ := id X
  have hl : lv_has ls 3 [(0, .ref (lo + x0)), (1, .int x1)] := hl
  unfold sh_Model_startCut at hsh
  refine lv_aload_n hx hb d_Model_startCut_0 rfl (lv_at hl 0 rfl) ?_
  refine lv_aload_n hx hb d_Model_startCut_1 rfl (lv_at hl 0 rfl) ?_
  obtain ⟨f1, h2, hsh⟩ := im_bd hsh
  refine im_getR hx hb hts inC_Model hown hK hH (ci := 9) rfl 33 (by decide) (hts _ wd_664) rfl h2 d_Model_startCut_2 ?_
  refine lv_iload_n hx hb d_Model_startCut_5 rfl (lv_at hl 1 rfl) ?_
  obtain ⟨e3, h4, hsh⟩ := im_bd hsh
  refine im_iald hx hb hK hH h4 d_Model_startCut_6 ?_
  obtain ⟨w5, h6, hsh⟩ := im_bd hsh
  refine im_put (v := .int e3) hx hb hts inC_Model tyC_Model tyC_Model_ok nmC_Model hown hK hH (ci := 9) rfl 15 (by decide) (hts _ wd_646) rfl rfl rfl rfl h6 d_Model_startCut_7 (fun H locs hH => ?_)
  refine lv_iconst (v := 0) hx hb d_Model_startCut_10 (by decide) ?_
  refine lv_istore_n (lv' := [(2, .int (0 : Int32)), (0, .ref (lo + x0)), (1, .int x1)]) hx hb d_Model_startCut_11 rfl hl (by decide) rfl (fun ls hl => ?_)
  exact bk_Model_startCut_12 X F x0 x1 (0 : Int32) w5 hsh H locs ls hH (lv_sub hl [1, 2, 0] rfl)
theorem d_Model_dropLast_0 : decode c_Model_dropLast 0 = .ok (.aload_n 0, 1) := by decide +kernel
theorem d_Model_dropLast_1 : decode c_Model_dropLast 1 = .ok (.getfield 271, 3) := by decide +kernel
theorem d_Model_dropLast_4 : decode c_Model_dropLast 4 = .ok (.ifCond .le (32), 3) := by decide +kernel
theorem d_Model_dropLast_7 : decode c_Model_dropLast 7 = .ok (.aload_n 0, 1) := by decide +kernel
theorem d_Model_dropLast_8 : decode c_Model_dropLast 8 = .ok (.getfield 29, 3) := by decide +kernel
theorem d_Model_dropLast_11 : decode c_Model_dropLast 11 = .ok (.aload_n 0, 1) := by decide +kernel
theorem d_Model_dropLast_12 : decode c_Model_dropLast 12 = .ok (.getfield 271, 3) := by decide +kernel
theorem d_Model_dropLast_15 : decode c_Model_dropLast 15 = .ok (.iconst 1, 1) := by decide +kernel
theorem d_Model_dropLast_16 : decode c_Model_dropLast 16 = .ok (.isub, 1) := by decide +kernel
theorem d_Model_dropLast_17 : decode c_Model_dropLast 17 = .ok (.caload, 1) := by decide +kernel
theorem d_Model_dropLast_18 : decode c_Model_dropLast 18 = .ok (.bipush (45), 2) := by decide +kernel
theorem d_Model_dropLast_20 : decode c_Model_dropLast 20 = .ok (.if_icmp .eq (16), 3) := by decide +kernel
theorem d_Model_dropLast_23 : decode c_Model_dropLast 23 = .ok (.aload_n 0, 1) := by decide +kernel
theorem d_Model_dropLast_24 : decode c_Model_dropLast 24 = .ok (.dup, 1) := by decide +kernel
theorem d_Model_dropLast_25 : decode c_Model_dropLast 25 = .ok (.getfield 271, 3) := by decide +kernel
theorem d_Model_dropLast_28 : decode c_Model_dropLast 28 = .ok (.iconst 1, 1) := by decide +kernel
theorem d_Model_dropLast_29 : decode c_Model_dropLast 29 = .ok (.isub, 1) := by decide +kernel
theorem d_Model_dropLast_30 : decode c_Model_dropLast 30 = .ok (.putfield 271, 3) := by decide +kernel
theorem d_Model_dropLast_33 : decode c_Model_dropLast 33 = .ok (.goto (-33), 3) := by decide +kernel
theorem d_Model_dropLast_36 : decode c_Model_dropLast 36 = .ok (.aload_n 0, 1) := by decide +kernel
theorem d_Model_dropLast_37 : decode c_Model_dropLast 37 = .ok (.aload_n 0, 1) := by decide +kernel
theorem d_Model_dropLast_38 : decode c_Model_dropLast 38 = .ok (.getfield 271, 3) := by decide +kernel
theorem d_Model_dropLast_41 : decode c_Model_dropLast 41 = .ok (.ifCond .le (12), 3) := by decide +kernel
theorem d_Model_dropLast_44 : decode c_Model_dropLast 44 = .ok (.aload_n 0, 1) := by decide +kernel
theorem d_Model_dropLast_45 : decode c_Model_dropLast 45 = .ok (.getfield 271, 3) := by decide +kernel
theorem d_Model_dropLast_48 : decode c_Model_dropLast 48 = .ok (.iconst 1, 1) := by decide +kernel
theorem d_Model_dropLast_49 : decode c_Model_dropLast 49 = .ok (.isub, 1) := by decide +kernel
theorem d_Model_dropLast_50 : decode c_Model_dropLast 50 = .ok (.goto (4), 3) := by decide +kernel
theorem d_Model_dropLast_53 : decode c_Model_dropLast 53 = .ok (.iconst 0, 1) := by decide +kernel
theorem d_Model_dropLast_54 : decode c_Model_dropLast 54 = .ok (.putfield 271, 3) := by decide +kernel
theorem d_Model_dropLast_57 : decode c_Model_dropLast 57 = .ok (.return_, 1) := by decide +kernel
def sh_Model_dropLast_54 (F : Nat) (y0 : Int32) (y1 : Nat) (w : im_W) : Option (im_W) :=
  (im_pV w 9 y1 15 (.int y0)).bind fun w1 => some w1
set_option maxHeartbeats 4000000 in
set_option maxRecDepth 100000 in
theorem bk_Model_dropLast_54 {F : Nat} {r : im_W} (X : im_X D vwCl tA lo im_NW c_Model_dropLast 1 none RC_Model im_T p s m args meth c) (y0 : Int32) (y1 : Nat) (w : im_W) (hsh : sh_Model_dropLast_54 F y0 y1 w = some r) : im_WW D vwCl tA lo 1 p l e (im_rm 0 0) s m args below meth c 0 0 (MQ below (im_Post D vwCl tA lo none r) args s 0 0 (fun q => lo ≤ q)) 54 [] [.int y0, .ref (lo + y1)] w := by
  obtain ⟨hx, hb, hr, hts, hown, hlk, hml, hK, hN⟩ := id X
  intro H locs ls hH hl
  unfold sh_Model_dropLast_54 at hsh
  obtain ⟨w1, h2, hsh⟩ := im_bd hsh
  refine im_put (v := .int y0) hx hb hts inC_Model tyC_Model tyC_Model_ok nmC_Model hown hK hH (ci := 9) rfl 15 (by decide) (hts _ wd_646) rfl rfl rfl rfl h2 d_Model_dropLast_54 (fun H locs hH => ?_)
  obtain rfl := Option.some.inj hsh
  exact im_vret hx hb hr hlk hH d_Model_dropLast_57
def sh_Model_dropLast_36 (F : Nat) (x0 : Nat) (w : im_W) : Option (im_W) :=
  (im_gI w 9 x0 15).bind fun f1 => (if f1 ≤ 0 then sh_Model_dropLast_54 F (0 : Int32) x0 w else (im_gI w 9 x0 15).bind fun f3 => sh_Model_dropLast_54 F (f3 - (1 : Int32)) x0 w)
set_option maxHeartbeats 4000000 in
set_option maxRecDepth 100000 in
theorem bk_Model_dropLast_36 {F : Nat} {r : im_W} (X : im_X D vwCl tA lo im_NW c_Model_dropLast 1 none RC_Model im_T p s m args meth c) (x0 : Nat) (w : im_W) (hsh : sh_Model_dropLast_36 F x0 w = some r) : im_WW D vwCl tA lo 1 p l e (im_rm 0 0) s m args below meth c 0 0 (MQ below (im_Post D vwCl tA lo none r) args s 0 0 (fun q => lo ≤ q)) 36 [(0, .ref (lo + x0))] [] w := by
  obtain ⟨hx, hb, hr, hts, hown, hlk, hml, hK, hN⟩ := id X
  intro H locs ls hH hl
  unfold sh_Model_dropLast_36 at hsh
  refine lv_aload_n hx hb d_Model_dropLast_36 rfl (lv_at hl 0 rfl) ?_
  refine lv_aload_n hx hb d_Model_dropLast_37 rfl (lv_at hl 0 rfl) ?_
  obtain ⟨f1, h2, hsh⟩ := im_bd hsh
  refine im_getI hx hb hts inC_Model hown hK hH (ci := 9) rfl 15 (by decide) (hts _ wd_646) rfl h2 d_Model_dropLast_38 ?_
  refine lv_if_le (tgt := 53) hx hb d_Model_dropLast_41 (by decide) (fun cc => ?_) (fun cc => ?_)
  · have hsh := im_it hsh cc
    refine lv_iconst (v := 0) hx hb d_Model_dropLast_53 (by decide) ?_
    exact bk_Model_dropLast_54 X (0 : Int32) x0 w hsh H locs ls hH (lv_sub hl [] rfl)
  · have hsh := im_if hsh cc
    refine lv_aload_n hx hb d_Model_dropLast_44 rfl (lv_at hl 0 rfl) ?_
    obtain ⟨f3, h4, hsh⟩ := im_bd hsh
    refine im_getI hx hb hts inC_Model hown hK hH (ci := 9) rfl 15 (by decide) (hts _ wd_646) rfl h4 d_Model_dropLast_45 ?_
    refine lv_iconst (v := 1) hx hb d_Model_dropLast_48 (by decide) ?_
    refine lv_isub hx hb d_Model_dropLast_49 ?_
    refine lv_goto (tgt := 54) hx hb d_Model_dropLast_50 (by decide) ?_
    exact bk_Model_dropLast_54 X (f3 - (1 : Int32)) x0 w hsh H locs ls hH (lv_sub hl [] rfl)
def sh_Model_dropLast_0 (F : Nat) : Nat → Nat → im_W → Option (im_W)
  | 0, _, _ => none
  | f + 1, x0, w => (im_gI w 9 x0 15).bind fun f1 => (if f1 ≤ 0 then sh_Model_dropLast_36 F x0 w else (im_gR w 9 x0 16).bind fun f3 => (im_gI w 9 x0 15).bind fun f5 => (im_lI w 2 f3 (f5 - (1 : Int32))).bind fun e7 => (if e7 = (45 : Int32) then sh_Model_dropLast_36 F x0 w else (im_gI w 9 x0 15).bind fun f9 => (im_pV w 9 x0 15 (.int (f9 - (1 : Int32)))).bind fun w11 => (sh_Model_dropLast_0 F f) x0 w11))
set_option maxHeartbeats 4000000 in
set_option maxRecDepth 100000 in
theorem bk_Model_dropLast_0 {F : Nat} {r : im_W} (X : im_X D vwCl tA lo im_NW c_Model_dropLast 1 none RC_Model im_T p s m args meth c) : ∀ (f : Nat) (x0 : Nat) (w : im_W), sh_Model_dropLast_0 F f x0 w = some r → im_WW D vwCl tA lo 1 p l e (im_rm 0 0) s m args below meth c 0 0 (MQ below (im_Post D vwCl tA lo none r) args s 0 0 (fun q => lo ≤ q)) 0 [(0, .ref (lo + x0))] [] w := by
  obtain ⟨hx, hb, hr, hts, hown, hlk, hml, hK, hN⟩ := id X
  intro f
  induction f with
  | zero =>
    intro x0 w hsh
    cases hsh
  | succ f ih =>
    intro x0 w hsh H locs ls hH hl
    unfold sh_Model_dropLast_0 at hsh
    refine lv_aload_n hx hb d_Model_dropLast_0 rfl (lv_at hl 0 rfl) ?_
    obtain ⟨f1, h2, hsh⟩ := im_bd hsh
    refine im_getI hx hb hts inC_Model hown hK hH (ci := 9) rfl 15 (by decide) (hts _ wd_646) rfl h2 d_Model_dropLast_1 ?_
    refine lv_if_le (tgt := 36) hx hb d_Model_dropLast_4 (by decide) (fun cc => ?_) (fun cc => ?_)
    · have hsh := im_it hsh cc
      exact bk_Model_dropLast_36 X x0 w hsh H locs ls hH (lv_sub hl [0] rfl)
    · have hsh := im_if hsh cc
      refine lv_aload_n hx hb d_Model_dropLast_7 rfl (lv_at hl 0 rfl) ?_
      obtain ⟨f3, h4, hsh⟩ := im_bd hsh
      refine im_getR hx hb hts inC_Model hown hK hH (ci := 9) rfl 16 (by decide) (hts _ wd_647) rfl h4 d_Model_dropLast_8 ?_
      refine lv_aload_n hx hb d_Model_dropLast_11 rfl (lv_at hl 0 rfl) ?_
      obtain ⟨f5, h6, hsh⟩ := im_bd hsh
      refine im_getI hx hb hts inC_Model hown hK hH (ci := 9) rfl 15 (by decide) (hts _ wd_646) rfl h6 d_Model_dropLast_12 ?_
      refine lv_iconst (v := 1) hx hb d_Model_dropLast_15 (by decide) ?_
      refine lv_isub hx hb d_Model_dropLast_16 ?_
      obtain ⟨e7, h8, hsh⟩ := im_bd hsh
      refine im_cald hx hb hK hH h8 d_Model_dropLast_17 ?_
      refine lv_bipush (v := 45) hx hb d_Model_dropLast_18 (by decide) ?_
      refine lv_icmp_eq (tgt := 36) hx hb d_Model_dropLast_20 (by decide) (fun cc => ?_) (fun cc => ?_)
      · have hsh := im_it hsh cc
        exact bk_Model_dropLast_36 X x0 w hsh H locs ls hH (lv_sub hl [0] rfl)
      · have hsh := im_if hsh cc
        refine lv_aload_n hx hb d_Model_dropLast_23 rfl (lv_at hl 0 rfl) ?_
        refine lv_dup hx hb d_Model_dropLast_24 rfl ?_
        obtain ⟨f9, h10, hsh⟩ := im_bd hsh
        refine im_getI hx hb hts inC_Model hown hK hH (ci := 9) rfl 15 (by decide) (hts _ wd_646) rfl h10 d_Model_dropLast_25 ?_
        refine lv_iconst (v := 1) hx hb d_Model_dropLast_28 (by decide) ?_
        refine lv_isub hx hb d_Model_dropLast_29 ?_
        obtain ⟨w11, h12, hsh⟩ := im_bd hsh
        refine im_put (v := .int (f9 - (1 : Int32))) hx hb hts inC_Model tyC_Model tyC_Model_ok nmC_Model hown hK hH (ci := 9) rfl 15 (by decide) (hts _ wd_646) rfl rfl rfl rfl h12 d_Model_dropLast_30 (fun H locs hH => ?_)
        refine lv_goto (tgt := 0) hx hb d_Model_dropLast_33 (by decide) ?_
        exact ih x0 w11 hsh H locs ls hH (lv_sub hl [0] rfl)
def sh_Model_dropLast (F : Nat) (x0 : Nat) (w : im_W) : Option (im_W) :=
  sh_Model_dropLast_0 F F x0 w
set_option maxHeartbeats 4000000 in
set_option maxRecDepth 100000 in
theorem met_Model_dropLast {F : Nat} {x0 : Nat} {w : im_W} {r : im_W} (hsh : sh_Model_dropLast F x0 w = some r) : Met l y_Model_dropLast (Cond.code y_Model_dropLast c_Model_dropLast 1 none :: im_T) (im_rm 0 0) (im_Pre D vwCl tA lo im_NW [.ref (lo + x0)] w) (im_Post D vwCl tA lo none r) 0 0 (fun q => lo ≤ q) := by
  refine im_ofW (cc := c_Model_dropLast) (nL := 1) (ret := none) (by decide) (Nat.le_of_ble_eq_true rfl) ?_
  intro p e s m args below meth c X H locs ls hH hl
  obtain ⟨hx, hb, hr, hts, hown, hlk, hml, hK, hN⟩ := id X
  have hl : lv_has ls 1 [(0, .ref (lo + x0))] := hl
  unfold sh_Model_dropLast at hsh
  exact bk_Model_dropLast_0 X F x0 w hsh H locs ls hH (lv_sub hl [0] rfl)
theorem wd_972 : (Jvm.Cond.methodLink "LanguageTagsModel" (274 : Nat) ({ cls := "LanguageTagsModel", name := "dropLast", desc := "()V" } : Jvm.MethodName)) ∈ im_T := im_memT (i := 972) (by decide +kernel) (by decide +kernel)
theorem wd_974 : (Jvm.Cond.instanceMethod ({ cls := "LanguageTagsModel", name := "dropLast", desc := "()V" } : Jvm.MethodName)) ∈ im_T := im_memT (i := 974) (by decide +kernel) (by decide +kernel)
theorem wd_975 : (Jvm.Cond.code ({ cls := "LanguageTagsModel", name := "dropLast", desc := "()V" } : Jvm.MethodName) prog_12_method_51_code (1 : Nat) (Option.none : Option Jvm.ClassFile.FieldType)) ∈ im_T := im_memT (i := 975) (by decide +kernel) (by decide +kernel)
theorem d_Model_truncate_0 : decode c_Model_truncate 0 = .ok (.aload_n 0, 1) := by decide +kernel
theorem d_Model_truncate_1 : decode c_Model_truncate 1 = .ok (.invokevirtual 274, 3) := by decide +kernel
theorem d_Model_truncate_4 : decode c_Model_truncate 4 = .ok (.aload_n 0, 1) := by decide +kernel
theorem d_Model_truncate_5 : decode c_Model_truncate 5 = .ok (.getfield 271, 3) := by decide +kernel
theorem d_Model_truncate_8 : decode c_Model_truncate 8 = .ok (.iconst 1, 1) := by decide +kernel
theorem d_Model_truncate_9 : decode c_Model_truncate 9 = .ok (.if_icmp .le (23), 3) := by decide +kernel
theorem d_Model_truncate_12 : decode c_Model_truncate 12 = .ok (.aload_n 0, 1) := by decide +kernel
theorem d_Model_truncate_13 : decode c_Model_truncate 13 = .ok (.getfield 29, 3) := by decide +kernel
theorem d_Model_truncate_16 : decode c_Model_truncate 16 = .ok (.aload_n 0, 1) := by decide +kernel
theorem d_Model_truncate_17 : decode c_Model_truncate 17 = .ok (.getfield 271, 3) := by decide +kernel
theorem d_Model_truncate_20 : decode c_Model_truncate 20 = .ok (.iconst 2, 1) := by decide +kernel
theorem d_Model_truncate_21 : decode c_Model_truncate 21 = .ok (.isub, 1) := by decide +kernel
theorem d_Model_truncate_22 : decode c_Model_truncate 22 = .ok (.caload, 1) := by decide +kernel
theorem d_Model_truncate_23 : decode c_Model_truncate 23 = .ok (.bipush (45), 2) := by decide +kernel
theorem d_Model_truncate_25 : decode c_Model_truncate 25 = .ok (.if_icmp .ne (7), 3) := by decide +kernel
theorem d_Model_truncate_28 : decode c_Model_truncate 28 = .ok (.aload_n 0, 1) := by decide +kernel
theorem d_Model_truncate_29 : decode c_Model_truncate 29 = .ok (.invokevirtual 274, 3) := by decide +kernel
theorem d_Model_truncate_32 : decode c_Model_truncate 32 = .ok (.return_, 1) := by decide +kernel
def sh_Model_truncate_32 (F : Nat)  (w : im_W) : Option (im_W) :=
  some w
set_option maxHeartbeats 4000000 in
set_option maxRecDepth 100000 in
theorem bk_Model_truncate_32 {F : Nat} {r : im_W} (X : im_X D vwCl tA lo im_NW c_Model_truncate 1 none RC_Model im_T p s m args meth c)  (w : im_W) (hsh : sh_Model_truncate_32 F w = some r) : im_WW D vwCl tA lo 1 p l e (im_rm 1 20) s m args below meth c 0 0 (MQ below (im_Post D vwCl tA lo none r) args s 0 0 (fun q => lo ≤ q)) 32 [] [] w := by
  obtain ⟨hx, hb, hr, hts, hown, hlk, hml, hK, hN⟩ := id X
  intro H locs ls hH hl
  unfold sh_Model_truncate_32 at hsh
  obtain rfl := Option.some.inj hsh
  exact im_vret hx hb hr hlk hH d_Model_truncate_32
def sh_Model_truncate (F : Nat) (x0 : Nat) (w : im_W) : Option (im_W) :=
  (im_is w 9 x0).bind fun u1 => (sh_Model_dropLast F x0 w).bind fun w5 => (im_gI w5 9 x0 15).bind fun f7 => (if f7 ≤ (1 : Int32) then sh_Model_truncate_32 F w5 else (im_gR w5 9 x0 16).bind fun f9 => (im_gI w5 9 x0 15).bind fun f11 => (im_lI w5 2 f9 (f11 - (2 : Int32))).bind fun e13 => (if e13 = (45 : Int32) then (im_is w5 9 x0).bind fun u15 => (sh_Model_dropLast F x0 w5).bind fun w19 => sh_Model_truncate_32 F w19 else sh_Model_truncate_32 F w5))
set_option maxHeartbeats 4000000 in
set_option maxRecDepth 100000 in
theorem met_Model_truncate {F : Nat} {x0 : Nat} {w : im_W} {r : im_W} (hsh : sh_Model_truncate F x0 w = some r) : Met l y_Model_truncate (Cond.code y_Model_truncate c_Model_truncate 1 none :: im_T) (im_rm 1 20) (im_Pre D vwCl tA lo im_NW [.ref (lo + x0)] w) (im_Post D vwCl tA lo none r) 0 0 (fun q => lo ≤ q) := by
  refine im_ofW (cc := c_Model_truncate) (nL := 1) (ret := none) (by decide) (Nat.le_of_ble_eq_true rfl) ?_
  intro p e s m args below meth c X H locs ls hH hl
  obtain ⟨hx, hb, hr, hts, hown, hlk, hml, hK, hN⟩ := id X
  have hl : lv_has ls 1 [(0, .ref (lo + x0))] := hl
  unfold sh_Model_truncate at hsh
  refine lv_aload_n hx hb d_Model_truncate_0 rfl (lv_at hl 0 rfl) ?_
  obtain ⟨u1, h2, hsh⟩ := im_bd hsh
  obtain ⟨g3, h4⟩ := im_is_s h2
  obtain ⟨w5, h6, hsh⟩ := im_bd hsh
  refine im_afterV (va_runV (As := []) (rest := []) (C := RC_Model) ⟨hx, hb, hml, hown, hts⟩ (met_Model_dropLast h6) ⟨(callB_of 0 hts (im_good wd_975) rfl rfl rfl (hts _ wd_10) (hts _ wd_972) (by decide +kernel) ⟨Nat.le_of_ble_eq_true rfl, Nat.le_of_ble_eq_true rfl⟩), hts _ wd_974, hts _ sl_Model_dropLast⟩ (im_preV im_NW_ok hK hN hH (ci := 9) rfl rfl h4 _) rfl rfl hl.1 rfl (lv_room (Nat.le_of_ble_eq_true rfl)) d_Model_truncate_1 ⟨Nat.le_of_ble_eq_true rfl, Nat.le_of_ble_eq_true rfl⟩) hH (fun H locs hH => ?_)
  refine lv_aload_n hx hb d_Model_truncate_4 rfl (lv_at hl 0 rfl) ?_
  obtain ⟨f7, h8, hsh⟩ := im_bd hsh
  refine im_getI hx hb hts inC_Model hown hK hH (ci := 9) rfl 15 (by decide) (hts _ wd_646) rfl h8 d_Model_truncate_5 ?_
  refine lv_iconst (v := 1) hx hb d_Model_truncate_8 (by decide) ?_
  refine lv_icmp_le (tgt := 32) hx hb d_Model_truncate_9 (by decide) (fun cc => ?_) (fun cc => ?_)
  · have hsh := im_it hsh cc
    exact bk_Model_truncate_32 X w5 hsh H locs ls hH (lv_sub hl [] rfl)
  · have hsh := im_if hsh cc
    refine lv_aload_n hx hb d_Model_truncate_12 rfl (lv_at hl 0 rfl) ?_
    obtain ⟨f9, h10, hsh⟩ := im_bd hsh
    refine im_getR hx hb hts inC_Model hown hK hH (ci := 9) rfl 16 (by decide) (hts _ wd_647) rfl h10 d_Model_truncate_13 ?_
    refine lv_aload_n hx hb d_Model_truncate_16 rfl (lv_at hl 0 rfl) ?_
    obtain ⟨f11, h12, hsh⟩ := im_bd hsh
    refine im_getI hx hb hts inC_Model hown hK hH (ci := 9) rfl 15 (by decide) (hts _ wd_646) rfl h12 d_Model_truncate_17 ?_
    refine lv_iconst (v := 2) hx hb d_Model_truncate_20 (by decide) ?_
    refine lv_isub hx hb d_Model_truncate_21 ?_
    obtain ⟨e13, h14, hsh⟩ := im_bd hsh
    refine im_cald hx hb hK hH h14 d_Model_truncate_22 ?_
    refine lv_bipush (v := 45) hx hb d_Model_truncate_23 (by decide) ?_
    refine lv_icmp_ne (tgt := 32) hx hb d_Model_truncate_25 (by decide) (fun cc => ?_) (fun cc => ?_)
    · have hsh := im_if hsh cc
      exact bk_Model_truncate_32 X w5 hsh H locs ls hH (lv_sub hl [] rfl)
    · have hsh := im_it hsh cc
      refine lv_aload_n hx hb d_Model_truncate_28 rfl (lv_at hl 0 rfl) ?_
      obtain ⟨u15, h16, hsh⟩ := im_bd hsh
      obtain ⟨g17, h18⟩ := im_is_s h16
      obtain ⟨w19, h20, hsh⟩ := im_bd hsh
      refine im_afterV (va_runV (As := []) (rest := []) (C := RC_Model) ⟨hx, hb, hml, hown, hts⟩ (met_Model_dropLast h20) ⟨(callB_of 0 hts (im_good wd_975) rfl rfl rfl (hts _ wd_10) (hts _ wd_972) (by decide +kernel) ⟨Nat.le_of_ble_eq_true rfl, Nat.le_of_ble_eq_true rfl⟩), hts _ wd_974, hts _ sl_Model_dropLast⟩ (im_preV im_NW_ok hK hN hH (ci := 9) rfl rfl h18 _) rfl rfl hl.1 rfl (lv_room (Nat.le_of_ble_eq_true rfl)) d_Model_truncate_29 ⟨Nat.le_of_ble_eq_true rfl, Nat.le_of_ble_eq_true rfl⟩) hH (fun H locs hH => ?_)
      exact bk_Model_truncate_32 X w19 hsh H locs ls hH (lv_sub hl [] rfl)
end GEN
