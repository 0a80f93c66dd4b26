section GEN
variable {l : Launch} {D : va_G} {tA : Nat → ClassId} {lo : Nat} {p : Program} {e : Env} {s : State} {m : MethodId} {args : Array Value} {below : List Frame} {meth : Method} {c : Code}
theorem wd_656 : (Jvm.Cond.fieldLink "LanguageTagsModel" (54 : Nat) "LanguageTagsModel" "toLanguage" "[I") ∈ im_T := im_memT (i := 656) (by decide +kernel) (by decide +kernel)
theorem wd_657 : (Jvm.Cond.fieldLink "LanguageTagsModel" (57 : Nat) "LanguageTagsModel" "toScript" "[I") ∈ im_T := im_memT (i := 657) (by decide +kernel) (by decide +kernel)
theorem wd_658 : (Jvm.Cond.fieldLink "LanguageTagsModel" (60 : Nat) "LanguageTagsModel" "toRegion" "[I") ∈ im_T := im_memT (i := 658) (by decide +kernel) (by decide +kernel)
theorem wd_900 : (Jvm.Cond.methodLink "LanguageTagsModel" (224 : Nat) ({ cls := "LanguageTagsModel", name := "plain", desc := "()Z" } : Jvm.MethodName)) ∈ im_T := im_memT (i := 900) (by decide +kernel) (by decide +kernel)
theorem wd_902 : (Jvm.Cond.instanceMethod ({ cls := "LanguageTagsModel", name := "plain", desc := "()Z" } : Jvm.MethodName)) ∈ im_T := im_memT (i := 902) (by decide +kernel) (by decide +kernel)
theorem wd_903 : (Jvm.Cond.code ({ cls := "LanguageTagsModel", name := "plain", desc := "()Z" } : Jvm.MethodName) prog_12_method_35_code (1 : Nat) (Option.some Jvm.ClassFile.FieldType.boolean)) ∈ im_T := im_memT (i := 903) (by decide +kernel) (by decide +kernel)
theorem wd_904 : (Jvm.Cond.methodLink "LanguageTagsModel" (228 : Nat) ({ cls := "LanguageTagsModel", name := "leads", desc := "(IIII)I" } : Jvm.MethodName)) ∈ im_T := im_memT (i := 904) (by decide +kernel) (by decide +kernel)
theorem wd_906 : (Jvm.Cond.instanceMethod ({ cls := "LanguageTagsModel", name := "leads", desc := "(IIII)I" } : Jvm.MethodName)) ∈ im_T := im_memT (i := 906) (by decide +kernel) (by decide +kernel)
theorem wd_907 : (Jvm.Cond.code ({ cls := "LanguageTagsModel", name := "leads", desc := "(IIII)I" } : Jvm.MethodName) prog_12_method_37_code (6 : Nat) (Option.some Jvm.ClassFile.FieldType.int)) ∈ im_T := im_memT (i := 907) (by decide +kernel) (by decide +kernel)
theorem d_Model_pair_0 : decode c_Model_pair 0 = .ok (.aload_n 0, 1) := by decide +kernel
theorem d_Model_pair_1 : decode c_Model_pair 1 = .ok (.invokevirtual 211, 3) := by decide +kernel
theorem d_Model_pair_4 : decode c_Model_pair 4 = .ok (.istore_n 2, 1) := by decide +kernel
theorem d_Model_pair_5 : decode c_Model_pair 5 = .ok (.iload_n 2, 1) := by decide +kernel
theorem d_Model_pair_6 : decode c_Model_pair 6 = .ok (.ifCond .lt (19), 3) := by decide +kernel
theorem d_Model_pair_9 : decode c_Model_pair 9 = .ok (.aload_n 0, 1) := by decide +kernel
theorem d_Model_pair_10 : decode c_Model_pair 10 = .ok (.iconst 0, 1) := by decide +kernel
theorem d_Model_pair_11 : decode c_Model_pair 11 = .ok (.iload_n 2, 1) := by decide +kernel
theorem d_Model_pair_12 : decode c_Model_pair 12 = .ok (.invokevirtual 215, 3) := by decide +kernel
theorem d_Model_pair_15 : decode c_Model_pair 15 = .ok (.ifCond .ge (10), 3) := by decide +kernel
theorem d_Model_pair_18 : decode c_Model_pair 18 = .ok (.aload_n 0, 1) := by decide +kernel
theorem d_Model_pair_19 : decode c_Model_pair 19 = .ok (.invokevirtual 224, 3) := by decide +kernel
theorem d_Model_pair_22 : decode c_Model_pair 22 = .ok (.ifCond .ne (5), 3) := by decide +kernel
theorem d_Model_pair_25 : decode c_Model_pair 25 = .ok (.iconst (-1), 1) := by decide +kernel
theorem d_Model_pair_26 : decode c_Model_pair 26 = .ok (.ireturn, 1) := by decide +kernel
theorem d_Model_pair_27 : decode c_Model_pair 27 = .ok (.aload_n 0, 1) := by decide +kernel
theorem d_Model_pair_28 : decode c_Model_pair 28 = .ok (.getfield 122, 3) := by decide +kernel
theorem d_Model_pair_31 : decode c_Model_pair 31 = .ok (.istore_n 3, 1) := by decide +kernel
theorem d_Model_pair_32 : decode c_Model_pair 32 = .ok (.aload_n 0, 1) := by decide +kernel
theorem d_Model_pair_33 : decode c_Model_pair 33 = .ok (.getfield 128, 3) := by decide +kernel
theorem d_Model_pair_36 : decode c_Model_pair 36 = .ok (.istore 4, 2) := by decide +kernel
theorem d_Model_pair_38 : decode c_Model_pair 38 = .ok (.aload_n 0, 1) := by decide +kernel
theorem d_Model_pair_39 : decode c_Model_pair 39 = .ok (.getfield 134, 3) := by decide +kernel
theorem d_Model_pair_42 : decode c_Model_pair 42 = .ok (.istore 5, 2) := by decide +kernel
theorem d_Model_pair_44 : decode c_Model_pair 44 = .ok (.aload_n 0, 1) := by decide +kernel
theorem d_Model_pair_45 : decode c_Model_pair 45 = .ok (.iload_n 2, 1) := by decide +kernel
theorem d_Model_pair_46 : decode c_Model_pair 46 = .ok (.iconst 1, 1) := by decide +kernel
theorem d_Model_pair_47 : decode c_Model_pair 47 = .ok (.iadd, 1) := by decide +kernel
theorem d_Model_pair_48 : decode c_Model_pair 48 = .ok (.aload_n 0, 1) := by decide +kernel
theorem d_Model_pair_49 : decode c_Model_pair 49 = .ok (.getfield 101, 3) := by decide +kernel
theorem d_Model_pair_52 : decode c_Model_pair 52 = .ok (.invokevirtual 215, 3) := by decide +kernel
theorem d_Model_pair_55 : decode c_Model_pair 55 = .ok (.ifCond .ge (57), 3) := by decide +kernel
theorem d_Model_pair_58 : decode c_Model_pair 58 = .ok (.aload_n 0, 1) := by decide +kernel
theorem d_Model_pair_59 : decode c_Model_pair 59 = .ok (.invokevirtual 224, 3) := by decide +kernel
theorem d_Model_pair_62 : decode c_Model_pair 62 = .ok (.ifCond .eq (50), 3) := by decide +kernel
theorem d_Model_pair_65 : decode c_Model_pair 65 = .ok (.iload_n 1, 1) := by decide +kernel
theorem d_Model_pair_66 : decode c_Model_pair 66 = .ok (.ifCond .eq (32), 3) := by decide +kernel
theorem d_Model_pair_69 : decode c_Model_pair 69 = .ok (.iload_n 3, 1) := by decide +kernel
theorem d_Model_pair_70 : decode c_Model_pair 70 = .ok (.aload_n 0, 1) := by decide +kernel
theorem d_Model_pair_71 : decode c_Model_pair 71 = .ok (.getfield 122, 3) := by decide +kernel
theorem d_Model_pair_74 : decode c_Model_pair 74 = .ok (.if_icmp .ne (40), 3) := by decide +kernel
theorem d_Model_pair_77 : decode c_Model_pair 77 = .ok (.iload 4, 2) := by decide +kernel
theorem d_Model_pair_79 : decode c_Model_pair 79 = .ok (.aload_n 0, 1) := by decide +kernel
theorem d_Model_pair_80 : decode c_Model_pair 80 = .ok (.getfield 128, 3) := by decide +kernel
theorem d_Model_pair_83 : decode c_Model_pair 83 = .ok (.if_icmp .ne (31), 3) := by decide +kernel
theorem d_Model_pair_86 : decode c_Model_pair 86 = .ok (.iload 5, 2) := by decide +kernel
theorem d_Model_pair_88 : decode c_Model_pair 88 = .ok (.aload_n 0, 1) := by decide +kernel
theorem d_Model_pair_89 : decode c_Model_pair 89 = .ok (.getfield 134, 3) := by decide +kernel
theorem d_Model_pair_92 : decode c_Model_pair 92 = .ok (.if_icmp .ne (22), 3) := by decide +kernel
theorem d_Model_pair_95 : decode c_Model_pair 95 = .ok (.goto (17), 3) := by decide +kernel
theorem d_Model_pair_98 : decode c_Model_pair 98 = .ok (.aload_n 0, 1) := by decide +kernel
theorem d_Model_pair_99 : decode c_Model_pair 99 = .ok (.getfield 128, 3) := by decide +kernel
theorem d_Model_pair_102 : decode c_Model_pair 102 = .ok (.ifCond .eq (10), 3) := by decide +kernel
theorem d_Model_pair_105 : decode c_Model_pair 105 = .ok (.aload_n 0, 1) := by decide +kernel
theorem d_Model_pair_106 : decode c_Model_pair 106 = .ok (.getfield 134, 3) := by decide +kernel
theorem d_Model_pair_109 : decode c_Model_pair 109 = .ok (.ifCond .ne (5), 3) := by decide +kernel
theorem d_Model_pair_112 : decode c_Model_pair 112 = .ok (.iconst (-1), 1) := by decide +kernel
theorem d_Model_pair_113 : decode c_Model_pair 113 = .ok (.ireturn, 1) := by decide +kernel
theorem d_Model_pair_114 : decode c_Model_pair 114 = .ok (.iload_n 1, 1) := by decide +kernel
theorem d_Model_pair_115 : decode c_Model_pair 115 = .ok (.ifCond .eq (7), 3) := by decide +kernel
theorem d_Model_pair_118 : decode c_Model_pair 118 = .ok (.iconst 1, 1) := by decide +kernel
theorem d_Model_pair_119 : decode c_Model_pair 119 = .ok (.goto (4), 3) := by decide +kernel
theorem d_Model_pair_122 : decode c_Model_pair 122 = .ok (.iconst 0, 1) := by decide +kernel
theorem d_Model_pair_123 : decode c_Model_pair 123 = .ok (.istore 6, 2) := by decide +kernel
theorem d_Model_pair_125 : decode c_Model_pair 125 = .ok (.aload_n 0, 1) := by decide +kernel
theorem d_Model_pair_126 : decode c_Model_pair 126 = .ok (.iload 6, 2) := by decide +kernel
theorem d_Model_pair_128 : decode c_Model_pair 128 = .ok (.iload_n 3, 1) := by decide +kernel
theorem d_Model_pair_129 : decode c_Model_pair 129 = .ok (.iload 4, 2) := by decide +kernel
theorem d_Model_pair_131 : decode c_Model_pair 131 = .ok (.iload 5, 2) := by decide +kernel
theorem d_Model_pair_133 : decode c_Model_pair 133 = .ok (.invokevirtual 228, 3) := by decide +kernel
theorem d_Model_pair_136 : decode c_Model_pair 136 = .ok (.ifCond .ge (15), 3) := by decide +kernel
theorem d_Model_pair_139 : decode c_Model_pair 139 = .ok (.aload_n 0, 1) := by decide +kernel
theorem d_Model_pair_140 : decode c_Model_pair 140 = .ok (.getfield 42, 3) := by decide +kernel
theorem d_Model_pair_143 : decode c_Model_pair 143 = .ok (.iload 6, 2) := by decide +kernel
theorem d_Model_pair_145 : decode c_Model_pair 145 = .ok (.iaload, 1) := by decide +kernel
theorem d_Model_pair_146 : decode c_Model_pair 146 = .ok (.bipush (10), 2) := by decide +kernel
theorem d_Model_pair_148 : decode c_Model_pair 148 = .ok (.if_icmp .ne (6), 3) := by decide +kernel
theorem d_Model_pair_151 : decode c_Model_pair 151 = .ok (.bipush (-2), 2) := by decide +kernel
theorem d_Model_pair_153 : decode c_Model_pair 153 = .ok (.ireturn, 1) := by decide +kernel
theorem d_Model_pair_154 : decode c_Model_pair 154 = .ok (.bipush (10), 2) := by decide +kernel
theorem d_Model_pair_156 : decode c_Model_pair 156 = .ok (.iload 6, 2) := by decide +kernel
theorem d_Model_pair_158 : decode c_Model_pair 158 = .ok (.imul, 1) := by decide +kernel
theorem d_Model_pair_159 : decode c_Model_pair 159 = .ok (.aload_n 0, 1) := by decide +kernel
theorem d_Model_pair_160 : decode c_Model_pair 160 = .ok (.getfield 42, 3) := by decide +kernel
theorem d_Model_pair_163 : decode c_Model_pair 163 = .ok (.iload 6, 2) := by decide +kernel
theorem d_Model_pair_165 : decode c_Model_pair 165 = .ok (.iaload, 1) := by decide +kernel
theorem d_Model_pair_166 : decode c_Model_pair 166 = .ok (.iadd, 1) := by decide +kernel
theorem d_Model_pair_167 : decode c_Model_pair 167 = .ok (.istore 7, 2) := by decide +kernel
theorem d_Model_pair_169 : decode c_Model_pair 169 = .ok (.aload_n 0, 1) := by decide +kernel
theorem d_Model_pair_170 : decode c_Model_pair 170 = .ok (.getfield 45, 3) := by decide +kernel
theorem d_Model_pair_173 : decode c_Model_pair 173 = .ok (.iload 7, 2) := by decide +kernel
theorem d_Model_pair_175 : decode c_Model_pair 175 = .ok (.iload_n 3, 1) := by decide +kernel
theorem d_Model_pair_176 : decode c_Model_pair 176 = .ok (.iastore, 1) := by decide +kernel
theorem d_Model_pair_177 : decode c_Model_pair 177 = .ok (.aload_n 0, 1) := by decide +kernel
theorem d_Model_pair_178 : decode c_Model_pair 178 = .ok (.getfield 48, 3) := by decide +kernel
theorem d_Model_pair_181 : decode c_Model_pair 181 = .ok (.iload 7, 2) := by decide +kernel
theorem d_Model_pair_183 : decode c_Model_pair 183 = .ok (.iload 4, 2) := by decide +kernel
theorem d_Model_pair_185 : decode c_Model_pair 185 = .ok (.iastore, 1) := by decide +kernel
theorem d_Model_pair_186 : decode c_Model_pair 186 = .ok (.aload_n 0, 1) := by decide +kernel
theorem d_Model_pair_187 : decode c_Model_pair 187 = .ok (.getfield 51, 3) := by decide +kernel
theorem d_Model_pair_190 : decode c_Model_pair 190 = .ok (.iload 7, 2) := by decide +kernel
theorem d_Model_pair_192 : decode c_Model_pair 192 = .ok (.iload 5, 2) := by decide +kernel
theorem d_Model_pair_194 : decode c_Model_pair 194 = .ok (.iastore, 1) := by decide +kernel
theorem d_Model_pair_195 : decode c_Model_pair 195 = .ok (.aload_n 0, 1) := by decide +kernel
theorem d_Model_pair_196 : decode c_Model_pair 196 = .ok (.getfield 54, 3) := by decide +kernel
theorem d_Model_pair_199 : decode c_Model_pair 199 = .ok (.iload 7, 2) := by decide +kernel
theorem d_Model_pair_201 : decode c_Model_pair 201 = .ok (.aload_n 0, 1) := by decide +kernel
theorem d_Model_pair_202 : decode c_Model_pair 202 = .ok (.getfield 122, 3) := by decide +kernel
theorem d_Model_pair_205 : decode c_Model_pair 205 = .ok (.iastore, 1) := by decide +kernel
theorem d_Model_pair_206 : decode c_Model_pair 206 = .ok (.aload_n 0, 1) := by decide +kernel
theorem d_Model_pair_207 : decode c_Model_pair 207 = .ok (.getfield 57, 3) := by decide +kernel
theorem d_Model_pair_210 : decode c_Model_pair 210 = .ok (.iload 7, 2) := by decide +kernel
theorem d_Model_pair_212 : decode c_Model_pair 212 = .ok (.aload_n 0, 1) := by decide +kernel
theorem d_Model_pair_213 : decode c_Model_pair 213 = .ok (.getfield 128, 3) := by decide +kernel
theorem d_Model_pair_216 : decode c_Model_pair 216 = .ok (.iastore, 1) := by decide +kernel
theorem d_Model_pair_217 : decode c_Model_pair 217 = .ok (.aload_n 0, 1) := by decide +kernel
theorem d_Model_pair_218 : decode c_Model_pair 218 = .ok (.getfield 60, 3) := by decide +kernel
theorem d_Model_pair_221 : decode c_Model_pair 221 = .ok (.iload 7, 2) := by decide +kernel
theorem d_Model_pair_223 : decode c_Model_pair 223 = .ok (.aload_n 0, 1) := by decide +kernel
theorem d_Model_pair_224 : decode c_Model_pair 224 = .ok (.getfield 134, 3) := by decide +kernel
theorem d_Model_pair_227 : decode c_Model_pair 227 = .ok (.iastore, 1) := by decide +kernel
theorem d_Model_pair_228 : decode c_Model_pair 228 = .ok (.aload_n 0, 1) := by decide +kernel
theorem d_Model_pair_229 : decode c_Model_pair 229 = .ok (.getfield 42, 3) := by decide +kernel
theorem d_Model_pair_232 : decode c_Model_pair 232 = .ok (.iload 6, 2) := by decide +kernel
theorem d_Model_pair_234 : decode c_Model_pair 234 = .ok (.dup2, 1) := by decide +kernel
theorem d_Model_pair_235 : decode c_Model_pair 235 = .ok (.iaload, 1) := by decide +kernel
theorem d_Model_pair_236 : decode c_Model_pair 236 = .ok (.iconst 1, 1) := by decide +kernel
theorem d_Model_pair_237 : decode c_Model_pair 237 = .ok (.iadd, 1) := by decide +kernel
theorem d_Model_pair_238 : decode c_Model_pair 238 = .ok (.iastore, 1) := by decide +kernel
theorem d_Model_pair_239 : decode c_Model_pair 239 = .ok (.aload_n 0, 1) := by decide +kernel
theorem d_Model_pair_240 : decode c_Model_pair 240 = .ok (.iconst 0, 1) := by decide +kernel
theorem d_Model_pair_241 : decode c_Model_pair 241 = .ok (.putfield 101, 3) := by decide +kernel
theorem d_Model_pair_244 : decode c_Model_pair 244 = .ok (.aload_n 0, 1) := by decide +kernel
theorem d_Model_pair_245 : decode c_Model_pair 245 = .ok (.getfield 42, 3) := by decide +kernel
theorem d_Model_pair_248 : decode c_Model_pair 248 = .ok (.iload 6, 2) := by decide +kernel
theorem d_Model_pair_250 : decode c_Model_pair 250 = .ok (.iaload, 1) := by decide +kernel
theorem d_Model_pair_251 : decode c_Model_pair 251 = .ok (.ireturn, 1) := by decide +kernel
def sh_Model_pair_25 (F : Nat)  (w : im_W) : Option (Int32 × im_W) :=
  some ((-1 : Int32), w)
set_option maxHeartbeats 4000000 in
set_option maxRecDepth 100000 in
theorem bk_Model_pair_25 {F : Nat} {r : Int32 × im_W} (X : im_X D vwCl tA lo im_NW c_Model_pair 8 (some .int) RC_Model im_T p s m args meth c)  (w : im_W) (hsh : sh_Model_pair_25 F w = some r) : im_WW D vwCl tA lo 8 p l e (im_rm 7 162) s m args below meth c 0 0 (MQ below (im_Post D vwCl tA lo (some (.int r.1)) r.2) args s 0 0 (fun q => lo ≤ q)) 25 [] [] w := by
  obtain ⟨hx, hb, hr, hts, hown, hlk, hml, hK, hN⟩ := id X
  intro H locs ls hH hl
  unfold sh_Model_pair_25 at hsh
  refine lv_iconst (v := -1) hx hb d_Model_pair_25 (by decide) ?_
  obtain rfl := Option.some.inj hsh
  exact im_iret hx hb hr hlk hH d_Model_pair_26
def sh_Model_pair_112 (F : Nat)  (w : im_W) : Option (Int32 × im_W) :=
  some ((-1 : Int32), w)
set_option maxHeartbeats 4000000 in
set_option maxRecDepth 100000 in
theorem bk_Model_pair_112 {F : Nat} {r : Int32 × im_W} (X : im_X D vwCl tA lo im_NW c_Model_pair 8 (some .int) RC_Model im_T p s m args meth c)  (w : im_W) (hsh : sh_Model_pair_112 F w = some r) : im_WW D vwCl tA lo 8 p l e (im_rm 7 162) s m args below meth c 0 0 (MQ below (im_Post D vwCl tA lo (some (.int r.1)) r.2) args s 0 0 (fun q => lo ≤ q)) 112 [] [] w := by
  obtain ⟨hx, hb, hr, hts, hown, hlk, hml, hK, hN⟩ := id X
  intro H locs ls hH hl
  unfold sh_Model_pair_112 at hsh
  refine lv_iconst (v := -1) hx hb d_Model_pair_112 (by decide) ?_
  obtain rfl := Option.some.inj hsh
  exact im_iret hx hb hr hlk hH d_Model_pair_113
def sh_Model_pair_151 (F : Nat)  (w : im_W) : Option (Int32 × im_W) :=
  some ((-2 : Int32), w)
set_option maxHeartbeats 4000000 in
set_option maxRecDepth 100000 in
theorem bk_Model_pair_151 {F : Nat} {r : Int32 × im_W} (X : im_X D vwCl tA lo im_NW c_Model_pair 8 (some .int) RC_Model im_T p s m args meth c)  (w : im_W) (hsh : sh_Model_pair_151 F w = some r) : im_WW D vwCl tA lo 8 p l e (im_rm 7 162) s m args below meth c 0 0 (MQ below (im_Post D vwCl tA lo (some (.int r.1)) r.2) args s 0 0 (fun q => lo ≤ q)) 151 [] [] w := by
  obtain ⟨hx, hb, hr, hts, hown, hlk, hml, hK, hN⟩ := id X
  intro H locs ls hH hl
  unfold sh_Model_pair_151 at hsh
  refine lv_bipush (v := -2) hx hb d_Model_pair_151 (by decide) ?_
  obtain rfl := Option.some.inj hsh
  exact im_iret hx hb hr hlk hH d_Model_pair_153
def sh_Model_pair_123 (F : Nat) (x0 : Nat) (x3 : Int32) (x4 : Int32) (x5 : Int32) (y0 : Int32) (w : im_W) : Option (Int32 × im_W) :=
  (im_is w 9 x0).bind fun u1 => im_b2 (sh_Model_leads F x0 y0 x3 x4 x5 w) fun v7 w5 => (if 0 ≤ v7 then sh_Model_pair_151 F w5 else (im_gR w5 9 x0 21).bind fun f8 => (im_lI w5 0 f8 y0).bind fun e10 => (if e10 = (10 : Int32) then sh_Model_pair_151 F w5 else (im_gR w5 9 x0 21).bind fun f12 => (im_lI w5 0 f12 y0).bind fun e14 => (im_gR w5 9 x0 22).bind fun f16 => (im_sI w5 0 f16 (((10 : Int32) * y0) + e14) x3).bind fun w18 => (im_gR w18 9 x0 23).bind fun f20 => (im_sI w18 0 f20 (((10 : Int32) * y0) + e14) x4).bind fun w22 => (im_gR w22 9 x0 24).bind fun f24 => (im_sI w22 0 f24 (((10 : Int32) * y0) + e14) x5).bind fun w26 => (im_gR w26 9 x0 25).bind fun f28 => (im_gI w26 9 x0 2).bind fun f30 => (im_sI w26 0 f28 (((10 : Int32) * y0) + e14) f30).bind fun w32 => (im_gR w32 9 x0 26).bind fun f34 => (im_gI w32 9 x0 3).bind fun f36 => (im_sI w32 0 f34 (((10 : Int32) * y0) + e14) f36).bind fun w38 => (im_gR w38 9 x0 27).bind fun f40 => (im_gI w38 9 x0 4).bind fun f42 => (im_sI w38 0 f40 (((10 : Int32) * y0) + e14) f42).bind fun w44 => (im_gR w44 9 x0 21).bind fun f46 => (im_lI w44 0 f46 y0).bind fun e48 => (im_sI w44 0 f46 y0 (e48 + (1 : Int32))).bind fun w50 => (im_pV w50 9 x0 0 (.int (0 : Int32))).bind fun w52 => (im_gR w52 9 x0 21).bind fun f54 => (im_lI w52 0 f54 y0).bind fun e56 => some (e56, w52)))
set_option maxHeartbeats 4000000 in
set_option maxRecDepth 100000 in
theorem bk_Model_pair_123 {F : Nat} {r : Int32 × im_W} (X : im_X D vwCl tA lo im_NW c_Model_pair 8 (some .int) RC_Model im_T p s m args meth c) (x0 : Nat) (x3 : Int32) (x4 : Int32) (x5 : Int32) (y0 : Int32) (w : im_W) (hsh : sh_Model_pair_123 F x0 x3 x4 x5 y0 w = some r) : im_WW D vwCl tA lo 8 p l e (im_rm 7 162) s m args below meth c 0 0 (MQ below (im_Post D vwCl tA lo (some (.int r.1)) r.2) args s 0 0 (fun q => lo ≤ q)) 123 [(0, .ref (lo + x0)), (3, .int x3), (4, .int x4), (5, .int x5)] [.int y0] w := by
  obtain ⟨hx, hb, hr, hts, hown, hlk, hml, hK, hN⟩ := id X
  intro H locs ls hH hl
  unfold sh_Model_pair_123 at hsh
  refine lv_istore (lv' := [(6, .int y0), (0, .ref (lo + x0)), (3, .int x3), (4, .int x4), (5, .int x5)]) hx hb d_Model_pair_123 hl (by decide) rfl (fun ls hl => ?_)
  refine lv_aload_n hx hb d_Model_pair_125 rfl (lv_at hl 1 rfl) ?_
  refine lv_iload hx hb d_Model_pair_126 (lv_at hl 0 rfl) ?_
  refine lv_iload_n hx hb d_Model_pair_128 rfl (lv_at hl 2 rfl) ?_
  refine lv_iload hx hb d_Model_pair_129 (lv_at hl 3 rfl) ?_
  refine lv_iload hx hb d_Model_pair_131 (lv_at hl 4 rfl) ?_
  obtain ⟨u1, h2, hsh⟩ := im_bd hsh
  obtain ⟨g3, h4⟩ := im_is_s h2
  obtain ⟨v7, w5, h6, hsh⟩ := im_bd2 hsh
  refine im_afterI (va_runV (As := [.int y0, .int x3, .int x4, .int x5]) (rest := []) (C := RC_Model) ⟨hx, hb, hml, hown, hts⟩ (met_Model_leads h6) ⟨(callB_of 4 hts (im_good wd_907) rfl rfl rfl (hts _ wd_10) (hts _ wd_904) (by decide +kernel) ⟨Nat.le_of_ble_eq_true rfl, Nat.le_of_ble_eq_true rfl⟩), hts _ wd_906, hts _ sl_Model_leads⟩ (im_preV im_NW_ok hK hN hH (ci := 9) rfl rfl h4 _) rfl rfl hl.1 rfl (lv_room (Nat.le_of_ble_eq_true rfl)) d_Model_pair_133 ⟨Nat.le_of_ble_eq_true rfl, Nat.le_of_ble_eq_true rfl⟩) hH (fun H locs hH => ?_)
  refine lv_if_ge (tgt := 151) hx hb d_Model_pair_136 (by decide) (fun cc => ?_) (fun cc => ?_)
  · have hsh := im_it hsh cc
    exact bk_Model_pair_151 X w5 hsh H locs ls hH (lv_sub hl [] rfl)
  · have hsh := im_if hsh cc
    refine lv_aload_n hx hb d_Model_pair_139 rfl (lv_at hl 1 rfl) ?_
    obtain ⟨f8, h9, hsh⟩ := im_bd hsh
    refine im_getR hx hb hts inC_Model hown hK hH (ci := 9) rfl 21 (by decide) (hts _ wd_652) rfl h9 d_Model_pair_140 ?_
    refine lv_iload hx hb d_Model_pair_143 (lv_at hl 0 rfl) ?_
    obtain ⟨e10, h11, hsh⟩ := im_bd hsh
    refine im_iald hx hb hK hH h11 d_Model_pair_145 ?_
    refine lv_bipush (v := 10) hx hb d_Model_pair_146 (by decide) ?_
    refine lv_icmp_ne (tgt := 154) hx hb d_Model_pair_148 (by decide) (fun cc => ?_) (fun cc => ?_)
    · have hsh := im_if hsh cc
      refine lv_bipush (v := 10) hx hb d_Model_pair_154 (by decide) ?_
      refine lv_iload hx hb d_Model_pair_156 (lv_at hl 0 rfl) ?_
      refine lv_imul hx hb d_Model_pair_158 ?_
      refine lv_aload_n hx hb d_Model_pair_159 rfl (lv_at hl 1 rfl) ?_
      obtain ⟨f12, h13, hsh⟩ := im_bd hsh
      refine im_getR hx hb hts inC_Model hown hK hH (ci := 9) rfl 21 (by decide) (hts _ wd_652) rfl h13 d_Model_pair_160 ?_
      refine lv_iload hx hb d_Model_pair_163 (lv_at hl 0 rfl) ?_
      obtain ⟨e14, h15, hsh⟩ := im_bd hsh
      refine im_iald hx hb hK hH h15 d_Model_pair_165 ?_
      refine lv_iadd hx hb d_Model_pair_166 ?_
      refine lv_istore (lv' := [(7, .int (((10 : Int32) * y0) + e14)), (6, .int y0), (0, .ref (lo + x0)), (3, .int x3), (4, .int x4), (5, .int x5)]) hx hb d_Model_pair_167 hl (by decide) rfl (fun ls hl => ?_)
      refine lv_aload_n hx hb d_Model_pair_169 rfl (lv_at hl 2 rfl) ?_
      obtain ⟨f16, h17, hsh⟩ := im_bd hsh
      refine im_getR hx hb hts inC_Model hown hK hH (ci := 9) rfl 22 (by decide) (hts _ wd_653) rfl h17 d_Model_pair_170 ?_
      refine lv_iload hx hb d_Model_pair_173 (lv_at hl 0 rfl) ?_
      refine lv_iload_n hx hb d_Model_pair_175 rfl (lv_at hl 3 rfl) ?_
      obtain ⟨w18, h19, hsh⟩ := im_bd hsh
      refine im_iast hx hb hK hH h19 d_Model_pair_176 (fun H locs hH => ?_)
      refine lv_aload_n hx hb d_Model_pair_177 rfl (lv_at hl 2 rfl) ?_
      obtain ⟨f20, h21, hsh⟩ := im_bd hsh
      refine im_getR hx hb hts inC_Model hown hK hH (ci := 9) rfl 23 (by decide) (hts _ wd_654) rfl h21 d_Model_pair_178 ?_
      refine lv_iload hx hb d_Model_pair_181 (lv_at hl 0 rfl) ?_
      refine lv_iload hx hb d_Model_pair_183 (lv_at hl 4 rfl) ?_
      obtain ⟨w22, h23, hsh⟩ := im_bd hsh
      refine im_iast hx hb hK hH h23 d_Model_pair_185 (fun H locs hH => ?_)
      refine lv_aload_n hx hb d_Model_pair_186 rfl (lv_at hl 2 rfl) ?_
      obtain ⟨f24, h25, hsh⟩ := im_bd hsh
      refine im_getR hx hb hts inC_Model hown hK hH (ci := 9) rfl 24 (by decide) (hts _ wd_655) rfl h25 d_Model_pair_187 ?_
      refine lv_iload hx hb d_Model_pair_190 (lv_at hl 0 rfl) ?_
      refine lv_iload hx hb d_Model_pair_192 (lv_at hl 5 rfl) ?_
      obtain ⟨w26, h27, hsh⟩ := im_bd hsh
      refine im_iast hx hb hK hH h27 d_Model_pair_194 (fun H locs hH => ?_)
      refine lv_aload_n hx hb d_Model_pair_195 rfl (lv_at hl 2 rfl) ?_
      obtain ⟨f28, h29, hsh⟩ := im_bd hsh
      refine im_getR hx hb hts inC_Model hown hK hH (ci := 9) rfl 25 (by decide) (hts _ wd_656) rfl h29 d_Model_pair_196 ?_
      refine lv_iload hx hb d_Model_pair_199 (lv_at hl 0 rfl) ?_
      refine lv_aload_n hx hb d_Model_pair_201 rfl (lv_at hl 2 rfl) ?_
      obtain ⟨f30, h31, hsh⟩ := im_bd hsh
      refine im_getI hx hb hts inC_Model hown hK hH (ci := 9) rfl 2 (by decide) (hts _ wd_633) rfl h31 d_Model_pair_202 ?_
      obtain ⟨w32, h33, hsh⟩ := im_bd hsh
      refine im_iast hx hb hK hH h33 d_Model_pair_205 (fun H locs hH => ?_)
      refine lv_aload_n hx hb d_Model_pair_206 rfl (lv_at hl 2 rfl) ?_
      obtain ⟨f34, h35, hsh⟩ := im_bd hsh
      refine im_getR hx hb hts inC_Model hown hK hH (ci := 9) rfl 26 (by decide) (hts _ wd_657) rfl h35 d_Model_pair_207 ?_
      refine lv_iload hx hb d_Model_pair_210 (lv_at hl 0 rfl) ?_
      refine lv_aload_n hx hb d_Model_pair_212 rfl (lv_at hl 2 rfl) ?_
      obtain ⟨f36, h37, hsh⟩ := im_bd hsh
      refine im_getI hx hb hts inC_Model hown hK hH (ci := 9) rfl 3 (by decide) (hts _ wd_634) rfl h37 d_Model_pair_213 ?_
      obtain ⟨w38, h39, hsh⟩ := im_bd hsh
      refine im_iast hx hb hK hH h39 d_Model_pair_216 (fun H locs hH => ?_)
      refine lv_aload_n hx hb d_Model_pair_217 rfl (lv_at hl 2 rfl) ?_
      obtain ⟨f40, h41, hsh⟩ := im_bd hsh
      refine im_getR hx hb hts inC_Model hown hK hH (ci := 9) rfl 27 (by decide) (hts _ wd_658) rfl h41 d_Model_pair_218 ?_
      refine lv_iload hx hb d_Model_pair_221 (lv_at hl 0 rfl) ?_
      refine lv_aload_n hx hb d_Model_pair_223 rfl (lv_at hl 2 rfl) ?_
      obtain ⟨f42, h43, hsh⟩ := im_bd hsh
      refine im_getI hx hb hts inC_Model hown hK hH (ci := 9) rfl 4 (by decide) (hts _ wd_635) rfl h43 d_Model_pair_224 ?_
      obtain ⟨w44, h45, hsh⟩ := im_bd hsh
      refine im_iast hx hb hK hH h45 d_Model_pair_227 (fun H locs hH => ?_)
      refine lv_aload_n hx hb d_Model_pair_228 rfl (lv_at hl 2 rfl) ?_
      obtain ⟨f46, h47, hsh⟩ := im_bd hsh
      refine im_getR hx hb hts inC_Model hown hK hH (ci := 9) rfl 21 (by decide) (hts _ wd_652) rfl h47 d_Model_pair_229 ?_
      refine lv_iload hx hb d_Model_pair_232 (lv_at hl 1 rfl) ?_
      refine lv_dup2_11 hx hb d_Model_pair_234 rfl rfl ?_
      obtain ⟨e48, h49, hsh⟩ := im_bd hsh
      refine im_iald hx hb hK hH h49 d_Model_pair_235 ?_
      refine lv_iconst (v := 1) hx hb d_Model_pair_236 (by decide) ?_
      refine lv_iadd hx hb d_Model_pair_237 ?_
      obtain ⟨w50, h51, hsh⟩ := im_bd hsh
      refine im_iast hx hb hK hH h51 d_Model_pair_238 (fun H locs hH => ?_)
      refine lv_aload_n hx hb d_Model_pair_239 rfl (lv_at hl 2 rfl) ?_
      refine lv_iconst (v := 0) hx hb d_Model_pair_240 (by decide) ?_
      obtain ⟨w52, h53, hsh⟩ := im_bd hsh
      refine im_put (v := .int (0 : Int32)) hx hb hts inC_Model tyC_Model tyC_Model_ok nmC_Model hown hK hH (ci := 9) rfl 0 (by decide) (hts _ wd_631) rfl rfl rfl rfl h53 d_Model_pair_241 (fun H locs hH => ?_)
      refine lv_aload_n hx hb d_Model_pair_244 rfl (lv_at hl 2 rfl) ?_
      obtain ⟨f54, h55, hsh⟩ := im_bd hsh
      refine im_getR hx hb hts inC_Model hown hK hH (ci := 9) rfl 21 (by decide) (hts _ wd_652) rfl h55 d_Model_pair_245 ?_
      refine lv_iload hx hb d_Model_pair_248 (lv_at hl 1 rfl) ?_
      obtain ⟨e56, h57, hsh⟩ := im_bd hsh
      refine im_iald hx hb hK hH h57 d_Model_pair_250 ?_
      obtain rfl := Option.some.inj hsh
      exact im_iret hx hb hr hlk hH d_Model_pair_251
    · have hsh := im_it hsh cc
      exact bk_Model_pair_151 X w5 hsh H locs ls hH (lv_sub hl [] rfl)
def sh_Model_pair_114 (F : Nat) (x0 : Nat) (x1 : Int32) (x3 : Int32) (x4 : Int32) (x5 : Int32) (w : im_W) : Option (Int32 × im_W) :=
  (if x1 = 0 then sh_Model_pair_123 F x0 x3 x4 x5 (0 : Int32) w else sh_Model_pair_123 F x0 x3 x4 x5 (1 : Int32) w)
set_option maxHeartbeats 4000000 in
set_option maxRecDepth 100000 in
theorem bk_Model_pair_114 {F : Nat} {r : Int32 × im_W} (X : im_X D vwCl tA lo im_NW c_Model_pair 8 (some .int) RC_Model im_T p s m args meth c) (x0 : Nat) (x1 : Int32) (x3 : Int32) (x4 : Int32) (x5 : Int32) (w : im_W) (hsh : sh_Model_pair_114 F x0 x1 x3 x4 x5 w = some r) : im_WW D vwCl tA lo 8 p l e (im_rm 7 162) s m args below meth c 0 0 (MQ below (im_Post D vwCl tA lo (some (.int r.1)) r.2) args s 0 0 (fun q => lo ≤ q)) 114 [(0, .ref (lo + x0)), (1, .int x1), (3, .int x3), (4, .int x4), (5, .int x5)] [] w := by
  obtain ⟨hx, hb, hr, hts, hown, hlk, hml, hK, hN⟩ := id X
  intro H locs ls hH hl
  unfold sh_Model_pair_114 at hsh
  refine lv_iload_n hx hb d_Model_pair_114 rfl (lv_at hl 1 rfl) ?_
  refine lv_if_eq (tgt := 122) hx hb d_Model_pair_115 (by decide) (fun cc => ?_) (fun cc => ?_)
  · have hsh := im_it hsh cc
    refine lv_iconst (v := 0) hx hb d_Model_pair_122 (by decide) ?_
    exact bk_Model_pair_123 X x0 x3 x4 x5 (0 : Int32) w hsh H locs ls hH (lv_sub hl [0, 2, 3, 4] rfl)
  · have hsh := im_if hsh cc
    refine lv_iconst (v := 1) hx hb d_Model_pair_118 (by decide) ?_
    refine lv_goto (tgt := 123) hx hb d_Model_pair_119 (by decide) ?_
    exact bk_Model_pair_123 X x0 x3 x4 x5 (1 : Int32) w hsh H locs ls hH (lv_sub hl [0, 2, 3, 4] rfl)
def sh_Model_pair (F : Nat) (x0 : Nat) (x1 : Int32) (w : im_W) : Option (Int32 × im_W) :=
  (im_is w 9 x0).bind fun u1 => im_b2 (sh_Model_equalSign F x0 w) fun v7 w5 => (if v7 < 0 then sh_Model_pair_25 F w5 else (im_is w5 9 x0).bind fun u8 => im_b2 (sh_Model_parse F x0 (0 : Int32) v7 w5) fun v14 w12 => (if 0 ≤ v14 then sh_Model_pair_25 F w12 else (im_is w12 9 x0).bind fun u15 => im_b2 (sh_Model_plain F x0 w12) fun v21 w19 => (if v21 = 0 then sh_Model_pair_25 F w19 else (im_gI w19 9 x0 2).bind fun f22 => (im_gI w19 9 x0 3).bind fun f24 => (im_gI w19 9 x0 4).bind fun f26 => (im_gI w19 9 x0 0).bind fun f28 => (im_is w19 9 x0).bind fun u30 => im_b2 (sh_Model_parse F x0 (v7 + (1 : Int32)) f28 w19) fun v36 w34 => (if 0 ≤ v36 then sh_Model_pair_112 F w34 else (im_is w34 9 x0).bind fun u37 => im_b2 (sh_Model_plain F x0 w34) fun v43 w41 => (if v43 = 0 then sh_Model_pair_112 F w41 else (if x1 = 0 then (im_gI w41 9 x0 3).bind fun f44 => (if f44 = 0 then sh_Model_pair_112 F w41 else (im_gI w41 9 x0 4).bind fun f46 => (if f46 = 0 then sh_Model_pair_112 F w41 else sh_Model_pair_114 F x0 x1 f22 f24 f26 w41)) else (im_gI w41 9 x0 2).bind fun f48 => (if f22 = f48 then (im_gI w41 9 x0 3).bind fun f50 => (if f24 = f50 then (im_gI w41 9 x0 4).bind fun f52 => (if f26 = f52 then sh_Model_pair_112 F w41 else sh_Model_pair_114 F x0 x1 f22 f24 f26 w41) else sh_Model_pair_114 F x0 x1 f22 f24 f26 w41) else sh_Model_pair_114 F x0 x1 f22 f24 f26 w41)))))))
set_option maxHeartbeats 4000000 in
set_option maxRecDepth 100000 in
theorem met_Model_pair {F : Nat} {x0 : Nat} {x1 : Int32} {w : im_W} {r : Int32 × im_W} (hsh : sh_Model_pair F x0 x1 w = some r) : Met l y_Model_pair (Cond.code y_Model_pair c_Model_pair 8 (some .int) :: im_T) (im_rm 7 162) (im_Pre D vwCl tA lo im_NW [.ref (lo + x0), .int x1] w) (im_Post D vwCl tA lo (some (.int r.1)) r.2) 0 0 (fun q => lo ≤ q) := by
  refine im_ofW (cc := c_Model_pair) (nL := 8) (ret := (some .int)) (by decide) (Nat.le_of_ble_eq_true rfl) ?_
  intro p e s m args below meth c X H locs ls hH hl
  obtain ⟨hx, hb, hr, hts, hown, hlk, hml, hK, hN⟩ := id X
  have hl : lv_has ls 8 [(0, .ref (lo + x0)), (1, .int x1)] := hl
  unfold sh_Model_pair at hsh
  refine lv_aload_n hx hb d_Model_pair_0 rfl (lv_at hl 0 rfl) ?_
  obtain ⟨u1, h2, hsh⟩ := im_bd hsh
  obtain ⟨g3, h4⟩ := im_is_s h2
  obtain ⟨v7, w5, h6, hsh⟩ := im_bd2 hsh
  refine im_afterI (va_runV (As := []) (rest := []) (C := RC_Model) ⟨hx, hb, hml, hown, hts⟩ (met_Model_equalSign h6) ⟨(callB_of 0 hts (im_good wd_791) rfl rfl rfl (hts _ wd_10) (hts _ wd_788) (by decide +kernel) ⟨Nat.le_of_ble_eq_true rfl, Nat.le_of_ble_eq_true rfl⟩), hts _ wd_790, hts _ sl_Model_equalSign⟩ (im_preV im_NW_ok hK hN hH (ci := 9) rfl rfl h4 _) rfl rfl hl.1 rfl (lv_room (Nat.le_of_ble_eq_true rfl)) d_Model_pair_1 ⟨Nat.le_of_ble_eq_true rfl, Nat.le_of_ble_eq_true rfl⟩) hH (fun H locs hH => ?_)
  refine lv_istore_n (lv' := [(2, .int v7), (0, .ref (lo + x0)), (1, .int x1)]) hx hb d_Model_pair_4 rfl hl (by decide) rfl (fun ls hl => ?_)
  refine lv_iload_n hx hb d_Model_pair_5 rfl (lv_at hl 0 rfl) ?_
  refine lv_if_lt (tgt := 25) hx hb d_Model_pair_6 (by decide) (fun cc => ?_) (fun cc => ?_)
  · have hsh := im_it hsh cc
    exact bk_Model_pair_25 X w5 hsh H locs ls hH (lv_sub hl [] rfl)
  · have hsh := im_if hsh cc
    refine lv_aload_n hx hb d_Model_pair_9 rfl (lv_at hl 1 rfl) ?_
    refine lv_iconst (v := 0) hx hb d_Model_pair_10 (by decide) ?_
    refine lv_iload_n hx hb d_Model_pair_11 rfl (lv_at hl 0 rfl) ?_
    obtain ⟨u8, h9, hsh⟩ := im_bd hsh
    obtain ⟨g10, h11⟩ := im_is_s h9
    obtain ⟨v14, w12, h13, hsh⟩ := im_bd2 hsh
    refine im_afterI (va_runV (As := [.int (0 : Int32), .int v7]) (rest := []) (C := RC_Model) ⟨hx, hb, hml, hown, hts⟩ (met_Model_parse h13) ⟨(callB_of 2 hts (im_good wd_827) rfl rfl rfl (hts _ wd_10) (hts _ wd_824) (by decide +kernel) ⟨Nat.le_of_ble_eq_true rfl, Nat.le_of_ble_eq_true rfl⟩), hts _ wd_826, hts _ sl_Model_parse⟩ (im_preV im_NW_ok hK hN hH (ci := 9) rfl rfl h11 _) rfl rfl hl.1 rfl (lv_room (Nat.le_of_ble_eq_true rfl)) d_Model_pair_12 ⟨Nat.le_of_ble_eq_true rfl, Nat.le_of_ble_eq_true rfl⟩) hH (fun H locs hH => ?_)
    refine lv_if_ge (tgt := 25) hx hb d_Model_pair_15 (by decide) (fun cc => ?_) (fun cc => ?_)
    · have hsh := im_it hsh cc
      exact bk_Model_pair_25 X w12 hsh H locs ls hH (lv_sub hl [] rfl)
    · have hsh := im_if hsh cc
      refine lv_aload_n hx hb d_Model_pair_18 rfl (lv_at hl 1 rfl) ?_
      obtain ⟨u15, h16, hsh⟩ := im_bd hsh
      obtain ⟨g17, h18⟩ := im_is_s h16
      obtain ⟨v21, w19, h20, hsh⟩ := im_bd2 hsh
      refine im_afterI (va_runV (As := []) (rest := []) (C := RC_Model) ⟨hx, hb, hml, hown, hts⟩ (met_Model_plain h20) ⟨(callB_of 0 hts (im_good wd_903) rfl rfl rfl (hts _ wd_10) (hts _ wd_900) (by decide +kernel) ⟨Nat.le_of_ble_eq_true rfl, Nat.le_of_ble_eq_true rfl⟩), hts _ wd_902, hts _ sl_Model_plain⟩ (im_preV im_NW_ok hK hN hH (ci := 9) rfl rfl h18 _) rfl rfl hl.1 rfl (lv_room (Nat.le_of_ble_eq_true rfl)) d_Model_pair_19 ⟨Nat.le_of_ble_eq_true rfl, Nat.le_of_ble_eq_true rfl⟩) hH (fun H locs hH => ?_)
      refine lv_if_ne (tgt := 27) hx hb d_Model_pair_22 (by decide) (fun cc => ?_) (fun cc => ?_)
      · have hsh := im_if hsh cc
        refine lv_aload_n hx hb d_Model_pair_27 rfl (lv_at hl 1 rfl) ?_
        obtain ⟨f22, h23, hsh⟩ := im_bd hsh
        refine im_getI hx hb hts inC_Model hown hK hH (ci := 9) rfl 2 (by decide) (hts _ wd_633) rfl h23 d_Model_pair_28 ?_
        refine lv_istore_n (lv' := [(3, .int f22), (2, .int v7), (0, .ref (lo + x0)), (1, .int x1)]) hx hb d_Model_pair_31 rfl hl (by decide) rfl (fun ls hl => ?_)
        refine lv_aload_n hx hb d_Model_pair_32 rfl (lv_at hl 2 rfl) ?_
        obtain ⟨f24, h25, hsh⟩ := im_bd hsh
        refine im_getI hx hb hts inC_Model hown hK hH (ci := 9) rfl 3 (by decide) (hts _ wd_634) rfl h25 d_Model_pair_33 ?_
        refine lv_istore (lv' := [(4, .int f24), (3, .int f22), (2, .int v7), (0, .ref (lo + x0)), (1, .int x1)]) hx hb d_Model_pair_36 hl (by decide) rfl (fun ls hl => ?_)
        refine lv_aload_n hx hb d_Model_pair_38 rfl (lv_at hl 3 rfl) ?_
        obtain ⟨f26, h27, hsh⟩ := im_bd hsh
        refine im_getI hx hb hts inC_Model hown hK hH (ci := 9) rfl 4 (by decide) (hts _ wd_635) rfl h27 d_Model_pair_39 ?_
        refine lv_istore (lv' := [(5, .int f26), (4, .int f24), (3, .int f22), (2, .int v7), (0, .ref (lo + x0)), (1, .int x1)]) hx hb d_Model_pair_42 hl (by decide) rfl (fun ls hl => ?_)
        refine lv_aload_n hx hb d_Model_pair_44 rfl (lv_at hl 4 rfl) ?_
        refine lv_iload_n hx hb d_Model_pair_45 rfl (lv_at hl 3 rfl) ?_
        refine lv_iconst (v := 1) hx hb d_Model_pair_46 (by decide) ?_
        refine lv_iadd hx hb d_Model_pair_47 ?_
        refine lv_aload_n hx hb d_Model_pair_48 rfl (lv_at hl 4 rfl) ?_
        obtain ⟨f28, h29, hsh⟩ := im_bd hsh
        refine im_getI hx hb hts inC_Model hown hK hH (ci := 9) rfl 0 (by decide) (hts _ wd_631) rfl h29 d_Model_pair_49 ?_
        obtain ⟨u30, h31, hsh⟩ := im_bd hsh
        obtain ⟨g32, h33⟩ := im_is_s h31
        obtain ⟨v36, w34, h35, hsh⟩ := im_bd2 hsh
        refine im_afterI (va_runV (As := [.int (v7 + (1 : Int32)), .int f28]) (rest := []) (C := RC_Model) ⟨hx, hb, hml, hown, hts⟩ (met_Model_parse h35) ⟨(callB_of 2 hts (im_good wd_827) rfl rfl rfl (hts _ wd_10) (hts _ wd_824) (by decide +kernel) ⟨Nat.le_of_ble_eq_true rfl, Nat.le_of_ble_eq_true rfl⟩), hts _ wd_826, hts _ sl_Model_parse⟩ (im_preV im_NW_ok hK hN hH (ci := 9) rfl rfl h33 _) rfl rfl hl.1 rfl (lv_room (Nat.le_of_ble_eq_true rfl)) d_Model_pair_52 ⟨Nat.le_of_ble_eq_true rfl, Nat.le_of_ble_eq_true rfl⟩) hH (fun H locs hH => ?_)
        refine lv_if_ge (tgt := 112) hx hb d_Model_pair_55 (by decide) (fun cc => ?_) (fun cc => ?_)
        · have hsh := im_it hsh cc
          exact bk_Model_pair_112 X w34 hsh H locs ls hH (lv_sub hl [] rfl)
        · have hsh := im_if hsh cc
          refine lv_aload_n hx hb d_Model_pair_58 rfl (lv_at hl 4 rfl) ?_
          obtain ⟨u37, h38, hsh⟩ := im_bd hsh
          obtain ⟨g39, h40⟩ := im_is_s h38
          obtain ⟨v43, w41, h42, hsh⟩ := im_bd2 hsh
          refine im_afterI (va_runV (As := []) (rest := []) (C := RC_Model) ⟨hx, hb, hml, hown, hts⟩ (met_Model_plain h42) ⟨(callB_of 0 hts (im_good wd_903) rfl rfl rfl (hts _ wd_10) (hts _ wd_900) (by decide +kernel) ⟨Nat.le_of_ble_eq_true rfl, Nat.le_of_ble_eq_true rfl⟩), hts _ wd_902, hts _ sl_Model_plain⟩ (im_preV im_NW_ok hK hN hH (ci := 9) rfl rfl h40 _) rfl rfl hl.1 rfl (lv_room (Nat.le_of_ble_eq_true rfl)) d_Model_pair_59 ⟨Nat.le_of_ble_eq_true rfl, Nat.le_of_ble_eq_true rfl⟩) hH (fun H locs hH => ?_)
          refine lv_if_eq (tgt := 112) hx hb d_Model_pair_62 (by decide) (fun cc => ?_) (fun cc => ?_)
          · have hsh := im_it hsh cc
            exact bk_Model_pair_112 X w41 hsh H locs ls hH (lv_sub hl [] rfl)
          · have hsh := im_if hsh cc
            refine lv_iload_n hx hb d_Model_pair_65 rfl (lv_at hl 5 rfl) ?_
            refine lv_if_eq (tgt := 98) hx hb d_Model_pair_66 (by decide) (fun cc => ?_) (fun cc => ?_)
            · have hsh := im_it hsh cc
              refine lv_aload_n hx hb d_Model_pair_98 rfl (lv_at hl 4 rfl) ?_
              obtain ⟨f44, h45, hsh⟩ := im_bd hsh
              refine im_getI hx hb hts inC_Model hown hK hH (ci := 9) rfl 3 (by decide) (hts _ wd_634) rfl h45 d_Model_pair_99 ?_
              refine lv_if_eq (tgt := 112) hx hb d_Model_pair_102 (by decide) (fun cc => ?_) (fun cc => ?_)
              · have hsh := im_it hsh cc
                exact bk_Model_pair_112 X w41 hsh H locs ls hH (lv_sub hl [] rfl)
              · have hsh := im_if hsh cc
                refine lv_aload_n hx hb d_Model_pair_105 rfl (lv_at hl 4 rfl) ?_
                obtain ⟨f46, h47, hsh⟩ := im_bd hsh
                refine im_getI hx hb hts inC_Model hown hK hH (ci := 9) rfl 4 (by decide) (hts _ wd_635) rfl h47 d_Model_pair_106 ?_
                refine lv_if_ne (tgt := 114) hx hb d_Model_pair_109 (by decide) (fun cc => ?_) (fun cc => ?_)
                · have hsh := im_if hsh cc
                  exact bk_Model_pair_114 X x0 x1 f22 f24 f26 w41 hsh H locs ls hH (lv_sub hl [4, 5, 2, 1, 0] rfl)
                · have hsh := im_it hsh cc
                  exact bk_Model_pair_112 X w41 hsh H locs ls hH (lv_sub hl [] rfl)
            · have hsh := im_if hsh cc
              refine lv_iload_n hx hb d_Model_pair_69 rfl (lv_at hl 2 rfl) ?_
              refine lv_aload_n hx hb d_Model_pair_70 rfl (lv_at hl 4 rfl) ?_
              obtain ⟨f48, h49, hsh⟩ := im_bd hsh
              refine im_getI hx hb hts inC_Model hown hK hH (ci := 9) rfl 2 (by decide) (hts _ wd_633) rfl h49 d_Model_pair_71 ?_
              refine lv_icmp_ne (tgt := 114) hx hb d_Model_pair_74 (by decide) (fun cc => ?_) (fun cc => ?_)
              · have hsh := im_if hsh cc
                exact bk_Model_pair_114 X x0 x1 f22 f24 f26 w41 hsh H locs ls hH (lv_sub hl [4, 5, 2, 1, 0] rfl)
              · have hsh := im_it hsh cc
                refine lv_iload hx hb d_Model_pair_77 (lv_at hl 1 rfl) ?_
                refine lv_aload_n hx hb d_Model_pair_79 rfl (lv_at hl 4 rfl) ?_
                obtain ⟨f50, h51, hsh⟩ := im_bd hsh
                refine im_getI hx hb hts inC_Model hown hK hH (ci := 9) rfl 3 (by decide) (hts _ wd_634) rfl h51 d_Model_pair_80 ?_
                refine lv_icmp_ne (tgt := 114) hx hb d_Model_pair_83 (by decide) (fun cc => ?_) (fun cc => ?_)
                · have hsh := im_if hsh cc
                  exact bk_Model_pair_114 X x0 x1 f22 f24 f26 w41 hsh H locs ls hH (lv_sub hl [4, 5, 2, 1, 0] rfl)
                · have hsh := im_it hsh cc
                  refine lv_iload hx hb d_Model_pair_86 (lv_at hl 0 rfl) ?_
                  refine lv_aload_n hx hb d_Model_pair_88 rfl (lv_at hl 4 rfl) ?_
                  obtain ⟨f52, h53, hsh⟩ := im_bd hsh
                  refine im_getI hx hb hts inC_Model hown hK hH (ci := 9) rfl 4 (by decide) (hts _ wd_635) rfl h53 d_Model_pair_89 ?_
                  refine lv_icmp_ne (tgt := 114) hx hb d_Model_pair_92 (by decide) (fun cc => ?_) (fun cc => ?_)
                  · have hsh := im_if hsh cc
                    exact bk_Model_pair_114 X x0 x1 f22 f24 f26 w41 hsh H locs ls hH (lv_sub hl [4, 5, 2, 1, 0] rfl)
                  · have hsh := im_it hsh cc
                    refine lv_goto (tgt := 112) hx hb d_Model_pair_95 (by decide) ?_
                    exact bk_Model_pair_112 X w41 hsh H locs ls hH (lv_sub hl [] rfl)
      · have hsh := im_it hsh cc
        exact bk_Model_pair_25 X w19 hsh H locs ls hH (lv_sub hl [] rfl)
theorem d_Model_und_0 : decode c_Model_und 0 = .ok (.sipush (29271), 3) := by decide +kernel
theorem d_Model_und_3 : decode c_Model_und 3 = .ok (.ireturn, 1) := by decide +kernel
def sh_Model_und (F : Nat) (x0 : Nat) (w : im_W) : Option (Int32 × im_W) :=
  some ((29271 : Int32), w)
set_option maxHeartbeats 4000000 in
set_option maxRecDepth 100000 in
theorem met_Model_und {F : Nat} {x0 : Nat} {w : im_W} {r : Int32 × im_W} (hsh : sh_Model_und F x0 w = some r) : Met l y_Model_und (Cond.code y_Model_und c_Model_und 1 (some .int) :: im_T) (im_rm 0 0) (im_Pre D vwCl tA lo im_NW [.ref (lo + x0)] w) (im_Post D vwCl tA lo (some (.int r.1)) r.2) 0 0 (fun q => lo ≤ q) := by
  refine im_ofW (cc := c_Model_und) (nL := 1) (ret := (some .int)) (by decide) (Nat.le_of_ble_eq_true rfl) ?_
  intro p e s m args below meth c X H locs ls hH hl
  obtain ⟨hx, hb, hr, hts, hown, hlk, hml, hK, hN⟩ := id X
  have hl : lv_has ls 1 [(0, .ref (lo + x0))] := hl
  unfold sh_Model_und at hsh
  refine lv_sipush (v := 29271) hx hb d_Model_und_0 (by decide) ?_
  obtain rfl := Option.some.inj hsh
  exact im_iret hx hb hr hlk hH d_Model_und_3
theorem wd_659 : (Jvm.Cond.fieldLink "LanguageTagsModel" (232 : Nat) "LanguageTagsModel" "maxLanguage" "I") ∈ im_T := im_memT (i := 659) (by decide +kernel) (by decide +kernel)
theorem wd_660 : (Jvm.Cond.fieldLink "LanguageTagsModel" (235 : Nat) "LanguageTagsModel" "maxScript" "I") ∈ im_T := im_memT (i := 660) (by decide +kernel) (by decide +kernel)
theorem wd_661 : (Jvm.Cond.fieldLink "LanguageTagsModel" (238 : Nat) "LanguageTagsModel" "maxRegion" "I") ∈ im_T := im_memT (i := 661) (by decide +kernel) (by decide +kernel)
theorem wd_920 : (Jvm.Cond.methodLink "LanguageTagsModel" (241 : Nat) ({ cls := "LanguageTagsModel", name := "und", desc := "()I" } : Jvm.MethodName)) ∈ im_T := im_memT (i := 920) (by decide +kernel) (by decide +kernel)
theorem wd_922 : (Jvm.Cond.instanceMethod ({ cls := "LanguageTagsModel", name := "und", desc := "()I" } : Jvm.MethodName)) ∈ im_T := im_memT (i := 922) (by decide +kernel) (by decide +kernel)
theorem wd_923 : (Jvm.Cond.code ({ cls := "LanguageTagsModel", name := "und", desc := "()I" } : Jvm.MethodName) prog_12_method_38_code (1 : Nat) (Option.some Jvm.ClassFile.FieldType.int)) ∈ im_T := im_memT (i := 923) (by decide +kernel) (by decide +kernel)
theorem d_Model_maximise_0 : decode c_Model_maximise 0 = .ok (.aload_n 0, 1) := by decide +kernel
theorem d_Model_maximise_1 : decode c_Model_maximise 1 = .ok (.iload_n 1, 1) := by decide +kernel
theorem d_Model_maximise_2 : decode c_Model_maximise 2 = .ok (.putfield 232, 3) := by decide +kernel
theorem d_Model_maximise_5 : decode c_Model_maximise 5 = .ok (.aload_n 0, 1) := by decide +kernel
theorem d_Model_maximise_6 : decode c_Model_maximise 6 = .ok (.iload_n 2, 1) := by decide +kernel
theorem d_Model_maximise_7 : decode c_Model_maximise 7 = .ok (.putfield 235, 3) := by decide +kernel
theorem d_Model_maximise_10 : decode c_Model_maximise 10 = .ok (.aload_n 0, 1) := by decide +kernel
theorem d_Model_maximise_11 : decode c_Model_maximise 11 = .ok (.iload_n 3, 1) := by decide +kernel
theorem d_Model_maximise_12 : decode c_Model_maximise 12 = .ok (.putfield 238, 3) := by decide +kernel
theorem d_Model_maximise_15 : decode c_Model_maximise 15 = .ok (.iload_n 2, 1) := by decide +kernel
theorem d_Model_maximise_16 : decode c_Model_maximise 16 = .ok (.ifCond .le (16), 3) := by decide +kernel
theorem d_Model_maximise_19 : decode c_Model_maximise 19 = .ok (.iload_n 3, 1) := by decide +kernel
theorem d_Model_maximise_20 : decode c_Model_maximise 20 = .ok (.ifCond .le (12), 3) := by decide +kernel
theorem d_Model_maximise_23 : decode c_Model_maximise 23 = .ok (.iload_n 1, 1) := by decide +kernel
theorem d_Model_maximise_24 : decode c_Model_maximise 24 = .ok (.aload_n 0, 1) := by decide +kernel
theorem d_Model_maximise_25 : decode c_Model_maximise 25 = .ok (.invokevirtual 241, 3) := by decide +kernel
theorem d_Model_maximise_28 : decode c_Model_maximise 28 = .ok (.if_icmp .eq (4), 3) := by decide +kernel
theorem d_Model_maximise_31 : decode c_Model_maximise 31 = .ok (.return_, 1) := by decide +kernel
theorem d_Model_maximise_32 : decode c_Model_maximise 32 = .ok (.iload_n 2, 1) := by decide +kernel
theorem d_Model_maximise_33 : decode c_Model_maximise 33 = .ok (.ifCond .le (18), 3) := by decide +kernel
theorem d_Model_maximise_36 : decode c_Model_maximise 36 = .ok (.iload_n 3, 1) := by decide +kernel
theorem d_Model_maximise_37 : decode c_Model_maximise 37 = .ok (.ifCond .le (14), 3) := by decide +kernel
theorem d_Model_maximise_40 : decode c_Model_maximise 40 = .ok (.aload_n 0, 1) := by decide +kernel
theorem d_Model_maximise_41 : decode c_Model_maximise 41 = .ok (.iconst 0, 1) := by decide +kernel
theorem d_Model_maximise_42 : decode c_Model_maximise 42 = .ok (.iload_n 1, 1) := by decide +kernel
theorem d_Model_maximise_43 : decode c_Model_maximise 43 = .ok (.iload_n 2, 1) := by decide +kernel
theorem d_Model_maximise_44 : decode c_Model_maximise 44 = .ok (.iload_n 3, 1) := by decide +kernel
theorem d_Model_maximise_45 : decode c_Model_maximise 45 = .ok (.invokevirtual 228, 3) := by decide +kernel
theorem d_Model_maximise_48 : decode c_Model_maximise 48 = .ok (.goto (4), 3) := by decide +kernel
theorem d_Model_maximise_51 : decode c_Model_maximise 51 = .ok (.iconst (-1), 1) := by decide +kernel
theorem d_Model_maximise_52 : decode c_Model_maximise 52 = .ok (.istore 4, 2) := by decide +kernel
theorem d_Model_maximise_54 : decode c_Model_maximise 54 = .ok (.iload 4, 2) := by decide +kernel
theorem d_Model_maximise_56 : decode c_Model_maximise 56 = .ok (.ifCond .ge (18), 3) := by decide +kernel
theorem d_Model_maximise_59 : decode c_Model_maximise 59 = .ok (.iload_n 3, 1) := by decide +kernel
theorem d_Model_maximise_60 : decode c_Model_maximise 60 = .ok (.ifCond .le (14), 3) := by decide +kernel
theorem d_Model_maximise_63 : decode c_Model_maximise 63 = .ok (.aload_n 0, 1) := by decide +kernel
theorem d_Model_maximise_64 : decode c_Model_maximise 64 = .ok (.iconst 0, 1) := by decide +kernel
theorem d_Model_maximise_65 : decode c_Model_maximise 65 = .ok (.iload_n 1, 1) := by decide +kernel
theorem d_Model_maximise_66 : decode c_Model_maximise 66 = .ok (.iconst 0, 1) := by decide +kernel
theorem d_Model_maximise_67 : decode c_Model_maximise 67 = .ok (.iload_n 3, 1) := by decide +kernel
theorem d_Model_maximise_68 : decode c_Model_maximise 68 = .ok (.invokevirtual 228, 3) := by decide +kernel
theorem d_Model_maximise_71 : decode c_Model_maximise 71 = .ok (.goto (5), 3) := by decide +kernel
theorem d_Model_maximise_74 : decode c_Model_maximise 74 = .ok (.iload 4, 2) := by decide +kernel
theorem d_Model_maximise_76 : decode c_Model_maximise 76 = .ok (.istore 4, 2) := by decide +kernel
theorem d_Model_maximise_78 : decode c_Model_maximise 78 = .ok (.iload 4, 2) := by decide +kernel
theorem d_Model_maximise_80 : decode c_Model_maximise 80 = .ok (.ifCond .ge (18), 3) := by decide +kernel
theorem d_Model_maximise_83 : decode c_Model_maximise 83 = .ok (.iload_n 2, 1) := by decide +kernel
theorem d_Model_maximise_84 : decode c_Model_maximise 84 = .ok (.ifCond .le (14), 3) := by decide +kernel
theorem d_Model_maximise_87 : decode c_Model_maximise 87 = .ok (.aload_n 0, 1) := by decide +kernel
theorem d_Model_maximise_88 : decode c_Model_maximise 88 = .ok (.iconst 0, 1) := by decide +kernel
theorem d_Model_maximise_89 : decode c_Model_maximise 89 = .ok (.iload_n 1, 1) := by decide +kernel
theorem d_Model_maximise_90 : decode c_Model_maximise 90 = .ok (.iload_n 2, 1) := by decide +kernel
theorem d_Model_maximise_91 : decode c_Model_maximise 91 = .ok (.iconst 0, 1) := by decide +kernel
theorem d_Model_maximise_92 : decode c_Model_maximise 92 = .ok (.invokevirtual 228, 3) := by decide +kernel
theorem d_Model_maximise_95 : decode c_Model_maximise 95 = .ok (.goto (5), 3) := by decide +kernel
theorem d_Model_maximise_98 : decode c_Model_maximise 98 = .ok (.iload 4, 2) := by decide +kernel
theorem d_Model_maximise_100 : decode c_Model_maximise 100 = .ok (.istore 4, 2) := by decide +kernel
theorem d_Model_maximise_102 : decode c_Model_maximise 102 = .ok (.iload 4, 2) := by decide +kernel
theorem d_Model_maximise_104 : decode c_Model_maximise 104 = .ok (.ifCond .ge (14), 3) := by decide +kernel
theorem d_Model_maximise_107 : decode c_Model_maximise 107 = .ok (.aload_n 0, 1) := by decide +kernel
theorem d_Model_maximise_108 : decode c_Model_maximise 108 = .ok (.iconst 0, 1) := by decide +kernel
theorem d_Model_maximise_109 : decode c_Model_maximise 109 = .ok (.iload_n 1, 1) := by decide +kernel
theorem d_Model_maximise_110 : decode c_Model_maximise 110 = .ok (.iconst 0, 1) := by decide +kernel
theorem d_Model_maximise_111 : decode c_Model_maximise 111 = .ok (.iconst 0, 1) := by decide +kernel
theorem d_Model_maximise_112 : decode c_Model_maximise 112 = .ok (.invokevirtual 228, 3) := by decide +kernel
theorem d_Model_maximise_115 : decode c_Model_maximise 115 = .ok (.goto (5), 3) := by decide +kernel
theorem d_Model_maximise_118 : decode c_Model_maximise 118 = .ok (.iload 4, 2) := by decide +kernel
theorem d_Model_maximise_120 : decode c_Model_maximise 120 = .ok (.istore 4, 2) := by decide +kernel
theorem d_Model_maximise_122 : decode c_Model_maximise 122 = .ok (.iload 4, 2) := by decide +kernel
theorem d_Model_maximise_124 : decode c_Model_maximise 124 = .ok (.ifCond .ge (21), 3) := by decide +kernel
theorem d_Model_maximise_127 : decode c_Model_maximise 127 = .ok (.iload_n 2, 1) := by decide +kernel
theorem d_Model_maximise_128 : decode c_Model_maximise 128 = .ok (.ifCond .le (17), 3) := by decide +kernel
theorem d_Model_maximise_131 : decode c_Model_maximise 131 = .ok (.aload_n 0, 1) := by decide +kernel
theorem d_Model_maximise_132 : decode c_Model_maximise 132 = .ok (.iconst 0, 1) := by decide +kernel
theorem d_Model_maximise_133 : decode c_Model_maximise 133 = .ok (.aload_n 0, 1) := by decide +kernel
theorem d_Model_maximise_134 : decode c_Model_maximise 134 = .ok (.invokevirtual 241, 3) := by decide +kernel
theorem d_Model_maximise_137 : decode c_Model_maximise 137 = .ok (.iload_n 2, 1) := by decide +kernel
theorem d_Model_maximise_138 : decode c_Model_maximise 138 = .ok (.iconst 0, 1) := by decide +kernel
theorem d_Model_maximise_139 : decode c_Model_maximise 139 = .ok (.invokevirtual 228, 3) := by decide +kernel
theorem d_Model_maximise_142 : decode c_Model_maximise 142 = .ok (.goto (5), 3) := by decide +kernel
theorem d_Model_maximise_145 : decode c_Model_maximise 145 = .ok (.iload 4, 2) := by decide +kernel
theorem d_Model_maximise_147 : decode c_Model_maximise 147 = .ok (.istore 4, 2) := by decide +kernel
theorem d_Model_maximise_149 : decode c_Model_maximise 149 = .ok (.iload 4, 2) := by decide +kernel
theorem d_Model_maximise_151 : decode c_Model_maximise 151 = .ok (.ifCond .lt (64), 3) := by decide +kernel
theorem d_Model_maximise_154 : decode c_Model_maximise 154 = .ok (.aload_n 0, 1) := by decide +kernel
theorem d_Model_maximise_155 : decode c_Model_maximise 155 = .ok (.iload_n 1, 1) := by decide +kernel
theorem d_Model_maximise_156 : decode c_Model_maximise 156 = .ok (.aload_n 0, 1) := by decide +kernel
theorem d_Model_maximise_157 : decode c_Model_maximise 157 = .ok (.invokevirtual 241, 3) := by decide +kernel
theorem d_Model_maximise_160 : decode c_Model_maximise 160 = .ok (.if_icmp .ne (13), 3) := by decide +kernel
theorem d_Model_maximise_163 : decode c_Model_maximise 163 = .ok (.aload_n 0, 1) := by decide +kernel
theorem d_Model_maximise_164 : decode c_Model_maximise 164 = .ok (.getfield 54, 3) := by decide +kernel
theorem d_Model_maximise_167 : decode c_Model_maximise 167 = .ok (.iload 4, 2) := by decide +kernel
theorem d_Model_maximise_169 : decode c_Model_maximise 169 = .ok (.iaload, 1) := by decide +kernel
theorem d_Model_maximise_170 : decode c_Model_maximise 170 = .ok (.goto (4), 3) := by decide +kernel
theorem d_Model_maximise_173 : decode c_Model_maximise 173 = .ok (.iload_n 1, 1) := by decide +kernel
theorem d_Model_maximise_174 : decode c_Model_maximise 174 = .ok (.putfield 232, 3) := by decide +kernel
theorem d_Model_maximise_177 : decode c_Model_maximise 177 = .ok (.aload_n 0, 1) := by decide +kernel
theorem d_Model_maximise_178 : decode c_Model_maximise 178 = .ok (.iload_n 2, 1) := by decide +kernel
theorem d_Model_maximise_179 : decode c_Model_maximise 179 = .ok (.ifCond .ne (13), 3) := by decide +kernel
theorem d_Model_maximise_182 : decode c_Model_maximise 182 = .ok (.aload_n 0, 1) := by decide +kernel
theorem d_Model_maximise_183 : decode c_Model_maximise 183 = .ok (.getfield 57, 3) := by decide +kernel
theorem d_Model_maximise_186 : decode c_Model_maximise 186 = .ok (.iload 4, 2) := by decide +kernel
theorem d_Model_maximise_188 : decode c_Model_maximise 188 = .ok (.iaload, 1) := by decide +kernel
theorem d_Model_maximise_189 : decode c_Model_maximise 189 = .ok (.goto (4), 3) := by decide +kernel
theorem d_Model_maximise_192 : decode c_Model_maximise 192 = .ok (.iload_n 2, 1) := by decide +kernel
theorem d_Model_maximise_193 : decode c_Model_maximise 193 = .ok (.putfield 235, 3) := by decide +kernel
theorem d_Model_maximise_196 : decode c_Model_maximise 196 = .ok (.aload_n 0, 1) := by decide +kernel
theorem d_Model_maximise_197 : decode c_Model_maximise 197 = .ok (.iload_n 3, 1) := by decide +kernel
theorem d_Model_maximise_198 : decode c_Model_maximise 198 = .ok (.ifCond .ne (13), 3) := by decide +kernel
theorem d_Model_maximise_201 : decode c_Model_maximise 201 = .ok (.aload_n 0, 1) := by decide +kernel
theorem d_Model_maximise_202 : decode c_Model_maximise 202 = .ok (.getfield 60, 3) := by decide +kernel
theorem d_Model_maximise_205 : decode c_Model_maximise 205 = .ok (.iload 4, 2) := by decide +kernel
theorem d_Model_maximise_207 : decode c_Model_maximise 207 = .ok (.iaload, 1) := by decide +kernel
theorem d_Model_maximise_208 : decode c_Model_maximise 208 = .ok (.goto (4), 3) := by decide +kernel
theorem d_Model_maximise_211 : decode c_Model_maximise 211 = .ok (.iload_n 3, 1) := by decide +kernel
theorem d_Model_maximise_212 : decode c_Model_maximise 212 = .ok (.putfield 238, 3) := by decide +kernel
theorem d_Model_maximise_215 : decode c_Model_maximise 215 = .ok (.return_, 1) := by decide +kernel
def sh_Model_maximise_215 (F : Nat)  (w : im_W) : Option (im_W) :=
  some w
set_option maxHeartbeats 4000000 in
set_option maxRecDepth 100000 in
theorem bk_Model_maximise_215 {F : Nat} {r : im_W} (X : im_X D vwCl tA lo im_NW c_Model_maximise 5 none RC_Model im_T p s m args meth c)  (w : im_W) (hsh : sh_Model_maximise_215 F w = some r) : im_WW D vwCl tA lo 5 p l e (im_rm 1 25) s m args below meth c 0 0 (MQ below (im_Post D vwCl tA lo none r) args s 0 0 (fun q => lo ≤ q)) 215 [] [] w := by
  obtain ⟨hx, hb, hr, hts, hown, hlk, hml, hK, hN⟩ := id X
  intro H locs ls hH hl
  unfold sh_Model_maximise_215 at hsh
  obtain rfl := Option.some.inj hsh
  exact im_vret hx hb hr hlk hH d_Model_maximise_215
def sh_Model_maximise_212 (F : Nat) (y0 : Int32) (y1 : Nat) (w : im_W) : Option (im_W) :=
  (im_pV w 9 y1 30 (.int y0)).bind fun w1 => sh_Model_maximise_215 F w1
set_option maxHeartbeats 4000000 in
set_option maxRecDepth 100000 in
theorem bk_Model_maximise_212 {F : Nat} {r : im_W} (X : im_X D vwCl tA lo im_NW c_Model_maximise 5 none RC_Model im_T p s m args meth c) (y0 : Int32) (y1 : Nat) (w : im_W) (hsh : sh_Model_maximise_212 F y0 y1 w = some r) : im_WW D vwCl tA lo 5 p l e (im_rm 1 25) s m args below meth c 0 0 (MQ below (im_Post D vwCl tA lo none r) args s 0 0 (fun q => lo ≤ q)) 212 [] [.int y0, .ref (lo + y1)] w := by
  obtain ⟨hx, hb, hr, hts, hown, hlk, hml, hK, hN⟩ := id X
  intro H locs ls hH hl
  unfold sh_Model_maximise_212 at hsh
  obtain ⟨w1, h2, hsh⟩ := im_bd hsh
  refine im_put (v := .int y0) hx hb hts inC_Model tyC_Model tyC_Model_ok nmC_Model hown hK hH (ci := 9) rfl 30 (by decide) (hts _ wd_661) rfl rfl rfl rfl h2 d_Model_maximise_212 (fun H locs hH => ?_)
  exact bk_Model_maximise_215 X w1 hsh H locs ls hH (lv_sub hl [] rfl)
def sh_Model_maximise_193 (F : Nat) (x0 : Nat) (x3 : Int32) (x4 : Int32) (y0 : Int32) (y1 : Nat) (w : im_W) : Option (im_W) :=
  (im_pV w 9 y1 29 (.int y0)).bind fun w1 => (if x3 = 0 then (im_gR w1 9 x0 27).bind fun f3 => (im_lI w1 0 f3 x4).bind fun e5 => sh_Model_maximise_212 F e5 x0 w1 else sh_Model_maximise_212 F x3 x0 w1)
set_option maxHeartbeats 4000000 in
set_option maxRecDepth 100000 in
theorem bk_Model_maximise_193 {F : Nat} {r : im_W} (X : im_X D vwCl tA lo im_NW c_Model_maximise 5 none RC_Model im_T p s m args meth c) (x0 : Nat) (x3 : Int32) (x4 : Int32) (y0 : Int32) (y1 : Nat) (w : im_W) (hsh : sh_Model_maximise_193 F x0 x3 x4 y0 y1 w = some r) : im_WW D vwCl tA lo 5 p l e (im_rm 1 25) s m args below meth c 0 0 (MQ below (im_Post D vwCl tA lo none r) args s 0 0 (fun q => lo ≤ q)) 193 [(0, .ref (lo + x0)), (3, .int x3), (4, .int x4)] [.int y0, .ref (lo + y1)] w := by
  obtain ⟨hx, hb, hr, hts, hown, hlk, hml, hK, hN⟩ := id X
  intro H locs ls hH hl
  unfold sh_Model_maximise_193 at hsh
  obtain ⟨w1, h2, hsh⟩ := im_bd hsh
  refine im_put (v := .int y0) hx hb hts inC_Model tyC_Model tyC_Model_ok nmC_Model hown hK hH (ci := 9) rfl 29 (by decide) (hts _ wd_660) rfl rfl rfl rfl h2 d_Model_maximise_193 (fun H locs hH => ?_)
  refine lv_aload_n hx hb d_Model_maximise_196 rfl (lv_at hl 0 rfl) ?_
  refine lv_iload_n hx hb d_Model_maximise_197 rfl (lv_at hl 1 rfl) ?_
  refine lv_if_ne (tgt := 211) hx hb d_Model_maximise_198 (by decide) (fun cc => ?_) (fun cc => ?_)
  · have hsh := im_if hsh cc
    refine lv_iload_n hx hb d_Model_maximise_211 rfl (lv_at hl 1 rfl) ?_
    exact bk_Model_maximise_212 X x3 x0 w1 hsh H locs ls hH (lv_sub hl [] rfl)
  · have hsh := im_it hsh cc
    refine lv_aload_n hx hb d_Model_maximise_201 rfl (lv_at hl 0 rfl) ?_
    obtain ⟨f3, h4, hsh⟩ := im_bd hsh
    refine im_getR hx hb hts inC_Model hown hK hH (ci := 9) rfl 27 (by decide) (hts _ wd_658) rfl h4 d_Model_maximise_202 ?_
    refine lv_iload hx hb d_Model_maximise_205 (lv_at hl 2 rfl) ?_
    obtain ⟨e5, h6, hsh⟩ := im_bd hsh
    refine im_iald hx hb hK hH h6 d_Model_maximise_207 ?_
    refine lv_goto (tgt := 212) hx hb d_Model_maximise_208 (by decide) ?_
    exact bk_Model_maximise_212 X e5 x0 w1 hsh H locs ls hH (lv_sub hl [] rfl)
def sh_Model_maximise_174 (F : Nat) (x0 : Nat) (x2 : Int32) (x3 : Int32) (x4 : Int32) (y0 : Int32) (y1 : Nat) (w : im_W) : Option (im_W) :=
  (im_pV w 9 y1 28 (.int y0)).bind fun w1 => (if x2 = 0 then (im_gR w1 9 x0 26).bind fun f3 => (im_lI w1 0 f3 x4).bind fun e5 => sh_Model_maximise_193 F x0 x3 x4 e5 x0 w1 else sh_Model_maximise_193 F x0 x3 x4 x2 x0 w1)
set_option maxHeartbeats 4000000 in
set_option maxRecDepth 100000 in
theorem bk_Model_maximise_174 {F : Nat} {r : im_W} (X : im_X D vwCl tA lo im_NW c_Model_maximise 5 none RC_Model im_T p s m args meth c) (x0 : Nat) (x2 : Int32) (x3 : Int32) (x4 : Int32) (y0 : Int32) (y1 : Nat) (w : im_W) (hsh : sh_Model_maximise_174 F x0 x2 x3 x4 y0 y1 w = some r) : im_WW D vwCl tA lo 5 p l e (im_rm 1 25) s m args below meth c 0 0 (MQ below (im_Post D vwCl tA lo none r) args s 0 0 (fun q => lo ≤ q)) 174 [(0, .ref (lo + x0)), (2, .int x2), (3, .int x3), (4, .int x4)] [.int y0, .ref (lo + y1)] w := by
  obtain ⟨hx, hb, hr, hts, hown, hlk, hml, hK, hN⟩ := id X
  intro H locs ls hH hl
  unfold sh_Model_maximise_174 at hsh
  obtain ⟨w1, h2, hsh⟩ := im_bd hsh
  refine im_put (v := .int y0) hx hb hts inC_Model tyC_Model tyC_Model_ok nmC_Model hown hK hH (ci := 9) rfl 28 (by decide) (hts _ wd_659) rfl rfl rfl rfl h2 d_Model_maximise_174 (fun H locs hH => ?_)
  refine lv_aload_n hx hb d_Model_maximise_177 rfl (lv_at hl 0 rfl) ?_
  refine lv_iload_n hx hb d_Model_maximise_178 rfl (lv_at hl 1 rfl) ?_
  refine lv_if_ne (tgt := 192) hx hb d_Model_maximise_179 (by decide) (fun cc => ?_) (fun cc => ?_)
  · have hsh := im_if hsh cc
    refine lv_iload_n hx hb d_Model_maximise_192 rfl (lv_at hl 1 rfl) ?_
    exact bk_Model_maximise_193 X x0 x3 x4 x2 x0 w1 hsh H locs ls hH (lv_sub hl [0, 2, 3] rfl)
  · have hsh := im_it hsh cc
    refine lv_aload_n hx hb d_Model_maximise_182 rfl (lv_at hl 0 rfl) ?_
    obtain ⟨f3, h4, hsh⟩ := im_bd hsh
    refine im_getR hx hb hts inC_Model hown hK hH (ci := 9) rfl 26 (by decide) (hts _ wd_657) rfl h4 d_Model_maximise_183 ?_
    refine lv_iload hx hb d_Model_maximise_186 (lv_at hl 3 rfl) ?_
    obtain ⟨e5, h6, hsh⟩ := im_bd hsh
    refine im_iald hx hb hK hH h6 d_Model_maximise_188 ?_
    refine lv_goto (tgt := 193) hx hb d_Model_maximise_189 (by decide) ?_
    exact bk_Model_maximise_193 X x0 x3 x4 e5 x0 w1 hsh H locs ls hH (lv_sub hl [0, 2, 3] rfl)
def sh_Model_maximise_147 (F : Nat) (x0 : Nat) (x1 : Int32) (x2 : Int32) (x3 : Int32) (y0 : Int32) (w : im_W) : Option (im_W) :=
  (if y0 < 0 then sh_Model_maximise_215 F w else (im_is w 9 x0).bind fun u1 => im_b2 (sh_Model_und F x0 w) fun v7 w5 => (if x1 = v7 then (im_gR w5 9 x0 25).bind fun f8 => (im_lI w5 0 f8 y0).bind fun e10 => sh_Model_maximise_174 F x0 x2 x3 y0 e10 x0 w5 else sh_Model_maximise_174 F x0 x2 x3 y0 x1 x0 w5))
set_option maxHeartbeats 4000000 in
set_option maxRecDepth 100000 in
theorem bk_Model_maximise_147 {F : Nat} {r : im_W} (X : im_X D vwCl tA lo im_NW c_Model_maximise 5 none RC_Model im_T p s m args meth c) (x0 : Nat) (x1 : Int32) (x2 : Int32) (x3 : Int32) (y0 : Int32) (w : im_W) (hsh : sh_Model_maximise_147 F x0 x1 x2 x3 y0 w = some r) : im_WW D vwCl tA lo 5 p l e (im_rm 1 25) s m args below meth c 0 0 (MQ below (im_Post D vwCl tA lo none r) args s 0 0 (fun q => lo ≤ q)) 147 [(0, .ref (lo + x0)), (1, .int x1), (2, .int x2), (3, .int x3)] [.int y0] w := by
  obtain ⟨hx, hb, hr, hts, hown, hlk, hml, hK, hN⟩ := id X
  intro H locs ls hH hl
  unfold sh_Model_maximise_147 at hsh
  refine lv_istore (lv' := [(4, .int y0), (0, .ref (lo + x0)), (1, .int x1), (2, .int x2), (3, .int x3)]) hx hb d_Model_maximise_147 hl (by decide) rfl (fun ls hl => ?_)
  refine lv_iload hx hb d_Model_maximise_149 (lv_at hl 0 rfl) ?_
  refine lv_if_lt (tgt := 215) hx hb d_Model_maximise_151 (by decide) (fun cc => ?_) (fun cc => ?_)
  · have hsh := im_it hsh cc
    exact bk_Model_maximise_215 X w hsh H locs ls hH (lv_sub hl [] rfl)
  · have hsh := im_if hsh cc
    refine lv_aload_n hx hb d_Model_maximise_154 rfl (lv_at hl 1 rfl) ?_
    refine lv_iload_n hx hb d_Model_maximise_155 rfl (lv_at hl 2 rfl) ?_
    refine lv_aload_n hx hb d_Model_maximise_156 rfl (lv_at hl 1 rfl) ?_
    obtain ⟨u1, h2, hsh⟩ := im_bd hsh
    obtain ⟨g3, h4⟩ := im_is_s h2
    obtain ⟨v7, w5, h6, hsh⟩ := im_bd2 hsh
    refine im_afterI (va_runV (As := []) (rest := [.int x1, .ref (lo + x0)]) (C := RC_Model) ⟨hx, hb, hml, hown, hts⟩ (met_Model_und h6) ⟨(callB_of 0 hts (im_good wd_923) rfl rfl rfl (hts _ wd_10) (hts _ wd_920) (by decide +kernel) ⟨Nat.le_of_ble_eq_true rfl, Nat.le_of_ble_eq_true rfl⟩), hts _ wd_922, hts _ sl_Model_und⟩ (im_preV im_NW_ok hK hN hH (ci := 9) rfl rfl h4 _) rfl rfl hl.1 rfl (lv_room (Nat.le_of_ble_eq_true rfl)) d_Model_maximise_157 ⟨Nat.le_of_ble_eq_true rfl, Nat.le_of_ble_eq_true rfl⟩) hH (fun H locs hH => ?_)
    refine lv_icmp_ne (tgt := 173) hx hb d_Model_maximise_160 (by decide) (fun cc => ?_) (fun cc => ?_)
    · have hsh := im_if hsh cc
      refine lv_iload_n hx hb d_Model_maximise_173 rfl (lv_at hl 2 rfl) ?_
      exact bk_Model_maximise_174 X x0 x2 x3 y0 x1 x0 w5 hsh H locs ls hH (lv_sub hl [1, 3, 4, 0] rfl)
    · have hsh := im_it hsh cc
      refine lv_aload_n hx hb d_Model_maximise_163 rfl (lv_at hl 1 rfl) ?_
      obtain ⟨f8, h9, hsh⟩ := im_bd hsh
      refine im_getR hx hb hts inC_Model hown hK hH (ci := 9) rfl 25 (by decide) (hts _ wd_656) rfl h9 d_Model_maximise_164 ?_
      refine lv_iload hx hb d_Model_maximise_167 (lv_at hl 0 rfl) ?_
      obtain ⟨e10, h11, hsh⟩ := im_bd hsh
      refine im_iald hx hb hK hH h11 d_Model_maximise_169 ?_
      refine lv_goto (tgt := 174) hx hb d_Model_maximise_170 (by decide) ?_
      exact bk_Model_maximise_174 X x0 x2 x3 y0 e10 x0 w5 hsh H locs ls hH (lv_sub hl [1, 3, 4, 0] rfl)
def sh_Model_maximise_145 (F : Nat) (x0 : Nat) (x1 : Int32) (x2 : Int32) (x3 : Int32) (x4 : Int32) (w : im_W) : Option (im_W) :=
  sh_Model_maximise_147 F x0 x1 x2 x3 x4 w
set_option maxHeartbeats 4000000 in
set_option maxRecDepth 100000 in
theorem bk_Model_maximise_145 {F : Nat} {r : im_W} (X : im_X D vwCl tA lo im_NW c_Model_maximise 5 none RC_Model im_T p s m args meth c) (x0 : Nat) (x1 : Int32) (x2 : Int32) (x3 : Int32) (x4 : Int32) (w : im_W) (hsh : sh_Model_maximise_145 F x0 x1 x2 x3 x4 w = some r) : im_WW D vwCl tA lo 5 p l e (im_rm 1 25) s m args below meth c 0 0 (MQ below (im_Post D vwCl tA lo none r) args s 0 0 (fun q => lo ≤ q)) 145 [(0, .ref (lo + x0)), (1, .int x1), (2, .int x2), (3, .int x3), (4, .int x4)] [] w := by
  obtain ⟨hx, hb, hr, hts, hown, hlk, hml, hK, hN⟩ := id X
  intro H locs ls hH hl
  unfold sh_Model_maximise_145 at hsh
  refine lv_iload hx hb d_Model_maximise_145 (lv_at hl 4 rfl) ?_
  exact bk_Model_maximise_147 X x0 x1 x2 x3 x4 w hsh H locs ls hH (lv_sub hl [0, 1, 2, 3] rfl)
def sh_Model_maximise_120 (F : Nat) (x0 : Nat) (x1 : Int32) (x2 : Int32) (x3 : Int32) (y0 : Int32) (w : im_W) : Option (im_W) :=
  (if 0 ≤ y0 then sh_Model_maximise_145 F x0 x1 x2 x3 y0 w else (if x2 ≤ 0 then sh_Model_maximise_145 F x0 x1 x2 x3 y0 w else (im_is w 9 x0).bind fun u1 => im_b2 (sh_Model_und F x0 w) fun v7 w5 => (im_is w5 9 x0).bind fun u8 => im_b2 (sh_Model_leads F x0 (0 : Int32) v7 x2 (0 : Int32) w5) fun v14 w12 => sh_Model_maximise_147 F x0 x1 x2 x3 v14 w12))
set_option maxHeartbeats 4000000 in
set_option maxRecDepth 100000 in
theorem bk_Model_maximise_120 {F : Nat} {r : im_W} (X : im_X D vwCl tA lo im_NW c_Model_maximise 5 none RC_Model im_T p s m args meth c) (x0 : Nat) (x1 : Int32) (x2 : Int32) (x3 : Int32) (y0 : Int32) (w : im_W) (hsh : sh_Model_maximise_120 F x0 x1 x2 x3 y0 w = some r) : im_WW D vwCl tA lo 5 p l e (im_rm 1 25) s m args below meth c 0 0 (MQ below (im_Post D vwCl tA lo none r) args s 0 0 (fun q => lo ≤ q)) 120 [(0, .ref (lo + x0)), (1, .int x1), (2, .int x2), (3, .int x3)] [.int y0] w := by
  obtain ⟨hx, hb, hr, hts, hown, hlk, hml, hK, hN⟩ := id X
  intro H locs ls hH hl
  unfold sh_Model_maximise_120 at hsh
  refine lv_istore (lv' := [(4, .int y0), (0, .ref (lo + x0)), (1, .int x1), (2, .int x2), (3, .int x3)]) hx hb d_Model_maximise_120 hl (by decide) rfl (fun ls hl => ?_)
  refine lv_iload hx hb d_Model_maximise_122 (lv_at hl 0 rfl) ?_
  refine lv_if_ge (tgt := 145) hx hb d_Model_maximise_124 (by decide) (fun cc => ?_) (fun cc => ?_)
  · have hsh := im_it hsh cc
    exact bk_Model_maximise_145 X x0 x1 x2 x3 y0 w hsh H locs ls hH (lv_sub hl [1, 2, 3, 4, 0] rfl)
  · have hsh := im_if hsh cc
    refine lv_iload_n hx hb d_Model_maximise_127 rfl (lv_at hl 3 rfl) ?_
    refine lv_if_le (tgt := 145) hx hb d_Model_maximise_128 (by decide) (fun cc => ?_) (fun cc => ?_)
    · have hsh := im_it hsh cc
      exact bk_Model_maximise_145 X x0 x1 x2 x3 y0 w hsh H locs ls hH (lv_sub hl [1, 2, 3, 4, 0] rfl)
    · have hsh := im_if hsh cc
      refine lv_aload_n hx hb d_Model_maximise_131 rfl (lv_at hl 1 rfl) ?_
      refine lv_iconst (v := 0) hx hb d_Model_maximise_132 (by decide) ?_
      refine lv_aload_n hx hb d_Model_maximise_133 rfl (lv_at hl 1 rfl) ?_
      obtain ⟨u1, h2, hsh⟩ := im_bd hsh
      obtain ⟨g3, h4⟩ := im_is_s h2
      obtain ⟨v7, w5, h6, hsh⟩ := im_bd2 hsh
      refine im_afterI (va_runV (As := []) (rest := [.int (0 : Int32), .ref (lo + x0)]) (C := RC_Model) ⟨hx, hb, hml, hown, hts⟩ (met_Model_und h6) ⟨(callB_of 0 hts (im_good wd_923) rfl rfl rfl (hts _ wd_10) (hts _ wd_920) (by decide +kernel) ⟨Nat.le_of_ble_eq_true rfl, Nat.le_of_ble_eq_true rfl⟩), hts _ wd_922, hts _ sl_Model_und⟩ (im_preV im_NW_ok hK hN hH (ci := 9) rfl rfl h4 _) rfl rfl hl.1 rfl (lv_room (Nat.le_of_ble_eq_true rfl)) d_Model_maximise_134 ⟨Nat.le_of_ble_eq_true rfl, Nat.le_of_ble_eq_true rfl⟩) hH (fun H locs hH => ?_)
      refine lv_iload_n hx hb d_Model_maximise_137 rfl (lv_at hl 3 rfl) ?_
      refine lv_iconst (v := 0) hx hb d_Model_maximise_138 (by decide) ?_
      obtain ⟨u8, h9, hsh⟩ := im_bd hsh
      obtain ⟨g10, h11⟩ := im_is_s h9
      obtain ⟨v14, w12, h13, hsh⟩ := im_bd2 hsh
      refine im_afterI (va_runV (As := [.int (0 : Int32), .int v7, .int x2, .int (0 : Int32)]) (rest := []) (C := RC_Model) ⟨hx, hb, hml, hown, hts⟩ (met_Model_leads h13) ⟨(callB_of 4 hts (im_good wd_907) rfl rfl rfl (hts _ wd_10) (hts _ wd_904) (by decide +kernel) ⟨Nat.le_of_ble_eq_true rfl, Nat.le_of_ble_eq_true rfl⟩), hts _ wd_906, hts _ sl_Model_leads⟩ (im_preV im_NW_ok hK hN hH (ci := 9) rfl rfl h11 _) rfl rfl hl.1 rfl (lv_room (Nat.le_of_ble_eq_true rfl)) d_Model_maximise_139 ⟨Nat.le_of_ble_eq_true rfl, Nat.le_of_ble_eq_true rfl⟩) hH (fun H locs hH => ?_)
      refine lv_goto (tgt := 147) hx hb d_Model_maximise_142 (by decide) ?_
      exact bk_Model_maximise_147 X x0 x1 x2 x3 v14 w12 hsh H locs ls hH (lv_sub hl [1, 2, 3, 4] rfl)
def sh_Model_maximise_100 (F : Nat) (x0 : Nat) (x1 : Int32) (x2 : Int32) (x3 : Int32) (y0 : Int32) (w : im_W) : Option (im_W) :=
  (if 0 ≤ y0 then sh_Model_maximise_120 F x0 x1 x2 x3 y0 w else (im_is w 9 x0).bind fun u1 => im_b2 (sh_Model_leads F x0 (0 : Int32) x1 (0 : Int32) (0 : Int32) w) fun v7 w5 => sh_Model_maximise_120 F x0 x1 x2 x3 v7 w5)
set_option maxHeartbeats 4000000 in
set_option maxRecDepth 100000 in
theorem bk_Model_maximise_100 {F : Nat} {r : im_W} (X : im_X D vwCl tA lo im_NW c_Model_maximise 5 none RC_Model im_T p s m args meth c) (x0 : Nat) (x1 : Int32) (x2 : Int32) (x3 : Int32) (y0 : Int32) (w : im_W) (hsh : sh_Model_maximise_100 F x0 x1 x2 x3 y0 w = some r) : im_WW D vwCl tA lo 5 p l e (im_rm 1 25) s m args below meth c 0 0 (MQ below (im_Post D vwCl tA lo none r) args s 0 0 (fun q => lo ≤ q)) 100 [(0, .ref (lo + x0)), (1, .int x1), (2, .int x2), (3, .int x3)] [.int y0] w := by
  obtain ⟨hx, hb, hr, hts, hown, hlk, hml, hK, hN⟩ := id X
  intro H locs ls hH hl
  unfold sh_Model_maximise_100 at hsh
  refine lv_istore (lv' := [(4, .int y0), (0, .ref (lo + x0)), (1, .int x1), (2, .int x2), (3, .int x3)]) hx hb d_Model_maximise_100 hl (by decide) rfl (fun ls hl => ?_)
  refine lv_iload hx hb d_Model_maximise_102 (lv_at hl 0 rfl) ?_
  refine lv_if_ge (tgt := 118) hx hb d_Model_maximise_104 (by decide) (fun cc => ?_) (fun cc => ?_)
  · have hsh := im_it hsh cc
    refine lv_iload hx hb d_Model_maximise_118 (lv_at hl 0 rfl) ?_
    exact bk_Model_maximise_120 X x0 x1 x2 x3 y0 w hsh H locs ls hH (lv_sub hl [1, 2, 3, 4] rfl)
  · have hsh := im_if hsh cc
    refine lv_aload_n hx hb d_Model_maximise_107 rfl (lv_at hl 1 rfl) ?_
    refine lv_iconst (v := 0) hx hb d_Model_maximise_108 (by decide) ?_
    refine lv_iload_n hx hb d_Model_maximise_109 rfl (lv_at hl 2 rfl) ?_
    refine lv_iconst (v := 0) hx hb d_Model_maximise_110 (by decide) ?_
    refine lv_iconst (v := 0) hx hb d_Model_maximise_111 (by decide) ?_
    obtain ⟨u1, h2, hsh⟩ := im_bd hsh
    obtain ⟨g3, h4⟩ := im_is_s h2
    obtain ⟨v7, w5, h6, hsh⟩ := im_bd2 hsh
    refine im_afterI (va_runV (As := [.int (0 : Int32), .int x1, .int (0 : Int32), .int (0 : Int32)]) (rest := []) (C := RC_Model) ⟨hx, hb, hml, hown, hts⟩ (met_Model_leads h6) ⟨(callB_of 4 hts (im_good wd_907) rfl rfl rfl (hts _ wd_10) (hts _ wd_904) (by decide +kernel) ⟨Nat.le_of_ble_eq_true rfl, Nat.le_of_ble_eq_true rfl⟩), hts _ wd_906, hts _ sl_Model_leads⟩ (im_preV im_NW_ok hK hN hH (ci := 9) rfl rfl h4 _) rfl rfl hl.1 rfl (lv_room (Nat.le_of_ble_eq_true rfl)) d_Model_maximise_112 ⟨Nat.le_of_ble_eq_true rfl, Nat.le_of_ble_eq_true rfl⟩) hH (fun H locs hH => ?_)
    refine lv_goto (tgt := 120) hx hb d_Model_maximise_115 (by decide) ?_
    exact bk_Model_maximise_120 X x0 x1 x2 x3 v7 w5 hsh H locs ls hH (lv_sub hl [1, 2, 3, 4] rfl)
def sh_Model_maximise_98 (F : Nat) (x0 : Nat) (x1 : Int32) (x2 : Int32) (x3 : Int32) (x4 : Int32) (w : im_W) : Option (im_W) :=
  sh_Model_maximise_100 F x0 x1 x2 x3 x4 w
set_option maxHeartbeats 4000000 in
set_option maxRecDepth 100000 in
theorem bk_Model_maximise_98 {F : Nat} {r : im_W} (X : im_X D vwCl tA lo im_NW c_Model_maximise 5 none RC_Model im_T p s m args meth c) (x0 : Nat) (x1 : Int32) (x2 : Int32) (x3 : Int32) (x4 : Int32) (w : im_W) (hsh : sh_Model_maximise_98 F x0 x1 x2 x3 x4 w = some r) : im_WW D vwCl tA lo 5 p l e (im_rm 1 25) s m args below meth c 0 0 (MQ below (im_Post D vwCl tA lo none r) args s 0 0 (fun q => lo ≤ q)) 98 [(0, .ref (lo + x0)), (1, .int x1), (2, .int x2), (3, .int x3), (4, .int x4)] [] w := by
  obtain ⟨hx, hb, hr, hts, hown, hlk, hml, hK, hN⟩ := id X
  intro H locs ls hH hl
  unfold sh_Model_maximise_98 at hsh
  refine lv_iload hx hb d_Model_maximise_98 (lv_at hl 4 rfl) ?_
  exact bk_Model_maximise_100 X x0 x1 x2 x3 x4 w hsh H locs ls hH (lv_sub hl [0, 1, 2, 3] rfl)
def sh_Model_maximise_76 (F : Nat) (x0 : Nat) (x1 : Int32) (x2 : Int32) (x3 : Int32) (y0 : Int32) (w : im_W) : Option (im_W) :=
  (if 0 ≤ y0 then sh_Model_maximise_98 F x0 x1 x2 x3 y0 w else (if x2 ≤ 0 then sh_Model_maximise_98 F x0 x1 x2 x3 y0 w else (im_is w 9 x0).bind fun u1 => im_b2 (sh_Model_leads F x0 (0 : Int32) x1 x2 (0 : Int32) w) fun v7 w5 => sh_Model_maximise_100 F x0 x1 x2 x3 v7 w5))
set_option maxHeartbeats 4000000 in
set_option maxRecDepth 100000 in
theorem bk_Model_maximise_76 {F : Nat} {r : im_W} (X : im_X D vwCl tA lo im_NW c_Model_maximise 5 none RC_Model im_T p s m args meth c) (x0 : Nat) (x1 : Int32) (x2 : Int32) (x3 : Int32) (y0 : Int32) (w : im_W) (hsh : sh_Model_maximise_76 F x0 x1 x2 x3 y0 w = some r) : im_WW D vwCl tA lo 5 p l e (im_rm 1 25) s m args below meth c 0 0 (MQ below (im_Post D vwCl tA lo none r) args s 0 0 (fun q => lo ≤ q)) 76 [(0, .ref (lo + x0)), (1, .int x1), (2, .int x2), (3, .int x3)] [.int y0] w := by
  obtain ⟨hx, hb, hr, hts, hown, hlk, hml, hK, hN⟩ := id X
  intro H locs ls hH hl
  unfold sh_Model_maximise_76 at hsh
  refine lv_istore (lv' := [(4, .int y0), (0, .ref (lo + x0)), (1, .int x1), (2, .int x2), (3, .int x3)]) hx hb d_Model_maximise_76 hl (by decide) rfl (fun ls hl => ?_)
  refine lv_iload hx hb d_Model_maximise_78 (lv_at hl 0 rfl) ?_
  refine lv_if_ge (tgt := 98) hx hb d_Model_maximise_80 (by decide) (fun cc => ?_) (fun cc => ?_)
  · have hsh := im_it hsh cc
    exact bk_Model_maximise_98 X x0 x1 x2 x3 y0 w hsh H locs ls hH (lv_sub hl [1, 2, 3, 4, 0] rfl)
  · have hsh := im_if hsh cc
    refine lv_iload_n hx hb d_Model_maximise_83 rfl (lv_at hl 3 rfl) ?_
    refine lv_if_le (tgt := 98) hx hb d_Model_maximise_84 (by decide) (fun cc => ?_) (fun cc => ?_)
    · have hsh := im_it hsh cc
      exact bk_Model_maximise_98 X x0 x1 x2 x3 y0 w hsh H locs ls hH (lv_sub hl [1, 2, 3, 4, 0] rfl)
    · have hsh := im_if hsh cc
      refine lv_aload_n hx hb d_Model_maximise_87 rfl (lv_at hl 1 rfl) ?_
      refine lv_iconst (v := 0) hx hb d_Model_maximise_88 (by decide) ?_
      refine lv_iload_n hx hb d_Model_maximise_89 rfl (lv_at hl 2 rfl) ?_
      refine lv_iload_n hx hb d_Model_maximise_90 rfl (lv_at hl 3 rfl) ?_
      refine lv_iconst (v := 0) hx hb d_Model_maximise_91 (by decide) ?_
      obtain ⟨u1, h2, hsh⟩ := im_bd hsh
      obtain ⟨g3, h4⟩ := im_is_s h2
      obtain ⟨v7, w5, h6, hsh⟩ := im_bd2 hsh
      refine im_afterI (va_runV (As := [.int (0 : Int32), .int x1, .int x2, .int (0 : Int32)]) (rest := []) (C := RC_Model) ⟨hx, hb, hml, hown, hts⟩ (met_Model_leads h6) ⟨(callB_of 4 hts (im_good wd_907) rfl rfl rfl (hts _ wd_10) (hts _ wd_904) (by decide +kernel) ⟨Nat.le_of_ble_eq_true rfl, Nat.le_of_ble_eq_true rfl⟩), hts _ wd_906, hts _ sl_Model_leads⟩ (im_preV im_NW_ok hK hN hH (ci := 9) rfl rfl h4 _) rfl rfl hl.1 rfl (lv_room (Nat.le_of_ble_eq_true rfl)) d_Model_maximise_92 ⟨Nat.le_of_ble_eq_true rfl, Nat.le_of_ble_eq_true rfl⟩) hH (fun H locs hH => ?_)
      refine lv_goto (tgt := 100) hx hb d_Model_maximise_95 (by decide) ?_
      exact bk_Model_maximise_100 X x0 x1 x2 x3 v7 w5 hsh H locs ls hH (lv_sub hl [1, 2, 3, 4] rfl)
def sh_Model_maximise_74 (F : Nat) (x0 : Nat) (x1 : Int32) (x2 : Int32) (x3 : Int32) (x4 : Int32) (w : im_W) : Option (im_W) :=
  sh_Model_maximise_76 F x0 x1 x2 x3 x4 w
set_option maxHeartbeats 4000000 in
set_option maxRecDepth 100000 in
theorem bk_Model_maximise_74 {F : Nat} {r : im_W} (X : im_X D vwCl tA lo im_NW c_Model_maximise 5 none RC_Model im_T p s m args meth c) (x0 : Nat) (x1 : Int32) (x2 : Int32) (x3 : Int32) (x4 : Int32) (w : im_W) (hsh : sh_Model_maximise_74 F x0 x1 x2 x3 x4 w = some r) : im_WW D vwCl tA lo 5 p l e (im_rm 1 25) s m args below meth c 0 0 (MQ below (im_Post D vwCl tA lo none r) args s 0 0 (fun q => lo ≤ q)) 74 [(0, .ref (lo + x0)), (1, .int x1), (2, .int x2), (3, .int x3), (4, .int x4)] [] w := by
  obtain ⟨hx, hb, hr, hts, hown, hlk, hml, hK, hN⟩ := id X
  intro H locs ls hH hl
  unfold sh_Model_maximise_74 at hsh
  refine lv_iload hx hb d_Model_maximise_74 (lv_at hl 4 rfl) ?_
  exact bk_Model_maximise_76 X x0 x1 x2 x3 x4 w hsh H locs ls hH (lv_sub hl [0, 1, 2, 3] rfl)
def sh_Model_maximise_52 (F : Nat) (x0 : Nat) (x1 : Int32) (x2 : Int32) (x3 : Int32) (y0 : Int32) (w : im_W) : Option (im_W) :=
  (if 0 ≤ y0 then sh_Model_maximise_74 F x0 x1 x2 x3 y0 w else (if x3 ≤ 0 then sh_Model_maximise_74 F x0 x1 x2 x3 y0 w else (im_is w 9 x0).bind fun u1 => im_b2 (sh_Model_leads F x0 (0 : Int32) x1 (0 : Int32) x3 w) fun v7 w5 => sh_Model_maximise_76 F x0 x1 x2 x3 v7 w5))
set_option maxHeartbeats 4000000 in
set_option maxRecDepth 100000 in
theorem bk_Model_maximise_52 {F : Nat} {r : im_W} (X : im_X D vwCl tA lo im_NW c_Model_maximise 5 none RC_Model im_T p s m args meth c) (x0 : Nat) (x1 : Int32) (x2 : Int32) (x3 : Int32) (y0 : Int32) (w : im_W) (hsh : sh_Model_maximise_52 F x0 x1 x2 x3 y0 w = some r) : im_WW D vwCl tA lo 5 p l e (im_rm 1 25) s m args below meth c 0 0 (MQ below (im_Post D vwCl tA lo none r) args s 0 0 (fun q => lo ≤ q)) 52 [(0, .ref (lo + x0)), (1, .int x1), (2, .int x2), (3, .int x3)] [.int y0] w := by
  obtain ⟨hx, hb, hr, hts, hown, hlk, hml, hK, hN⟩ := id X
  intro H locs ls hH hl
  unfold sh_Model_maximise_52 at hsh
  refine lv_istore (lv' := [(4, .int y0), (0, .ref (lo + x0)), (1, .int x1), (2, .int x2), (3, .int x3)]) hx hb d_Model_maximise_52 hl (by decide) rfl (fun ls hl => ?_)
  refine lv_iload hx hb d_Model_maximise_54 (lv_at hl 0 rfl) ?_
  refine lv_if_ge (tgt := 74) hx hb d_Model_maximise_56 (by decide) (fun cc => ?_) (fun cc => ?_)
  · have hsh := im_it hsh cc
    exact bk_Model_maximise_74 X x0 x1 x2 x3 y0 w hsh H locs ls hH (lv_sub hl [1, 2, 3, 4, 0] rfl)
  · have hsh := im_if hsh cc
    refine lv_iload_n hx hb d_Model_maximise_59 rfl (lv_at hl 4 rfl) ?_
    refine lv_if_le (tgt := 74) hx hb d_Model_maximise_60 (by decide) (fun cc => ?_) (fun cc => ?_)
    · have hsh := im_it hsh cc
      exact bk_Model_maximise_74 X x0 x1 x2 x3 y0 w hsh H locs ls hH (lv_sub hl [1, 2, 3, 4, 0] rfl)
    · have hsh := im_if hsh cc
      refine lv_aload_n hx hb d_Model_maximise_63 rfl (lv_at hl 1 rfl) ?_
      refine lv_iconst (v := 0) hx hb d_Model_maximise_64 (by decide) ?_
      refine lv_iload_n hx hb d_Model_maximise_65 rfl (lv_at hl 2 rfl) ?_
      refine lv_iconst (v := 0) hx hb d_Model_maximise_66 (by decide) ?_
      refine lv_iload_n hx hb d_Model_maximise_67 rfl (lv_at hl 4 rfl) ?_
      obtain ⟨u1, h2, hsh⟩ := im_bd hsh
      obtain ⟨g3, h4⟩ := im_is_s h2
      obtain ⟨v7, w5, h6, hsh⟩ := im_bd2 hsh
      refine im_afterI (va_runV (As := [.int (0 : Int32), .int x1, .int (0 : Int32), .int x3]) (rest := []) (C := RC_Model) ⟨hx, hb, hml, hown, hts⟩ (met_Model_leads h6) ⟨(callB_of 4 hts (im_good wd_907) rfl rfl rfl (hts _ wd_10) (hts _ wd_904) (by decide +kernel) ⟨Nat.le_of_ble_eq_true rfl, Nat.le_of_ble_eq_true rfl⟩), hts _ wd_906, hts _ sl_Model_leads⟩ (im_preV im_NW_ok hK hN hH (ci := 9) rfl rfl h4 _) rfl rfl hl.1 rfl (lv_room (Nat.le_of_ble_eq_true rfl)) d_Model_maximise_68 ⟨Nat.le_of_ble_eq_true rfl, Nat.le_of_ble_eq_true rfl⟩) hH (fun H locs hH => ?_)
      refine lv_goto (tgt := 76) hx hb d_Model_maximise_71 (by decide) ?_
      exact bk_Model_maximise_76 X x0 x1 x2 x3 v7 w5 hsh H locs ls hH (lv_sub hl [1, 2, 3, 4] rfl)
def sh_Model_maximise_51 (F : Nat) (x0 : Nat) (x1 : Int32) (x2 : Int32) (x3 : Int32) (w : im_W) : Option (im_W) :=
  sh_Model_maximise_52 F x0 x1 x2 x3 (-1 : Int32) w
set_option maxHeartbeats 4000000 in
set_option maxRecDepth 100000 in
theorem bk_Model_maximise_51 {F : Nat} {r : im_W} (X : im_X D vwCl tA lo im_NW c_Model_maximise 5 none RC_Model im_T p s m args meth c) (x0 : Nat) (x1 : Int32) (x2 : Int32) (x3 : Int32) (w : im_W) (hsh : sh_Model_maximise_51 F x0 x1 x2 x3 w = some r) : im_WW D vwCl tA lo 5 p l e (im_rm 1 25) s m args below meth c 0 0 (MQ below (im_Post D vwCl tA lo none r) args s 0 0 (fun q => lo ≤ q)) 51 [(0, .ref (lo + x0)), (1, .int x1), (2, .int x2), (3, .int x3)] [] w := by
  obtain ⟨hx, hb, hr, hts, hown, hlk, hml, hK, hN⟩ := id X
  intro H locs ls hH hl
  unfold sh_Model_maximise_51 at hsh
  refine lv_iconst (v := -1) hx hb d_Model_maximise_51 (by decide) ?_
  exact bk_Model_maximise_52 X x0 x1 x2 x3 (-1 : Int32) w hsh H locs ls hH (lv_sub hl [0, 1, 2, 3] rfl)
def sh_Model_maximise_32 (F : Nat) (x0 : Nat) (x1 : Int32) (x2 : Int32) (x3 : Int32) (w : im_W) : Option (im_W) :=
  (if x2 ≤ 0 then sh_Model_maximise_51 F x0 x1 x2 x3 w else (if x3 ≤ 0 then sh_Model_maximise_51 F x0 x1 x2 x3 w else (im_is w 9 x0).bind fun u1 => im_b2 (sh_Model_leads F x0 (0 : Int32) x1 x2 x3 w) fun v7 w5 => sh_Model_maximise_52 F x0 x1 x2 x3 v7 w5))
set_option maxHeartbeats 4000000 in
set_option maxRecDepth 100000 in
theorem bk_Model_maximise_32 {F : Nat} {r : im_W} (X : im_X D vwCl tA lo im_NW c_Model_maximise 5 none RC_Model im_T p s m args meth c) (x0 : Nat) (x1 : Int32) (x2 : Int32) (x3 : Int32) (w : im_W) (hsh : sh_Model_maximise_32 F x0 x1 x2 x3 w = some r) : im_WW D vwCl tA lo 5 p l e (im_rm 1 25) s m args below meth c 0 0 (MQ below (im_Post D vwCl tA lo none r) args s 0 0 (fun q => lo ≤ q)) 32 [(0, .ref (lo + x0)), (1, .int x1), (2, .int x2), (3, .int x3)] [] w := by
  obtain ⟨hx, hb, hr, hts, hown, hlk, hml, hK, hN⟩ := id X
  intro H locs ls hH hl
  unfold sh_Model_maximise_32 at hsh
  refine lv_iload_n hx hb d_Model_maximise_32 rfl (lv_at hl 2 rfl) ?_
  refine lv_if_le (tgt := 51) hx hb d_Model_maximise_33 (by decide) (fun cc => ?_) (fun cc => ?_)
  · have hsh := im_it hsh cc
    exact bk_Model_maximise_51 X x0 x1 x2 x3 w hsh H locs ls hH (lv_sub hl [0, 1, 2, 3] rfl)
  · have hsh := im_if hsh cc
    refine lv_iload_n hx hb d_Model_maximise_36 rfl (lv_at hl 3 rfl) ?_
    refine lv_if_le (tgt := 51) hx hb d_Model_maximise_37 (by decide) (fun cc => ?_) (fun cc => ?_)
    · have hsh := im_it hsh cc
      exact bk_Model_maximise_51 X x0 x1 x2 x3 w hsh H locs ls hH (lv_sub hl [0, 1, 2, 3] rfl)
    · have hsh := im_if hsh cc
      refine lv_aload_n hx hb d_Model_maximise_40 rfl (lv_at hl 0 rfl) ?_
      refine lv_iconst (v := 0) hx hb d_Model_maximise_41 (by decide) ?_
      refine lv_iload_n hx hb d_Model_maximise_42 rfl (lv_at hl 1 rfl) ?_
      refine lv_iload_n hx hb d_Model_maximise_43 rfl (lv_at hl 2 rfl) ?_
      refine lv_iload_n hx hb d_Model_maximise_44 rfl (lv_at hl 3 rfl) ?_
      obtain ⟨u1, h2, hsh⟩ := im_bd hsh
      obtain ⟨g3, h4⟩ := im_is_s h2
      obtain ⟨v7, w5, h6, hsh⟩ := im_bd2 hsh
      refine im_afterI (va_runV (As := [.int (0 : Int32), .int x1, .int x2, .int x3]) (rest := []) (C := RC_Model) ⟨hx, hb, hml, hown, hts⟩ (met_Model_leads h6) ⟨(callB_of 4 hts (im_good wd_907) rfl rfl rfl (hts _ wd_10) (hts _ wd_904) (by decide +kernel) ⟨Nat.le_of_ble_eq_true rfl, Nat.le_of_ble_eq_true rfl⟩), hts _ wd_906, hts _ sl_Model_leads⟩ (im_preV im_NW_ok hK hN hH (ci := 9) rfl rfl h4 _) rfl rfl hl.1 rfl (lv_room (Nat.le_of_ble_eq_true rfl)) d_Model_maximise_45 ⟨Nat.le_of_ble_eq_true rfl, Nat.le_of_ble_eq_true rfl⟩) hH (fun H locs hH => ?_)
      refine lv_goto (tgt := 52) hx hb d_Model_maximise_48 (by decide) ?_
      exact bk_Model_maximise_52 X x0 x1 x2 x3 v7 w5 hsh H locs ls hH (lv_sub hl [0, 1, 2, 3] rfl)
def sh_Model_maximise (F : Nat) (x0 : Nat) (x1 : Int32) (x2 : Int32) (x3 : Int32) (w : im_W) : Option (im_W) :=
  (im_pV w 9 x0 28 (.int x1)).bind fun w1 => (im_pV w1 9 x0 29 (.int x2)).bind fun w3 => (im_pV w3 9 x0 30 (.int x3)).bind fun w5 => (if x2 ≤ 0 then sh_Model_maximise_32 F x0 x1 x2 x3 w5 else (if x3 ≤ 0 then sh_Model_maximise_32 F x0 x1 x2 x3 w5 else (im_is w5 9 x0).bind fun u7 => im_b2 (sh_Model_und F x0 w5) fun v13 w11 => (if x1 = v13 then sh_Model_maximise_32 F x0 x1 x2 x3 w11 else some w11)))
set_option maxHeartbeats 4000000 in
set_option maxRecDepth 100000 in
theorem met_Model_maximise {F : Nat} {x0 : Nat} {x1 : Int32} {x2 : Int32} {x3 : Int32} {w : im_W} {r : im_W} (hsh : sh_Model_maximise F x0 x1 x2 x3 w = some r) : Met l y_Model_maximise (Cond.code y_Model_maximise c_Model_maximise 5 none :: im_T) (im_rm 1 25) (im_Pre D vwCl tA lo im_NW [.ref (lo + x0), .int x1, .int x2, .int x3] w) (im_Post D vwCl tA lo none r) 0 0 (fun q => lo ≤ q) := by
  refine im_ofW (cc := c_Model_maximise) (nL := 5) (ret := none) (by decide) (Nat.le_of_ble_eq_true rfl) ?_
  intro p e s m args below meth c X H locs ls hH hl
  obtain ⟨hx, hb, hr, hts, hown, hlk, hml, hK, hN⟩ := id X
  have hl : lv_has ls 5 [(0, .ref (lo + x0)), (1, .int x1), (2, .int x2), (3, .int x3)] := hl
  unfold sh_Model_maximise at hsh
  refine lv_aload_n hx hb d_Model_maximise_0 rfl (lv_at hl 0 rfl) ?_
  refine lv_iload_n hx hb d_Model_maximise_1 rfl (lv_at hl 1 rfl) ?_
  obtain ⟨w1, h2, hsh⟩ := im_bd hsh
  refine im_put (v := .int x1) hx hb hts inC_Model tyC_Model tyC_Model_ok nmC_Model hown hK hH (ci := 9) rfl 28 (by decide) (hts _ wd_659) rfl rfl rfl rfl h2 d_Model_maximise_2 (fun H locs hH => ?_)
  refine lv_aload_n hx hb d_Model_maximise_5 rfl (lv_at hl 0 rfl) ?_
  refine lv_iload_n hx hb d_Model_maximise_6 rfl (lv_at hl 2 rfl) ?_
  obtain ⟨w3, h4, hsh⟩ := im_bd hsh
  refine im_put (v := .int x2) hx hb hts inC_Model tyC_Model tyC_Model_ok nmC_Model hown hK hH (ci := 9) rfl 29 (by decide) (hts _ wd_660) rfl rfl rfl rfl h4 d_Model_maximise_7 (fun H locs hH => ?_)
  refine lv_aload_n hx hb d_Model_maximise_10 rfl (lv_at hl 0 rfl) ?_
  refine lv_iload_n hx hb d_Model_maximise_11 rfl (lv_at hl 3 rfl) ?_
  obtain ⟨w5, h6, hsh⟩ := im_bd hsh
  refine im_put (v := .int x3) hx hb hts inC_Model tyC_Model tyC_Model_ok nmC_Model hown hK hH (ci := 9) rfl 30 (by decide) (hts _ wd_661) rfl rfl rfl rfl h6 d_Model_maximise_12 (fun H locs hH => ?_)
  refine lv_iload_n hx hb d_Model_maximise_15 rfl (lv_at hl 2 rfl) ?_
  refine lv_if_le (tgt := 32) hx hb d_Model_maximise_16 (by decide) (fun cc => ?_) (fun cc => ?_)
  · have hsh := im_it hsh cc
    exact bk_Model_maximise_32 X x0 x1 x2 x3 w5 hsh H locs ls hH (lv_sub hl [0, 1, 2, 3] rfl)
  · have hsh := im_if hsh cc
    refine lv_iload_n hx hb d_Model_maximise_19 rfl (lv_at hl 3 rfl) ?_
    refine lv_if_le (tgt := 32) hx hb d_Model_maximise_20 (by decide) (fun cc => ?_) (fun cc => ?_)
    · have hsh := im_it hsh cc
      exact bk_Model_maximise_32 X x0 x1 x2 x3 w5 hsh H locs ls hH (lv_sub hl [0, 1, 2, 3] rfl)
    · have hsh := im_if hsh cc
      refine lv_iload_n hx hb d_Model_maximise_23 rfl (lv_at hl 1 rfl) ?_
      refine lv_aload_n hx hb d_Model_maximise_24 rfl (lv_at hl 0 rfl) ?_
      obtain ⟨u7, h8, hsh⟩ := im_bd hsh
      obtain ⟨g9, h10⟩ := im_is_s h8
      obtain ⟨v13, w11, h12, hsh⟩ := im_bd2 hsh
      refine im_afterI (va_runV (As := []) (rest := [.int x1]) (C := RC_Model) ⟨hx, hb, hml, hown, hts⟩ (met_Model_und h12) ⟨(callB_of 0 hts (im_good wd_923) rfl rfl rfl (hts _ wd_10) (hts _ wd_920) (by decide +kernel) ⟨Nat.le_of_ble_eq_true rfl, Nat.le_of_ble_eq_true rfl⟩), hts _ wd_922, hts _ sl_Model_und⟩ (im_preV im_NW_ok hK hN hH (ci := 9) rfl rfl h10 _) rfl rfl hl.1 rfl (lv_room (Nat.le_of_ble_eq_true rfl)) d_Model_maximise_25 ⟨Nat.le_of_ble_eq_true rfl, Nat.le_of_ble_eq_true rfl⟩) hH (fun H locs hH => ?_)
      refine lv_icmp_eq (tgt := 32) hx hb d_Model_maximise_28 (by decide) (fun cc => ?_) (fun cc => ?_)
      · have hsh := im_it hsh cc
        exact bk_Model_maximise_32 X x0 x1 x2 x3 w11 hsh H locs ls hH (lv_sub hl [0, 1, 2, 3] rfl)
      · have hsh := im_if hsh cc
        obtain rfl := Option.some.inj hsh
        exact im_vret hx hb hr hlk hH d_Model_maximise_31
theorem wd_916 : (Jvm.Cond.methodLink "LanguageTagsModel" (244 : Nat) ({ cls := "LanguageTagsModel", name := "maximise", desc := "(III)V" } : Jvm.MethodName)) ∈ im_T := im_memT (i := 916) (by decide +kernel) (by decide +kernel)
theorem wd_918 : (Jvm.Cond.instanceMethod ({ cls := "LanguageTagsModel", name := "maximise", desc := "(III)V" } : Jvm.MethodName)) ∈ im_T := im_memT (i := 918) (by decide +kernel) (by decide +kernel)
theorem wd_919 : (Jvm.Cond.code ({ cls := "LanguageTagsModel", name := "maximise", desc := "(III)V" } : Jvm.MethodName) prog_12_method_39_code (5 : Nat) (Option.none : Option Jvm.ClassFile.FieldType)) ∈ im_T := im_memT (i := 919) (by decide +kernel) (by decide +kernel)
theorem d_Model_gives_0 : decode c_Model_gives 0 = .ok (.aload_n 0, 1) := by decide +kernel
theorem d_Model_gives_1 : decode c_Model_gives 1 = .ok (.iload_n 1, 1) := by decide +kernel
theorem d_Model_gives_2 : decode c_Model_gives 2 = .ok (.iload_n 2, 1) := by decide +kernel
theorem d_Model_gives_3 : decode c_Model_gives 3 = .ok (.iload_n 3, 1) := by decide +kernel
theorem d_Model_gives_4 : decode c_Model_gives 4 = .ok (.invokevirtual 244, 3) := by decide +kernel
theorem d_Model_gives_7 : decode c_Model_gives 7 = .ok (.aload_n 0, 1) := by decide +kernel
theorem d_Model_gives_8 : decode c_Model_gives 8 = .ok (.getfield 232, 3) := by decide +kernel
theorem d_Model_gives_11 : decode c_Model_gives 11 = .ok (.iload 4, 2) := by decide +kernel
theorem d_Model_gives_13 : decode c_Model_gives 13 = .ok (.if_icmp .ne (25), 3) := by decide +kernel
theorem d_Model_gives_16 : decode c_Model_gives 16 = .ok (.aload_n 0, 1) := by decide +kernel
theorem d_Model_gives_17 : decode c_Model_gives 17 = .ok (.getfield 235, 3) := by decide +kernel
theorem d_Model_gives_20 : decode c_Model_gives 20 = .ok (.iload 5, 2) := by decide +kernel
theorem d_Model_gives_22 : decode c_Model_gives 22 = .ok (.if_icmp .ne (16), 3) := by decide +kernel
theorem d_Model_gives_25 : decode c_Model_gives 25 = .ok (.aload_n 0, 1) := by decide +kernel
theorem d_Model_gives_26 : decode c_Model_gives 26 = .ok (.getfield 238, 3) := by decide +kernel
theorem d_Model_gives_29 : decode c_Model_gives 29 = .ok (.iload 6, 2) := by decide +kernel
theorem d_Model_gives_31 : decode c_Model_gives 31 = .ok (.if_icmp .ne (7), 3) := by decide +kernel
theorem d_Model_gives_34 : decode c_Model_gives 34 = .ok (.iconst 1, 1) := by decide +kernel
theorem d_Model_gives_35 : decode c_Model_gives 35 = .ok (.goto (4), 3) := by decide +kernel
theorem d_Model_gives_38 : decode c_Model_gives 38 = .ok (.iconst 0, 1) := by decide +kernel
theorem d_Model_gives_39 : decode c_Model_gives 39 = .ok (.ireturn, 1) := by decide +kernel
def sh_Model_gives_39 (F : Nat) (y0 : Int32) (w : im_W) : Option (Int32 × im_W) :=
  im_rz y0 w
set_option maxHeartbeats 4000000 in
set_option maxRecDepth 100000 in
theorem bk_Model_gives_39 {F : Nat} {r : Int32 × im_W} (X : im_X D vwCl tA lo im_NW c_Model_gives 7 (some .boolean) RC_Model im_T p s m args meth c) (y0 : Int32) (w : im_W) (hsh : sh_Model_gives_39 F y0 w = some r) : im_WW D vwCl tA lo 7 p l e (im_rm 2 49) s m args below meth c 0 0 (MQ below (im_Post D vwCl tA lo (some (.int r.1)) r.2) args s 0 0 (fun q => lo ≤ q)) 39 [] [.int y0] w := by
  obtain ⟨hx, hb, hr, hts, hown, hlk, hml, hK, hN⟩ := id X
  intro H locs ls hH hl
  unfold sh_Model_gives_39 at hsh
  obtain ⟨rfl, hn⟩ := im_rz_s hsh
  exact im_zret hx hb hr hlk hn hH d_Model_gives_39
def sh_Model_gives_38 (F : Nat)  (w : im_W) : Option (Int32 × im_W) :=
  sh_Model_gives_39 F (0 : Int32) w
set_option maxHeartbeats 4000000 in
set_option maxRecDepth 100000 in
theorem bk_Model_gives_38 {F : Nat} {r : Int32 × im_W} (X : im_X D vwCl tA lo im_NW c_Model_gives 7 (some .boolean) RC_Model im_T p s m args meth c)  (w : im_W) (hsh : sh_Model_gives_38 F w = some r) : im_WW D vwCl tA lo 7 p l e (im_rm 2 49) s m args below meth c 0 0 (MQ below (im_Post D vwCl tA lo (some (.int r.1)) r.2) args s 0 0 (fun q => lo ≤ q)) 38 [] [] w := by
  obtain ⟨hx, hb, hr, hts, hown, hlk, hml, hK, hN⟩ := id X
  intro H locs ls hH hl
  unfold sh_Model_gives_38 at hsh
  refine lv_iconst (v := 0) hx hb d_Model_gives_38 (by decide) ?_
  exact bk_Model_gives_39 X (0 : Int32) w hsh H locs ls hH (lv_sub hl [] rfl)
def sh_Model_gives (F : Nat) (x0 : Nat) (x1 : Int32) (x2 : Int32) (x3 : Int32) (x4 : Int32) (x5 : Int32) (x6 : Int32) (w : im_W) : Option (Int32 × im_W) :=
  (im_is w 9 x0).bind fun u1 => (sh_Model_maximise F x0 x1 x2 x3 w).bind fun w5 => (im_gI w5 9 x0 28).bind fun f7 => (if f7 = x4 then (im_gI w5 9 x0 29).bind fun f9 => (if f9 = x5 then (im_gI w5 9 x0 30).bind fun f11 => (if f11 = x6 then sh_Model_gives_39 F (1 : Int32) w5 else sh_Model_gives_38 F w5) else sh_Model_gives_38 F w5) else sh_Model_gives_38 F w5)
set_option maxHeartbeats 4000000 in
set_option maxRecDepth 100000 in
theorem met_Model_gives {F : Nat} {x0 : Nat} {x1 : Int32} {x2 : Int32} {x3 : Int32} {x4 : Int32} {x5 : Int32} {x6 : Int32} {w : im_W} {r : Int32 × im_W} (hsh : sh_Model_gives F x0 x1 x2 x3 x4 x5 x6 w = some r) : Met l y_Model_gives (Cond.code y_Model_gives c_Model_gives 7 (some .boolean) :: im_T) (im_rm 2 49) (im_Pre D vwCl tA lo im_NW [.ref (lo + x0), .int x1, .int x2, .int x3, .int x4, .int x5, .int x6] w) (im_Post D vwCl tA lo (some (.int r.1)) r.2) 0 0 (fun q => lo ≤ q) := by
  refine im_ofW (cc := c_Model_gives) (nL := 7) (ret := (some .boolean)) (by decide) (Nat.le_of_ble_eq_true rfl) ?_
  intro p e s m args below meth c X H locs ls hH hl
  obtain ⟨hx, hb, hr, hts, hown, hlk, hml, hK, hN⟩ := id X
  have hl : lv_has ls 7 [(0, .ref (lo + x0)), (1, .int x1), (2, .int x2), (3, .int x3), (4, .int x4), (5, .int x5), (6, .int x6)] := hl
  unfold sh_Model_gives at hsh
  refine lv_aload_n hx hb d_Model_gives_0 rfl (lv_at hl 0 rfl) ?_
  refine lv_iload_n hx hb d_Model_gives_1 rfl (lv_at hl 1 rfl) ?_
  refine lv_iload_n hx hb d_Model_gives_2 rfl (lv_at hl 2 rfl) ?_
  refine lv_iload_n hx hb d_Model_gives_3 rfl (lv_at hl 3 rfl) ?_
  obtain ⟨u1, h2, hsh⟩ := im_bd hsh
  obtain ⟨g3, h4⟩ := im_is_s h2
  obtain ⟨w5, h6, hsh⟩ := im_bd hsh
  refine im_afterV (va_runV (As := [.int x1, .int x2, .int x3]) (rest := []) (C := RC_Model) ⟨hx, hb, hml, hown, hts⟩ (met_Model_maximise h6) ⟨(callB_of 3 hts (im_good wd_919) rfl rfl rfl (hts _ wd_10) (hts _ wd_916) (by decide +kernel) ⟨Nat.le_of_ble_eq_true rfl, Nat.le_of_ble_eq_true rfl⟩), hts _ wd_918, hts _ sl_Model_maximise⟩ (im_preV im_NW_ok hK hN hH (ci := 9) rfl rfl h4 _) rfl rfl hl.1 rfl (lv_room (Nat.le_of_ble_eq_true rfl)) d_Model_gives_4 ⟨Nat.le_of_ble_eq_true rfl, Nat.le_of_ble_eq_true rfl⟩) hH (fun H locs hH => ?_)
  refine lv_aload_n hx hb d_Model_gives_7 rfl (lv_at hl 0 rfl) ?_
  obtain ⟨f7, h8, hsh⟩ := im_bd hsh
  refine im_getI hx hb hts inC_Model hown hK hH (ci := 9) rfl 28 (by decide) (hts _ wd_659) rfl h8 d_Model_gives_8 ?_
  refine lv_iload hx hb d_Model_gives_11 (lv_at hl 4 rfl) ?_
  refine lv_icmp_ne (tgt := 38) hx hb d_Model_gives_13 (by decide) (fun cc => ?_) (fun cc => ?_)
  · have hsh := im_if hsh cc
    exact bk_Model_gives_38 X w5 hsh H locs ls hH (lv_sub hl [] rfl)
  · have hsh := im_it hsh cc
    refine lv_aload_n hx hb d_Model_gives_16 rfl (lv_at hl 0 rfl) ?_
    obtain ⟨f9, h10, hsh⟩ := im_bd hsh
    refine im_getI hx hb hts inC_Model hown hK hH (ci := 9) rfl 29 (by decide) (hts _ wd_660) rfl h10 d_Model_gives_17 ?_
    refine lv_iload hx hb d_Model_gives_20 (lv_at hl 5 rfl) ?_
    refine lv_icmp_ne (tgt := 38) hx hb d_Model_gives_22 (by decide) (fun cc => ?_) (fun cc => ?_)
    · have hsh := im_if hsh cc
      exact bk_Model_gives_38 X w5 hsh H locs ls hH (lv_sub hl [] rfl)
    · have hsh := im_it hsh cc
      refine lv_aload_n hx hb d_Model_gives_25 rfl (lv_at hl 0 rfl) ?_
      obtain ⟨f11, h12, hsh⟩ := im_bd hsh
      refine im_getI hx hb hts inC_Model hown hK hH (ci := 9) rfl 30 (by decide) (hts _ wd_661) rfl h12 d_Model_gives_26 ?_
      refine lv_iload hx hb d_Model_gives_29 (lv_at hl 6 rfl) ?_
      refine lv_icmp_ne (tgt := 38) hx hb d_Model_gives_31 (by decide) (fun cc => ?_) (fun cc => ?_)
      · have hsh := im_if hsh cc
        exact bk_Model_gives_38 X w5 hsh H locs ls hH (lv_sub hl [] rfl)
      · have hsh := im_it hsh cc
        refine lv_iconst (v := 1) hx hb d_Model_gives_34 (by decide) ?_
        refine lv_goto (tgt := 39) hx hb d_Model_gives_35 (by decide) ?_
        exact bk_Model_gives_39 X (1 : Int32) w5 hsh H locs ls hH (lv_sub hl [] rfl)
theorem wd_928 : (Jvm.Cond.methodLink "LanguageTagsModel" (247 : Nat) ({ cls := "LanguageTagsModel", name := "gives", desc := "(IIIIII)Z" } : Jvm.MethodName)) ∈ im_T := im_memT (i := 928) (by decide +kernel) (by decide +kernel)
theorem wd_930 : (Jvm.Cond.instanceMethod ({ cls := "LanguageTagsModel", name := "gives", desc := "(IIIIII)Z" } : Jvm.MethodName)) ∈ im_T := im_memT (i := 930) (by decide +kernel) (by decide +kernel)
theorem wd_931 : (Jvm.Cond.code ({ cls := "LanguageTagsModel", name := "gives", desc := "(IIIIII)Z" } : Jvm.MethodName) prog_12_method_40_code (7 : Nat) (Option.some Jvm.ClassFile.FieldType.boolean)) ∈ im_T := im_memT (i := 931) (by decide +kernel) (by decide +kernel)
theorem d_Model_putMinimised_0 : decode c_Model_putMinimised 0 = .ok (.aload_n 0, 1) := by decide +kernel
theorem d_Model_putMinimised_1 : decode c_Model_putMinimised 1 = .ok (.aload_n 0, 1) := by decide +kernel
theorem d_Model_putMinimised_2 : decode c_Model_putMinimised 2 = .ok (.getfield 69, 3) := by decide +kernel
theorem d_Model_putMinimised_5 : decode c_Model_putMinimised 5 = .ok (.iload_n 1, 1) := by decide +kernel
theorem d_Model_putMinimised_6 : decode c_Model_putMinimised 6 = .ok (.iaload, 1) := by decide +kernel
theorem d_Model_putMinimised_7 : decode c_Model_putMinimised 7 = .ok (.aload_n 0, 1) := by decide +kernel
theorem d_Model_putMinimised_8 : decode c_Model_putMinimised 8 = .ok (.getfield 72, 3) := by decide +kernel
theorem d_Model_putMinimised_11 : decode c_Model_putMinimised 11 = .ok (.iload_n 1, 1) := by decide +kernel
theorem d_Model_putMinimised_12 : decode c_Model_putMinimised 12 = .ok (.iaload, 1) := by decide +kernel
theorem d_Model_putMinimised_13 : decode c_Model_putMinimised 13 = .ok (.aload_n 0, 1) := by decide +kernel
theorem d_Model_putMinimised_14 : decode c_Model_putMinimised 14 = .ok (.getfield 75, 3) := by decide +kernel
theorem d_Model_putMinimised_17 : decode c_Model_putMinimised 17 = .ok (.iload_n 1, 1) := by decide +kernel
theorem d_Model_putMinimised_18 : decode c_Model_putMinimised 18 = .ok (.iaload, 1) := by decide +kernel
theorem d_Model_putMinimised_19 : decode c_Model_putMinimised 19 = .ok (.invokevirtual 244, 3) := by decide +kernel
theorem d_Model_putMinimised_22 : decode c_Model_putMinimised 22 = .ok (.aload_n 0, 1) := by decide +kernel
theorem d_Model_putMinimised_23 : decode c_Model_putMinimised 23 = .ok (.getfield 232, 3) := by decide +kernel
theorem d_Model_putMinimised_26 : decode c_Model_putMinimised 26 = .ok (.istore_n 2, 1) := by decide +kernel
theorem d_Model_putMinimised_27 : decode c_Model_putMinimised 27 = .ok (.aload_n 0, 1) := by decide +kernel
theorem d_Model_putMinimised_28 : decode c_Model_putMinimised 28 = .ok (.getfield 235, 3) := by decide +kernel
theorem d_Model_putMinimised_31 : decode c_Model_putMinimised 31 = .ok (.istore_n 3, 1) := by decide +kernel
theorem d_Model_putMinimised_32 : decode c_Model_putMinimised 32 = .ok (.aload_n 0, 1) := by decide +kernel
theorem d_Model_putMinimised_33 : decode c_Model_putMinimised 33 = .ok (.getfield 238, 3) := by decide +kernel
theorem d_Model_putMinimised_36 : decode c_Model_putMinimised 36 = .ok (.istore 4, 2) := by decide +kernel
theorem d_Model_putMinimised_38 : decode c_Model_putMinimised 38 = .ok (.aload_n 0, 1) := by decide +kernel
theorem d_Model_putMinimised_39 : decode c_Model_putMinimised 39 = .ok (.iload_n 2, 1) := by decide +kernel
theorem d_Model_putMinimised_40 : decode c_Model_putMinimised 40 = .ok (.iconst 0, 1) := by decide +kernel
theorem d_Model_putMinimised_41 : decode c_Model_putMinimised 41 = .ok (.iconst 0, 1) := by decide +kernel
theorem d_Model_putMinimised_42 : decode c_Model_putMinimised 42 = .ok (.iload_n 2, 1) := by decide +kernel
theorem d_Model_putMinimised_43 : decode c_Model_putMinimised 43 = .ok (.iload_n 3, 1) := by decide +kernel
theorem d_Model_putMinimised_44 : decode c_Model_putMinimised 44 = .ok (.iload 4, 2) := by decide +kernel
theorem d_Model_putMinimised_46 : decode c_Model_putMinimised 46 = .ok (.invokevirtual 247, 3) := by decide +kernel
theorem d_Model_putMinimised_49 : decode c_Model_putMinimised 49 = .ok (.ifCond .eq (13), 3) := by decide +kernel
theorem d_Model_putMinimised_52 : decode c_Model_putMinimised 52 = .ok (.aload_n 0, 1) := by decide +kernel
theorem d_Model_putMinimised_53 : decode c_Model_putMinimised 53 = .ok (.iload_n 2, 1) := by decide +kernel
theorem d_Model_putMinimised_54 : decode c_Model_putMinimised 54 = .ok (.iconst 0, 1) := by decide +kernel
theorem d_Model_putMinimised_55 : decode c_Model_putMinimised 55 = .ok (.iconst 0, 1) := by decide +kernel
theorem d_Model_putMinimised_56 : decode c_Model_putMinimised 56 = .ok (.invokevirtual 195, 3) := by decide +kernel
theorem d_Model_putMinimised_59 : decode c_Model_putMinimised 59 = .ok (.goto (70), 3) := by decide +kernel
theorem d_Model_putMinimised_62 : decode c_Model_putMinimised 62 = .ok (.iload 4, 2) := by decide +kernel
theorem d_Model_putMinimised_64 : decode c_Model_putMinimised 64 = .ok (.ifCond .le (29), 3) := by decide +kernel
theorem d_Model_putMinimised_67 : decode c_Model_putMinimised 67 = .ok (.aload_n 0, 1) := by decide +kernel
theorem d_Model_putMinimised_68 : decode c_Model_putMinimised 68 = .ok (.iload_n 2, 1) := by decide +kernel
theorem d_Model_putMinimised_69 : decode c_Model_putMinimised 69 = .ok (.iconst 0, 1) := by decide +kernel
theorem d_Model_putMinimised_70 : decode c_Model_putMinimised 70 = .ok (.iload 4, 2) := by decide +kernel
theorem d_Model_putMinimised_72 : decode c_Model_putMinimised 72 = .ok (.iload_n 2, 1) := by decide +kernel
theorem d_Model_putMinimised_73 : decode c_Model_putMinimised 73 = .ok (.iload_n 3, 1) := by decide +kernel
theorem d_Model_putMinimised_74 : decode c_Model_putMinimised 74 = .ok (.iload 4, 2) := by decide +kernel
theorem d_Model_putMinimised_76 : decode c_Model_putMinimised 76 = .ok (.invokevirtual 247, 3) := by decide +kernel
theorem d_Model_putMinimised_79 : decode c_Model_putMinimised 79 = .ok (.ifCond .eq (14), 3) := by decide +kernel
theorem d_Model_putMinimised_82 : decode c_Model_putMinimised 82 = .ok (.aload_n 0, 1) := by decide +kernel
theorem d_Model_putMinimised_83 : decode c_Model_putMinimised 83 = .ok (.iload_n 2, 1) := by decide +kernel
theorem d_Model_putMinimised_84 : decode c_Model_putMinimised 84 = .ok (.iconst 0, 1) := by decide +kernel
theorem d_Model_putMinimised_85 : decode c_Model_putMinimised 85 = .ok (.iload 4, 2) := by decide +kernel
theorem d_Model_putMinimised_87 : decode c_Model_putMinimised 87 = .ok (.invokevirtual 195, 3) := by decide +kernel
theorem d_Model_putMinimised_90 : decode c_Model_putMinimised 90 = .ok (.goto (39), 3) := by decide +kernel
theorem d_Model_putMinimised_93 : decode c_Model_putMinimised 93 = .ok (.iload_n 3, 1) := by decide +kernel
theorem d_Model_putMinimised_94 : decode c_Model_putMinimised 94 = .ok (.ifCond .le (27), 3) := by decide +kernel
theorem d_Model_putMinimised_97 : decode c_Model_putMinimised 97 = .ok (.aload_n 0, 1) := by decide +kernel
theorem d_Model_putMinimised_98 : decode c_Model_putMinimised 98 = .ok (.iload_n 2, 1) := by decide +kernel
theorem d_Model_putMinimised_99 : decode c_Model_putMinimised 99 = .ok (.iload_n 3, 1) := by decide +kernel
theorem d_Model_putMinimised_100 : decode c_Model_putMinimised 100 = .ok (.iconst 0, 1) := by decide +kernel
theorem d_Model_putMinimised_101 : decode c_Model_putMinimised 101 = .ok (.iload_n 2, 1) := by decide +kernel
theorem d_Model_putMinimised_102 : decode c_Model_putMinimised 102 = .ok (.iload_n 3, 1) := by decide +kernel
theorem d_Model_putMinimised_103 : decode c_Model_putMinimised 103 = .ok (.iload 4, 2) := by decide +kernel
theorem d_Model_putMinimised_105 : decode c_Model_putMinimised 105 = .ok (.invokevirtual 247, 3) := by decide +kernel
theorem d_Model_putMinimised_108 : decode c_Model_putMinimised 108 = .ok (.ifCond .eq (13), 3) := by decide +kernel
theorem d_Model_putMinimised_111 : decode c_Model_putMinimised 111 = .ok (.aload_n 0, 1) := by decide +kernel
theorem d_Model_putMinimised_112 : decode c_Model_putMinimised 112 = .ok (.iload_n 2, 1) := by decide +kernel
theorem d_Model_putMinimised_113 : decode c_Model_putMinimised 113 = .ok (.iload_n 3, 1) := by decide +kernel
theorem d_Model_putMinimised_114 : decode c_Model_putMinimised 114 = .ok (.iconst 0, 1) := by decide +kernel
theorem d_Model_putMinimised_115 : decode c_Model_putMinimised 115 = .ok (.invokevirtual 195, 3) := by decide +kernel
theorem d_Model_putMinimised_118 : decode c_Model_putMinimised 118 = .ok (.goto (11), 3) := by decide +kernel
theorem d_Model_putMinimised_121 : decode c_Model_putMinimised 121 = .ok (.aload_n 0, 1) := by decide +kernel
theorem d_Model_putMinimised_122 : decode c_Model_putMinimised 122 = .ok (.iload_n 2, 1) := by decide +kernel
theorem d_Model_putMinimised_123 : decode c_Model_putMinimised 123 = .ok (.iload_n 3, 1) := by decide +kernel
theorem d_Model_putMinimised_124 : decode c_Model_putMinimised 124 = .ok (.iload 4, 2) := by decide +kernel
theorem d_Model_putMinimised_126 : decode c_Model_putMinimised 126 = .ok (.invokevirtual 195, 3) := by decide +kernel
theorem d_Model_putMinimised_129 : decode c_Model_putMinimised 129 = .ok (.return_, 1) := by decide +kernel
def sh_Model_putMinimised_129 (F : Nat)  (w : im_W) : Option (im_W) :=
  some w
set_option maxHeartbeats 4000000 in
set_option maxRecDepth 100000 in
theorem bk_Model_putMinimised_129 {F : Nat} {r : im_W} (X : im_X D vwCl tA lo im_NW c_Model_putMinimised 5 none RC_Model im_T p s m args meth c)  (w : im_W) (hsh : sh_Model_putMinimised_129 F w = some r) : im_WW D vwCl tA lo 5 p l e (im_rm 3 75) s m args below meth c 0 0 (MQ below (im_Post D vwCl tA lo none r) args s 0 0 (fun q => lo ≤ q)) 129 [] [] w := by
  obtain ⟨hx, hb, hr, hts, hown, hlk, hml, hK, hN⟩ := id X
  intro H locs ls hH hl
  unfold sh_Model_putMinimised_129 at hsh
  obtain rfl := Option.some.inj hsh
  exact im_vret hx hb hr hlk hH d_Model_putMinimised_129
def sh_Model_putMinimised_121 (F : Nat) (x0 : Nat) (x2 : Int32) (x3 : Int32) (x4 : Int32) (w : im_W) : Option (im_W) :=
  (im_is w 9 x0).bind fun u1 => (sh_Model_putShort F x0 x2 x3 x4 w).bind fun w5 => sh_Model_putMinimised_129 F w5
set_option maxHeartbeats 4000000 in
set_option maxRecDepth 100000 in
theorem bk_Model_putMinimised_121 {F : Nat} {r : im_W} (X : im_X D vwCl tA lo im_NW c_Model_putMinimised 5 none RC_Model im_T p s m args meth c) (x0 : Nat) (x2 : Int32) (x3 : Int32) (x4 : Int32) (w : im_W) (hsh : sh_Model_putMinimised_121 F x0 x2 x3 x4 w = some r) : im_WW D vwCl tA lo 5 p l e (im_rm 3 75) s m args below meth c 0 0 (MQ below (im_Post D vwCl tA lo none r) args s 0 0 (fun q => lo ≤ q)) 121 [(0, .ref (lo + x0)), (2, .int x2), (3, .int x3), (4, .int x4)] [] w := by
  obtain ⟨hx, hb, hr, hts, hown, hlk, hml, hK, hN⟩ := id X
  intro H locs ls hH hl
  unfold sh_Model_putMinimised_121 at hsh
  refine lv_aload_n hx hb d_Model_putMinimised_121 rfl (lv_at hl 0 rfl) ?_
  refine lv_iload_n hx hb d_Model_putMinimised_122 rfl (lv_at hl 1 rfl) ?_
  refine lv_iload_n hx hb d_Model_putMinimised_123 rfl (lv_at hl 2 rfl) ?_
  refine lv_iload hx hb d_Model_putMinimised_124 (lv_at hl 3 rfl) ?_
  obtain ⟨u1, h2, hsh⟩ := im_bd hsh
  obtain ⟨g3, h4⟩ := im_is_s h2
  obtain ⟨w5, h6, hsh⟩ := im_bd hsh
  refine im_afterV (va_runV (As := [.int x2, .int x3, .int x4]) (rest := []) (C := RC_Model) ⟨hx, hb, hml, hown, hts⟩ (met_Model_putShort h6) ⟨(callB_of 3 hts (im_good wd_863) rfl rfl rfl (hts _ wd_10) (hts _ wd_860) (by decide +kernel) ⟨Nat.le_of_ble_eq_true rfl, Nat.le_of_ble_eq_true rfl⟩), hts _ wd_862, hts _ sl_Model_putShort⟩ (im_preV im_NW_ok hK hN hH (ci := 9) rfl rfl h4 _) rfl rfl hl.1 rfl (lv_room (Nat.le_of_ble_eq_true rfl)) d_Model_putMinimised_126 ⟨Nat.le_of_ble_eq_true rfl, Nat.le_of_ble_eq_true rfl⟩) hH (fun H locs hH => ?_)
  exact bk_Model_putMinimised_129 X w5 hsh H locs ls hH (lv_sub hl [] rfl)
def sh_Model_putMinimised_93 (F : Nat) (x0 : Nat) (x2 : Int32) (x3 : Int32) (x4 : Int32) (w : im_W) : Option (im_W) :=
  (if x3 ≤ 0 then sh_Model_putMinimised_121 F x0 x2 x3 x4 w else (im_is w 9 x0).bind fun u1 => im_b2 (sh_Model_gives F x0 x2 x3 (0 : Int32) x2 x3 x4 w) fun v7 w5 => (if v7 = 0 then sh_Model_putMinimised_121 F x0 x2 x3 x4 w5 else (im_is w5 9 x0).bind fun u8 => (sh_Model_putShort F x0 x2 x3 (0 : Int32) w5).bind fun w12 => sh_Model_putMinimised_129 F w12))
set_option maxHeartbeats 4000000 in
set_option maxRecDepth 100000 in
theorem bk_Model_putMinimised_93 {F : Nat} {r : im_W} (X : im_X D vwCl tA lo im_NW c_Model_putMinimised 5 none RC_Model im_T p s m args meth c) (x0 : Nat) (x2 : Int32) (x3 : Int32) (x4 : Int32) (w : im_W) (hsh : sh_Model_putMinimised_93 F x0 x2 x3 x4 w = some r) : im_WW D vwCl tA lo 5 p l e (im_rm 3 75) s m args below meth c 0 0 (MQ below (im_Post D vwCl tA lo none r) args s 0 0 (fun q => lo ≤ q)) 93 [(0, .ref (lo + x0)), (2, .int x2), (3, .int x3), (4, .int x4)] [] w := by
  obtain ⟨hx, hb, hr, hts, hown, hlk, hml, hK, hN⟩ := id X
  intro H locs ls hH hl
  unfold sh_Model_putMinimised_93 at hsh
  refine lv_iload_n hx hb d_Model_putMinimised_93 rfl (lv_at hl 2 rfl) ?_
  refine lv_if_le (tgt := 121) hx hb d_Model_putMinimised_94 (by decide) (fun cc => ?_) (fun cc => ?_)
  · have hsh := im_it hsh cc
    exact bk_Model_putMinimised_121 X x0 x2 x3 x4 w hsh H locs ls hH (lv_sub hl [0, 1, 2, 3] rfl)
  · have hsh := im_if hsh cc
    refine lv_aload_n hx hb d_Model_putMinimised_97 rfl (lv_at hl 0 rfl) ?_
    refine lv_iload_n hx hb d_Model_putMinimised_98 rfl (lv_at hl 1 rfl) ?_
    refine lv_iload_n hx hb d_Model_putMinimised_99 rfl (lv_at hl 2 rfl) ?_
    refine lv_iconst (v := 0) hx hb d_Model_putMinimised_100 (by decide) ?_
    refine lv_iload_n hx hb d_Model_putMinimised_101 rfl (lv_at hl 1 rfl) ?_
    refine lv_iload_n hx hb d_Model_putMinimised_102 rfl (lv_at hl 2 rfl) ?_
    refine lv_iload hx hb d_Model_putMinimised_103 (lv_at hl 3 rfl) ?_
    obtain ⟨u1, h2, hsh⟩ := im_bd hsh
    obtain ⟨g3, h4⟩ := im_is_s h2
    obtain ⟨v7, w5, h6, hsh⟩ := im_bd2 hsh
    refine im_afterI (va_runV (As := [.int x2, .int x3, .int (0 : Int32), .int x2, .int x3, .int x4]) (rest := []) (C := RC_Model) ⟨hx, hb, hml, hown, hts⟩ (met_Model_gives h6) ⟨(callB_of 6 hts (im_good wd_931) rfl rfl rfl (hts _ wd_10) (hts _ wd_928) (by decide +kernel) ⟨Nat.le_of_ble_eq_true rfl, Nat.le_of_ble_eq_true rfl⟩), hts _ wd_930, hts _ sl_Model_gives⟩ (im_preV im_NW_ok hK hN hH (ci := 9) rfl rfl h4 _) rfl rfl hl.1 rfl (lv_room (Nat.le_of_ble_eq_true rfl)) d_Model_putMinimised_105 ⟨Nat.le_of_ble_eq_true rfl, Nat.le_of_ble_eq_true rfl⟩) hH (fun H locs hH => ?_)
    refine lv_if_eq (tgt := 121) hx hb d_Model_putMinimised_108 (by decide) (fun cc => ?_) (fun cc => ?_)
    · have hsh := im_it hsh cc
      exact bk_Model_putMinimised_121 X x0 x2 x3 x4 w5 hsh H locs ls hH (lv_sub hl [0, 1, 2, 3] rfl)
    · have hsh := im_if hsh cc
      refine lv_aload_n hx hb d_Model_putMinimised_111 rfl (lv_at hl 0 rfl) ?_
      refine lv_iload_n hx hb d_Model_putMinimised_112 rfl (lv_at hl 1 rfl) ?_
      refine lv_iload_n hx hb d_Model_putMinimised_113 rfl (lv_at hl 2 rfl) ?_
      refine lv_iconst (v := 0) hx hb d_Model_putMinimised_114 (by decide) ?_
      obtain ⟨u8, h9, hsh⟩ := im_bd hsh
      obtain ⟨g10, h11⟩ := im_is_s h9
      obtain ⟨w12, h13, hsh⟩ := im_bd hsh
      refine im_afterV (va_runV (As := [.int x2, .int x3, .int (0 : Int32)]) (rest := []) (C := RC_Model) ⟨hx, hb, hml, hown, hts⟩ (met_Model_putShort h13) ⟨(callB_of 3 hts (im_good wd_863) rfl rfl rfl (hts _ wd_10) (hts _ wd_860) (by decide +kernel) ⟨Nat.le_of_ble_eq_true rfl, Nat.le_of_ble_eq_true rfl⟩), hts _ wd_862, hts _ sl_Model_putShort⟩ (im_preV im_NW_ok hK hN hH (ci := 9) rfl rfl h11 _) rfl rfl hl.1 rfl (lv_room (Nat.le_of_ble_eq_true rfl)) d_Model_putMinimised_115 ⟨Nat.le_of_ble_eq_true rfl, Nat.le_of_ble_eq_true rfl⟩) hH (fun H locs hH => ?_)
      refine lv_goto (tgt := 129) hx hb d_Model_putMinimised_118 (by decide) ?_
      exact bk_Model_putMinimised_129 X w12 hsh H locs ls hH (lv_sub hl [] rfl)
def sh_Model_putMinimised (F : Nat) (x0 : Nat) (x1 : Int32) (w : im_W) : Option (im_W) :=
  (im_gR w 9 x0 34).bind fun f1 => (im_lI w 0 f1 x1).bind fun e3 => (im_gR w 9 x0 35).bind fun f5 => (im_lI w 0 f5 x1).bind fun e7 => (im_gR w 9 x0 36).bind fun f9 => (im_lI w 0 f9 x1).bind fun e11 => (im_is w 9 x0).bind fun u13 => (sh_Model_maximise F x0 e3 e7 e11 w).bind fun w17 => (im_gI w17 9 x0 28).bind fun f19 => (im_gI w17 9 x0 29).bind fun f21 => (im_gI w17 9 x0 30).bind fun f23 => (im_is w17 9 x0).bind fun u25 => im_b2 (sh_Model_gives F x0 f19 (0 : Int32) (0 : Int32) f19 f21 f23 w17) fun v31 w29 => (if v31 = 0 then (if f23 ≤ 0 then sh_Model_putMinimised_93 F x0 f19 f21 f23 w29 else (im_is w29 9 x0).bind fun u32 => im_b2 (sh_Model_gives F x0 f19 (0 : Int32) f23 f19 f21 f23 w29) fun v38 w36 => (if v38 = 0 then sh_Model_putMinimised_93 F x0 f19 f21 f23 w36 else (im_is w36 9 x0).bind fun u39 => (sh_Model_putShort F x0 f19 (0 : Int32) f23 w36).bind fun w43 => sh_Model_putMinimised_129 F w43)) else (im_is w29 9 x0).bind fun u45 => (sh_Model_putShort F x0 f19 (0 : Int32) (0 : Int32) w29).bind fun w49 => sh_Model_putMinimised_129 F w49)
set_option maxHeartbeats 4000000 in
set_option maxRecDepth 100000 in
theorem met_Model_putMinimised {F : Nat} {x0 : Nat} {x1 : Int32} {w : im_W} {r : im_W} (hsh : sh_Model_putMinimised F x0 x1 w = some r) : Met l y_Model_putMinimised (Cond.code y_Model_putMinimised c_Model_putMinimised 5 none :: im_T) (im_rm 3 75) (im_Pre D vwCl tA lo im_NW [.ref (lo + x0), .int x1] w) (im_Post D vwCl tA lo none r) 0 0 (fun q => lo ≤ q) := by
  refine im_ofW (cc := c_Model_putMinimised) (nL := 5) (ret := none) (by decide) (Nat.le_of_ble_eq_true rfl) ?_
  intro p e s m args below meth c X H locs ls hH hl
  obtain ⟨hx, hb, hr, hts, hown, hlk, hml, hK, hN⟩ := id X
  have hl : lv_has ls 5 [(0, .ref (lo + x0)), (1, .int x1)] := hl
  unfold sh_Model_putMinimised at hsh
  refine lv_aload_n hx hb d_Model_putMinimised_0 rfl (lv_at hl 0 rfl) ?_
  refine lv_aload_n hx hb d_Model_putMinimised_1 rfl (lv_at hl 0 rfl) ?_
  obtain ⟨f1, h2, hsh⟩ := im_bd hsh
  refine im_getR hx hb hts inC_Model hown hK hH (ci := 9) rfl 34 (by decide) (hts _ wd_665) rfl h2 d_Model_putMinimised_2 ?_
  refine lv_iload_n hx hb d_Model_putMinimised_5 rfl (lv_at hl 1 rfl) ?_
  obtain ⟨e3, h4, hsh⟩ := im_bd hsh
  refine im_iald hx hb hK hH h4 d_Model_putMinimised_6 ?_
  refine lv_aload_n hx hb d_Model_putMinimised_7 rfl (lv_at hl 0 rfl) ?_
  obtain ⟨f5, h6, hsh⟩ := im_bd hsh
  refine im_getR hx hb hts inC_Model hown hK hH (ci := 9) rfl 35 (by decide) (hts _ wd_666) rfl h6 d_Model_putMinimised_8 ?_
  refine lv_iload_n hx hb d_Model_putMinimised_11 rfl (lv_at hl 1 rfl) ?_
  obtain ⟨e7, h8, hsh⟩ := im_bd hsh
  refine im_iald hx hb hK hH h8 d_Model_putMinimised_12 ?_
  refine lv_aload_n hx hb d_Model_putMinimised_13 rfl (lv_at hl 0 rfl) ?_
  obtain ⟨f9, h10, hsh⟩ := im_bd hsh
  refine im_getR hx hb hts inC_Model hown hK hH (ci := 9) rfl 36 (by decide) (hts _ wd_667) rfl h10 d_Model_putMinimised_14 ?_
  refine lv_iload_n hx hb d_Model_putMinimised_17 rfl (lv_at hl 1 rfl) ?_
  obtain ⟨e11, h12, hsh⟩ := im_bd hsh
  refine im_iald hx hb hK hH h12 d_Model_putMinimised_18 ?_
  obtain ⟨u13, h14, hsh⟩ := im_bd hsh
  obtain ⟨g15, h16⟩ := im_is_s h14
  obtain ⟨w17, h18, hsh⟩ := im_bd hsh
  refine im_afterV (va_runV (As := [.int e3, .int e7, .int e11]) (rest := []) (C := RC_Model) ⟨hx, hb, hml, hown, hts⟩ (met_Model_maximise h18) ⟨(callB_of 3 hts (im_good wd_919) rfl rfl rfl (hts _ wd_10) (hts _ wd_916) (by decide +kernel) ⟨Nat.le_of_ble_eq_true rfl, Nat.le_of_ble_eq_true rfl⟩), hts _ wd_918, hts _ sl_Model_maximise⟩ (im_preV im_NW_ok hK hN hH (ci := 9) rfl rfl h16 _) rfl rfl hl.1 rfl (lv_room (Nat.le_of_ble_eq_true rfl)) d_Model_putMinimised_19 ⟨Nat.le_of_ble_eq_true rfl, Nat.le_of_ble_eq_true rfl⟩) hH (fun H locs hH => ?_)
  refine lv_aload_n hx hb d_Model_putMinimised_22 rfl (lv_at hl 0 rfl) ?_
  obtain ⟨f19, h20, hsh⟩ := im_bd hsh
  refine im_getI hx hb hts inC_Model hown hK hH (ci := 9) rfl 28 (by decide) (hts _ wd_659) rfl h20 d_Model_putMinimised_23 ?_
  refine lv_istore_n (lv' := [(2, .int f19), (0, .ref (lo + x0)), (1, .int x1)]) hx hb d_Model_putMinimised_26 rfl hl (by decide) rfl (fun ls hl => ?_)
  refine lv_aload_n hx hb d_Model_putMinimised_27 rfl (lv_at hl 1 rfl) ?_
  obtain ⟨f21, h22, hsh⟩ := im_bd hsh
  refine im_getI hx hb hts inC_Model hown hK hH (ci := 9) rfl 29 (by decide) (hts _ wd_660) rfl h22 d_Model_putMinimised_28 ?_
  refine lv_istore_n (lv' := [(3, .int f21), (2, .int f19), (0, .ref (lo + x0)), (1, .int x1)]) hx hb d_Model_putMinimised_31 rfl hl (by decide) rfl (fun ls hl => ?_)
  refine lv_aload_n hx hb d_Model_putMinimised_32 rfl (lv_at hl 2 rfl) ?_
  obtain ⟨f23, h24, hsh⟩ := im_bd hsh
  refine im_getI hx hb hts inC_Model hown hK hH (ci := 9) rfl 30 (by decide) (hts _ wd_661) rfl h24 d_Model_putMinimised_33 ?_
  refine lv_istore (lv' := [(4, .int f23), (3, .int f21), (2, .int f19), (0, .ref (lo + x0)), (1, .int x1)]) hx hb d_Model_putMinimised_36 hl (by decide) rfl (fun ls hl => ?_)
  refine lv_aload_n hx hb d_Model_putMinimised_38 rfl (lv_at hl 3 rfl) ?_
  refine lv_iload_n hx hb d_Model_putMinimised_39 rfl (lv_at hl 2 rfl) ?_
  refine lv_iconst (v := 0) hx hb d_Model_putMinimised_40 (by decide) ?_
  refine lv_iconst (v := 0) hx hb d_Model_putMinimised_41 (by decide) ?_
  refine lv_iload_n hx hb d_Model_putMinimised_42 rfl (lv_at hl 2 rfl) ?_
  refine lv_iload_n hx hb d_Model_putMinimised_43 rfl (lv_at hl 1 rfl) ?_
  refine lv_iload hx hb d_Model_putMinimised_44 (lv_at hl 0 rfl) ?_
  obtain ⟨u25, h26, hsh⟩ := im_bd hsh
  obtain ⟨g27, h28⟩ := im_is_s h26
  obtain ⟨v31, w29, h30, hsh⟩ := im_bd2 hsh
  refine im_afterI (va_runV (As := [.int f19, .int (0 : Int32), .int (0 : Int32), .int f19, .int f21, .int f23]) (rest := []) (C := RC_Model) ⟨hx, hb, hml, hown, hts⟩ (met_Model_gives h30) ⟨(callB_of 6 hts (im_good wd_931) rfl rfl rfl (hts _ wd_10) (hts _ wd_928) (by decide +kernel) ⟨Nat.le_of_ble_eq_true rfl, Nat.le_of_ble_eq_true rfl⟩), hts _ wd_930, hts _ sl_Model_gives⟩ (im_preV im_NW_ok hK hN hH (ci := 9) rfl rfl h28 _) rfl rfl hl.1 rfl (lv_room (Nat.le_of_ble_eq_true rfl)) d_Model_putMinimised_46 ⟨Nat.le_of_ble_eq_true rfl, Nat.le_of_ble_eq_true rfl⟩) hH (fun H locs hH => ?_)
  refine lv_if_eq (tgt := 62) hx hb d_Model_putMinimised_49 (by decide) (fun cc => ?_) (fun cc => ?_)
  · have hsh := im_it hsh cc
    refine lv_iload hx hb d_Model_putMinimised_62 (lv_at hl 0 rfl) ?_
    refine lv_if_le (tgt := 93) hx hb d_Model_putMinimised_64 (by decide) (fun cc => ?_) (fun cc => ?_)
    · have hsh := im_it hsh cc
      exact bk_Model_putMinimised_93 X x0 f19 f21 f23 w29 hsh H locs ls hH (lv_sub hl [3, 2, 1, 0] rfl)
    · have hsh := im_if hsh cc
      refine lv_aload_n hx hb d_Model_putMinimised_67 rfl (lv_at hl 3 rfl) ?_
      refine lv_iload_n hx hb d_Model_putMinimised_68 rfl (lv_at hl 2 rfl) ?_
      refine lv_iconst (v := 0) hx hb d_Model_putMinimised_69 (by decide) ?_
      refine lv_iload hx hb d_Model_putMinimised_70 (lv_at hl 0 rfl) ?_
      refine lv_iload_n hx hb d_Model_putMinimised_72 rfl (lv_at hl 2 rfl) ?_
      refine lv_iload_n hx hb d_Model_putMinimised_73 rfl (lv_at hl 1 rfl) ?_
      refine lv_iload hx hb d_Model_putMinimised_74 (lv_at hl 0 rfl) ?_
      obtain ⟨u32, h33, hsh⟩ := im_bd hsh
      obtain ⟨g34, h35⟩ := im_is_s h33
      obtain ⟨v38, w36, h37, hsh⟩ := im_bd2 hsh
      refine im_afterI (va_runV (As := [.int f19, .int (0 : Int32), .int f23, .int f19, .int f21, .int f23]) (rest := []) (C := RC_Model) ⟨hx, hb, hml, hown, hts⟩ (met_Model_gives h37) ⟨(callB_of 6 hts (im_good wd_931) rfl rfl rfl (hts _ wd_10) (hts _ wd_928) (by decide +kernel) ⟨Nat.le_of_ble_eq_true rfl, Nat.le_of_ble_eq_true rfl⟩), hts _ wd_930, hts _ sl_Model_gives⟩ (im_preV im_NW_ok hK hN hH (ci := 9) rfl rfl h35 _) rfl rfl hl.1 rfl (lv_room (Nat.le_of_ble_eq_true rfl)) d_Model_putMinimised_76 ⟨Nat.le_of_ble_eq_true rfl, Nat.le_of_ble_eq_true rfl⟩) hH (fun H locs hH => ?_)
      refine lv_if_eq (tgt := 93) hx hb d_Model_putMinimised_79 (by decide) (fun cc => ?_) (fun cc => ?_)
      · have hsh := im_it hsh cc
        exact bk_Model_putMinimised_93 X x0 f19 f21 f23 w36 hsh H locs ls hH (lv_sub hl [3, 2, 1, 0] rfl)
      · have hsh := im_if hsh cc
        refine lv_aload_n hx hb d_Model_putMinimised_82 rfl (lv_at hl 3 rfl) ?_
        refine lv_iload_n hx hb d_Model_putMinimised_83 rfl (lv_at hl 2 rfl) ?_
        refine lv_iconst (v := 0) hx hb d_Model_putMinimised_84 (by decide) ?_
        refine lv_iload hx hb d_Model_putMinimised_85 (lv_at hl 0 rfl) ?_
        obtain ⟨u39, h40, hsh⟩ := im_bd hsh
        obtain ⟨g41, h42⟩ := im_is_s h40
        obtain ⟨w43, h44, hsh⟩ := im_bd hsh
        refine im_afterV (va_runV (As := [.int f19, .int (0 : Int32), .int f23]) (rest := []) (C := RC_Model) ⟨hx, hb, hml, hown, hts⟩ (met_Model_putShort h44) ⟨(callB_of 3 hts (im_good wd_863) rfl rfl rfl (hts _ wd_10) (hts _ wd_860) (by decide +kernel) ⟨Nat.le_of_ble_eq_true rfl, Nat.le_of_ble_eq_true rfl⟩), hts _ wd_862, hts _ sl_Model_putShort⟩ (im_preV im_NW_ok hK hN hH (ci := 9) rfl rfl h42 _) rfl rfl hl.1 rfl (lv_room (Nat.le_of_ble_eq_true rfl)) d_Model_putMinimised_87 ⟨Nat.le_of_ble_eq_true rfl, Nat.le_of_ble_eq_true rfl⟩) hH (fun H locs hH => ?_)
        refine lv_goto (tgt := 129) hx hb d_Model_putMinimised_90 (by decide) ?_
        exact bk_Model_putMinimised_129 X w43 hsh H locs ls hH (lv_sub hl [] rfl)
  · have hsh := im_if hsh cc
    refine lv_aload_n hx hb d_Model_putMinimised_52 rfl (lv_at hl 3 rfl) ?_
    refine lv_iload_n hx hb d_Model_putMinimised_53 rfl (lv_at hl 2 rfl) ?_
    refine lv_iconst (v := 0) hx hb d_Model_putMinimised_54 (by decide) ?_
    refine lv_iconst (v := 0) hx hb d_Model_putMinimised_55 (by decide) ?_
    obtain ⟨u45, h46, hsh⟩ := im_bd hsh
    obtain ⟨g47, h48⟩ := im_is_s h46
    obtain ⟨w49, h50, hsh⟩ := im_bd hsh
    refine im_afterV (va_runV (As := [.int f19, .int (0 : Int32), .int (0 : Int32)]) (rest := []) (C := RC_Model) ⟨hx, hb, hml, hown, hts⟩ (met_Model_putShort h50) ⟨(callB_of 3 hts (im_good wd_863) rfl rfl rfl (hts _ wd_10) (hts _ wd_860) (by decide +kernel) ⟨Nat.le_of_ble_eq_true rfl, Nat.le_of_ble_eq_true rfl⟩), hts _ wd_862, hts _ sl_Model_putShort⟩ (im_preV im_NW_ok hK hN hH (ci := 9) rfl rfl h48 _) rfl rfl hl.1 rfl (lv_room (Nat.le_of_ble_eq_true rfl)) d_Model_putMinimised_56 ⟨Nat.le_of_ble_eq_true rfl, Nat.le_of_ble_eq_true rfl⟩) hH (fun H locs hH => ?_)
    refine lv_goto (tgt := 129) hx hb d_Model_putMinimised_59 (by decide) ?_
    exact bk_Model_putMinimised_129 X w49 hsh H locs ls hH (lv_sub hl [] rfl)
theorem d_Model_none_0 : decode c_Model_none 0 = .ok (.iload_n 1, 1) := by decide +kernel
theorem d_Model_none_1 : decode c_Model_none 1 = .ok (.ifCond .lt (11), 3) := by decide +kernel
theorem d_Model_none_4 : decode c_Model_none 4 = .ok (.iload_n 1, 1) := by decide +kernel
theorem d_Model_none_5 : decode c_Model_none 5 = .ok (.aload_n 0, 1) := by decide +kernel
theorem d_Model_none_6 : decode c_Model_none 6 = .ok (.getfield 208, 3) := by decide +kernel
theorem d_Model_none_9 : decode c_Model_none 9 = .ok (.if_icmp .lt (7), 3) := by decide +kernel
theorem d_Model_none_12 : decode c_Model_none 12 = .ok (.iconst 1, 1) := by decide +kernel
theorem d_Model_none_13 : decode c_Model_none 13 = .ok (.goto (4), 3) := by decide +kernel
theorem d_Model_none_16 : decode c_Model_none 16 = .ok (.iconst 0, 1) := by decide +kernel
theorem d_Model_none_17 : decode c_Model_none 17 = .ok (.ireturn, 1) := by decide +kernel
def sh_Model_none_17 (F : Nat) (y0 : Int32) (w : im_W) : Option (Int32 × im_W) :=
  im_rz y0 w
set_option maxHeartbeats 4000000 in
set_option maxRecDepth 100000 in
theorem bk_Model_none_17 {F : Nat} {r : Int32 × im_W} (X : im_X D vwCl tA lo im_NW c_Model_none 2 (some .boolean) RC_Model im_T p s m args meth c) (y0 : Int32) (w : im_W) (hsh : sh_Model_none_17 F y0 w = some r) : im_WW D vwCl tA lo 2 p l e (im_rm 0 0) s m args below meth c 0 0 (MQ below (im_Post D vwCl tA lo (some (.int r.1)) r.2) args s 0 0 (fun q => lo ≤ q)) 17 [] [.int y0] w := by
  obtain ⟨hx, hb, hr, hts, hown, hlk, hml, hK, hN⟩ := id X
  intro H locs ls hH hl
  unfold sh_Model_none_17 at hsh
  obtain ⟨rfl, hn⟩ := im_rz_s hsh
  exact im_zret hx hb hr hlk hn hH d_Model_none_17
def sh_Model_none_12 (F : Nat)  (w : im_W) : Option (Int32 × im_W) :=
  sh_Model_none_17 F (1 : Int32) w
set_option maxHeartbeats 4000000 in
set_option maxRecDepth 100000 in
theorem bk_Model_none_12 {F : Nat} {r : Int32 × im_W} (X : im_X D vwCl tA lo im_NW c_Model_none 2 (some .boolean) RC_Model im_T p s m args meth c)  (w : im_W) (hsh : sh_Model_none_12 F w = some r) : im_WW D vwCl tA lo 2 p l e (im_rm 0 0) s m args below meth c 0 0 (MQ below (im_Post D vwCl tA lo (some (.int r.1)) r.2) args s 0 0 (fun q => lo ≤ q)) 12 [] [] w := by
  obtain ⟨hx, hb, hr, hts, hown, hlk, hml, hK, hN⟩ := id X
  intro H locs ls hH hl
  unfold sh_Model_none_12 at hsh
  refine lv_iconst (v := 1) hx hb d_Model_none_12 (by decide) ?_
  refine lv_goto (tgt := 17) hx hb d_Model_none_13 (by decide) ?_
  exact bk_Model_none_17 X (1 : Int32) w hsh H locs ls hH (lv_sub hl [] rfl)
def sh_Model_none (F : Nat) (x0 : Nat) (x1 : Int32) (w : im_W) : Option (Int32 × im_W) :=
  (if x1 < 0 then sh_Model_none_12 F w else (im_gI w 9 x0 31).bind fun f1 => (if x1 < f1 then sh_Model_none_17 F (0 : Int32) w else sh_Model_none_12 F w))
set_option maxHeartbeats 4000000 in
set_option maxRecDepth 100000 in
theorem met_Model_none {F : Nat} {x0 : Nat} {x1 : Int32} {w : im_W} {r : Int32 × im_W} (hsh : sh_Model_none F x0 x1 w = some r) : Met l y_Model_none (Cond.code y_Model_none c_Model_none 2 (some .boolean) :: im_T) (im_rm 0 0) (im_Pre D vwCl tA lo im_NW [.ref (lo + x0), .int x1] w) (im_Post D vwCl tA lo (some (.int r.1)) r.2) 0 0 (fun q => lo ≤ q) := by
  refine im_ofW (cc := c_Model_none) (nL := 2) (ret := (some .boolean)) (by decide) (Nat.le_of_ble_eq_true rfl) ?_
  intro p e s m args below meth c X H locs ls hH hl
  obtain ⟨hx, hb, hr, hts, hown, hlk, hml, hK, hN⟩ := id X
  have hl : lv_has ls 2 [(0, .ref (lo + x0)), (1, .int x1)] := hl
  unfold sh_Model_none at hsh
  refine lv_iload_n hx hb d_Model_none_0 rfl (lv_at hl 1 rfl) ?_
  refine lv_if_lt (tgt := 12) hx hb d_Model_none_1 (by decide) (fun cc => ?_) (fun cc => ?_)
  · have hsh := im_it hsh cc
    exact bk_Model_none_12 X w hsh H locs ls hH (lv_sub hl [] rfl)
  · have hsh := im_if hsh cc
    refine lv_iload_n hx hb d_Model_none_4 rfl (lv_at hl 1 rfl) ?_
    refine lv_aload_n hx hb d_Model_none_5 rfl (lv_at hl 0 rfl) ?_
    obtain ⟨f1, h2, hsh⟩ := im_bd hsh
    refine im_getI hx hb hts inC_Model hown hK hH (ci := 9) rfl 31 (by decide) (hts _ wd_662) rfl h2 d_Model_none_6 ?_
    refine lv_icmp_lt (tgt := 16) hx hb d_Model_none_9 (by decide) (fun cc => ?_) (fun cc => ?_)
    · have hsh := im_it hsh cc
      refine lv_iconst (v := 0) hx hb d_Model_none_16 (by decide) ?_
      exact bk_Model_none_17 X (0 : Int32) w hsh H locs ls hH (lv_sub hl [] rfl)
    · have hsh := im_if hsh cc
      exact bk_Model_none_12 X w hsh H locs ls hH (lv_sub hl [] rfl)
end GEN
