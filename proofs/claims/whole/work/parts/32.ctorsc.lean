section GEN
variable {l : Launch} {D : va_G} {tA : Nat → ClassId} {lo : Nat} {p : Program} {e : Env} {s : State} {m : MethodId} {args : Array Value} {below : List Frame} {meth : Method} {c : Code}
theorem wd_17 : (Jvm.Cond.methodLink "LanguageTags" (3 : Nat) ({ cls := "java/lang/Object", name := "<init>", desc := "()V" } : Jvm.MethodName)) ∈ im_T := im_memT (i := 17) (by decide +kernel) (by decide +kernel)
theorem wd_20 : (Jvm.Cond.classLink "LanguageTags" (9 : Nat) "LanguageTags$Text") ∈ im_T := im_memT (i := 20) (by decide +kernel) (by decide +kernel)
theorem wd_21 : (Jvm.Cond.instantiable "LanguageTags$Text" (2 : Nat)) ∈ im_T := im_memT (i := 21) (by decide +kernel) (by decide +kernel)
theorem wd_22 : (Jvm.Cond.methodLink "LanguageTags" (11 : Nat) ({ cls := "LanguageTags$Text", name := "<init>", desc := "(I)V" } : Jvm.MethodName)) ∈ im_T := im_memT (i := 22) (by decide +kernel) (by decide +kernel)
theorem wd_23 : (Jvm.Cond.instanceMethod ({ cls := "LanguageTags$Text", name := "<init>", desc := "(I)V" } : Jvm.MethodName)) ∈ im_T := im_memT (i := 23) (by decide +kernel) (by decide +kernel)
theorem wd_24 : (Jvm.Cond.code ({ cls := "LanguageTags$Text", name := "<init>", desc := "(I)V" } : Jvm.MethodName) prog_10_method_1_code (2 : Nat) (Option.none : Option Jvm.ClassFile.FieldType)) ∈ im_T := im_memT (i := 24) (by decide +kernel) (by decide +kernel)
theorem wd_34 : (Jvm.Cond.classLink "LanguageTags" (21 : Nat) "LanguageTags$Reader") ∈ im_T := im_memT (i := 34) (by decide +kernel) (by decide +kernel)
theorem wd_35 : (Jvm.Cond.instantiable "LanguageTags$Reader" (3 : Nat)) ∈ im_T := im_memT (i := 35) (by decide +kernel) (by decide +kernel)
theorem wd_36 : (Jvm.Cond.methodLink "LanguageTags" (23 : Nat) ({ cls := "LanguageTags$Reader", name := "<init>", desc := "()V" } : Jvm.MethodName)) ∈ im_T := im_memT (i := 36) (by decide +kernel) (by decide +kernel)
theorem wd_37 : (Jvm.Cond.instanceMethod ({ cls := "LanguageTags$Reader", name := "<init>", desc := "()V" } : Jvm.MethodName)) ∈ im_T := im_memT (i := 37) (by decide +kernel) (by decide +kernel)
theorem wd_38 : (Jvm.Cond.code ({ cls := "LanguageTags$Reader", name := "<init>", desc := "()V" } : Jvm.MethodName) prog_7_method_1_code (1 : Nat) (Option.none : Option Jvm.ClassFile.FieldType)) ∈ im_T := im_memT (i := 38) (by decide +kernel) (by decide +kernel)
theorem wd_52 : (Jvm.Cond.classLink "LanguageTags" (28 : Nat) "LanguageTags$Aliases") ∈ im_T := im_memT (i := 52) (by decide +kernel) (by decide +kernel)
theorem wd_53 : (Jvm.Cond.instantiable "LanguageTags$Aliases" (4 : Nat)) ∈ im_T := im_memT (i := 53) (by decide +kernel) (by decide +kernel)
theorem wd_54 : (Jvm.Cond.methodLink "LanguageTags" (30 : Nat) ({ cls := "LanguageTags$Aliases", name := "<init>", desc := "()V" } : Jvm.MethodName)) ∈ im_T := im_memT (i := 54) (by decide +kernel) (by decide +kernel)
theorem wd_55 : (Jvm.Cond.instanceMethod ({ cls := "LanguageTags$Aliases", name := "<init>", desc := "()V" } : Jvm.MethodName)) ∈ im_T := im_memT (i := 55) (by decide +kernel) (by decide +kernel)
theorem wd_56 : (Jvm.Cond.code ({ cls := "LanguageTags$Aliases", name := "<init>", desc := "()V" } : Jvm.MethodName) prog_2_method_1_code (1 : Nat) (Option.none : Option Jvm.ClassFile.FieldType)) ∈ im_T := im_memT (i := 56) (by decide +kernel) (by decide +kernel)
theorem wd_72 : (Jvm.Cond.classLink "LanguageTags" (35 : Nat) "LanguageTags$Pairs") ∈ im_T := im_memT (i := 72) (by decide +kernel) (by decide +kernel)
theorem wd_73 : (Jvm.Cond.instantiable "LanguageTags$Pairs" (3 : Nat)) ∈ im_T := im_memT (i := 73) (by decide +kernel) (by decide +kernel)
theorem wd_74 : (Jvm.Cond.methodLink "LanguageTags" (37 : Nat) ({ cls := "LanguageTags$Pairs", name := "<init>", desc := "()V" } : Jvm.MethodName)) ∈ im_T := im_memT (i := 74) (by decide +kernel) (by decide +kernel)
theorem wd_75 : (Jvm.Cond.instanceMethod ({ cls := "LanguageTags$Pairs", name := "<init>", desc := "()V" } : Jvm.MethodName)) ∈ im_T := im_memT (i := 75) (by decide +kernel) (by decide +kernel)
theorem wd_76 : (Jvm.Cond.code ({ cls := "LanguageTags$Pairs", name := "<init>", desc := "()V" } : Jvm.MethodName) prog_6_method_1_code (2 : Nat) (Option.none : Option Jvm.ClassFile.FieldType)) ∈ im_T := im_memT (i := 76) (by decide +kernel) (by decide +kernel)
theorem wd_126 : (Jvm.Cond.classLink "LanguageTags" (45 : Nat) "LanguageTags$Likely") ∈ im_T := im_memT (i := 126) (by decide +kernel) (by decide +kernel)
theorem wd_127 : (Jvm.Cond.instantiable "LanguageTags$Likely" (4 : Nat)) ∈ im_T := im_memT (i := 127) (by decide +kernel) (by decide +kernel)
theorem wd_128 : (Jvm.Cond.methodLink "LanguageTags" (47 : Nat) ({ cls := "LanguageTags$Likely", name := "<init>", desc := "(LLanguageTags$Pairs;)V" } : Jvm.MethodName)) ∈ im_T := im_memT (i := 128) (by decide +kernel) (by decide +kernel)
theorem wd_129 : (Jvm.Cond.instanceMethod ({ cls := "LanguageTags$Likely", name := "<init>", desc := "(LLanguageTags$Pairs;)V" } : Jvm.MethodName)) ∈ im_T := im_memT (i := 129) (by decide +kernel) (by decide +kernel)
theorem wd_130 : (Jvm.Cond.code ({ cls := "LanguageTags$Likely", name := "<init>", desc := "(LLanguageTags$Pairs;)V" } : Jvm.MethodName) prog_5_method_1_code (2 : Nat) (Option.none : Option Jvm.ClassFile.FieldType)) ∈ im_T := im_memT (i := 130) (by decide +kernel) (by decide +kernel)
theorem wd_147 : (Jvm.Cond.classLink "LanguageTags" (54 : Nat) "LanguageTags$Tag") ∈ im_T := im_memT (i := 147) (by decide +kernel) (by decide +kernel)
theorem wd_149 : (Jvm.Cond.instantiable "LanguageTags$Tag" (4 : Nat)) ∈ im_T := im_memT (i := 149) (by decide +kernel) (by decide +kernel)
theorem wd_150 : (Jvm.Cond.methodLink "LanguageTags" (60 : Nat) ({ cls := "LanguageTags$Tag", name := "<init>", desc := "()V" } : Jvm.MethodName)) ∈ im_T := im_memT (i := 150) (by decide +kernel) (by decide +kernel)
theorem wd_151 : (Jvm.Cond.instanceMethod ({ cls := "LanguageTags$Tag", name := "<init>", desc := "()V" } : Jvm.MethodName)) ∈ im_T := im_memT (i := 151) (by decide +kernel) (by decide +kernel)
theorem wd_152 : (Jvm.Cond.code ({ cls := "LanguageTags$Tag", name := "<init>", desc := "()V" } : Jvm.MethodName) prog_9_method_1_code (1 : Nat) (Option.none : Option Jvm.ClassFile.FieldType)) ∈ im_T := im_memT (i := 152) (by decide +kernel) (by decide +kernel)
theorem wd_171 : (Jvm.Cond.classLink "LanguageTags" (65 : Nat) "LanguageTags$Form") ∈ im_T := im_memT (i := 171) (by decide +kernel) (by decide +kernel)
theorem wd_172 : (Jvm.Cond.methodLink "LanguageTags" (67 : Nat) ({ cls := "LanguageTags$Form", name := "<init>", desc := "(I)V" } : Jvm.MethodName)) ∈ im_T := im_memT (i := 172) (by decide +kernel) (by decide +kernel)
theorem wd_173 : (Jvm.Cond.classLink "LanguageTags" (75 : Nat) "LanguageTags$Core") ∈ im_T := im_memT (i := 173) (by decide +kernel) (by decide +kernel)
theorem wd_174 : (Jvm.Cond.methodLink "LanguageTags" (77 : Nat) ({ cls := "LanguageTags$Core", name := "<init>", desc := "()V" } : Jvm.MethodName)) ∈ im_T := im_memT (i := 174) (by decide +kernel) (by decide +kernel)
theorem d_LT_init_0 : decode c_LT_init 0 = .ok (.aload_n 0, 1) := by decide +kernel
theorem d_LT_init_1 : decode c_LT_init 1 = .ok (.invokespecial 3, 3) := by decide +kernel
theorem d_LT_init_4 : decode c_LT_init 4 = .ok (.aload_n 0, 1) := by decide +kernel
theorem d_LT_init_5 : decode c_LT_init 5 = .ok (.new 9, 3) := by decide +kernel
theorem d_LT_init_8 : decode c_LT_init 8 = .ok (.dup, 1) := by decide +kernel
theorem d_LT_init_9 : decode c_LT_init 9 = .ok (.bipush (60), 2) := by decide +kernel
theorem d_LT_init_11 : decode c_LT_init 11 = .ok (.invokespecial 11, 3) := by decide +kernel
theorem d_LT_init_14 : decode c_LT_init 14 = .ok (.putfield 14, 3) := by decide +kernel
theorem d_LT_init_17 : decode c_LT_init 17 = .ok (.aload_n 0, 1) := by decide +kernel
theorem d_LT_init_18 : decode c_LT_init 18 = .ok (.new 9, 3) := by decide +kernel
theorem d_LT_init_21 : decode c_LT_init 21 = .ok (.dup, 1) := by decide +kernel
theorem d_LT_init_22 : decode c_LT_init 22 = .ok (.bipush (62), 2) := by decide +kernel
theorem d_LT_init_24 : decode c_LT_init 24 = .ok (.invokespecial 11, 3) := by decide +kernel
theorem d_LT_init_27 : decode c_LT_init 27 = .ok (.putfield 18, 3) := by decide +kernel
theorem d_LT_init_30 : decode c_LT_init 30 = .ok (.aload_n 0, 1) := by decide +kernel
theorem d_LT_init_31 : decode c_LT_init 31 = .ok (.new 21, 3) := by decide +kernel
theorem d_LT_init_34 : decode c_LT_init 34 = .ok (.dup, 1) := by decide +kernel
theorem d_LT_init_35 : decode c_LT_init 35 = .ok (.invokespecial 23, 3) := by decide +kernel
theorem d_LT_init_38 : decode c_LT_init 38 = .ok (.putfield 24, 3) := by decide +kernel
theorem d_LT_init_41 : decode c_LT_init 41 = .ok (.aload_n 0, 1) := by decide +kernel
theorem d_LT_init_42 : decode c_LT_init 42 = .ok (.new 28, 3) := by decide +kernel
theorem d_LT_init_45 : decode c_LT_init 45 = .ok (.dup, 1) := by decide +kernel
theorem d_LT_init_46 : decode c_LT_init 46 = .ok (.invokespecial 30, 3) := by decide +kernel
theorem d_LT_init_49 : decode c_LT_init 49 = .ok (.putfield 31, 3) := by decide +kernel
theorem d_LT_init_52 : decode c_LT_init 52 = .ok (.aload_n 0, 1) := by decide +kernel
theorem d_LT_init_53 : decode c_LT_init 53 = .ok (.new 35, 3) := by decide +kernel
theorem d_LT_init_56 : decode c_LT_init 56 = .ok (.dup, 1) := by decide +kernel
theorem d_LT_init_57 : decode c_LT_init 57 = .ok (.invokespecial 37, 3) := by decide +kernel
theorem d_LT_init_60 : decode c_LT_init 60 = .ok (.putfield 38, 3) := by decide +kernel
theorem d_LT_init_63 : decode c_LT_init 63 = .ok (.aload_n 0, 1) := by decide +kernel
theorem d_LT_init_64 : decode c_LT_init 64 = .ok (.new 35, 3) := by decide +kernel
theorem d_LT_init_67 : decode c_LT_init 67 = .ok (.dup, 1) := by decide +kernel
theorem d_LT_init_68 : decode c_LT_init 68 = .ok (.invokespecial 37, 3) := by decide +kernel
theorem d_LT_init_71 : decode c_LT_init 71 = .ok (.putfield 42, 3) := by decide +kernel
theorem d_LT_init_74 : decode c_LT_init 74 = .ok (.aload_n 0, 1) := by decide +kernel
theorem d_LT_init_75 : decode c_LT_init 75 = .ok (.new 45, 3) := by decide +kernel
theorem d_LT_init_78 : decode c_LT_init 78 = .ok (.dup, 1) := by decide +kernel
theorem d_LT_init_79 : decode c_LT_init 79 = .ok (.aload_n 0, 1) := by decide +kernel
theorem d_LT_init_80 : decode c_LT_init 80 = .ok (.getfield 38, 3) := by decide +kernel
theorem d_LT_init_83 : decode c_LT_init 83 = .ok (.invokespecial 47, 3) := by decide +kernel
theorem d_LT_init_86 : decode c_LT_init 86 = .ok (.putfield 50, 3) := by decide +kernel
theorem d_LT_init_89 : decode c_LT_init 89 = .ok (.aload_n 0, 1) := by decide +kernel
theorem d_LT_init_90 : decode c_LT_init 90 = .ok (.bipush (16), 2) := by decide +kernel
theorem d_LT_init_92 : decode c_LT_init 92 = .ok (.anewarray 54, 3) := by decide +kernel
theorem d_LT_init_95 : decode c_LT_init 95 = .ok (.putfield 56, 3) := by decide +kernel
theorem d_LT_init_98 : decode c_LT_init 98 = .ok (.iconst 0, 1) := by decide +kernel
theorem d_LT_init_99 : decode c_LT_init 99 = .ok (.istore_n 1, 1) := by decide +kernel
theorem d_LT_init_100 : decode c_LT_init 100 = .ok (.iload_n 1, 1) := by decide +kernel
theorem d_LT_init_101 : decode c_LT_init 101 = .ok (.bipush (16), 2) := by decide +kernel
theorem d_LT_init_103 : decode c_LT_init 103 = .ok (.if_icmp .ge (22), 3) := by decide +kernel
theorem d_LT_init_106 : decode c_LT_init 106 = .ok (.aload_n 0, 1) := by decide +kernel
theorem d_LT_init_107 : decode c_LT_init 107 = .ok (.getfield 56, 3) := by decide +kernel
theorem d_LT_init_110 : decode c_LT_init 110 = .ok (.iload_n 1, 1) := by decide +kernel
theorem d_LT_init_111 : decode c_LT_init 111 = .ok (.new 54, 3) := by decide +kernel
theorem d_LT_init_114 : decode c_LT_init 114 = .ok (.dup, 1) := by decide +kernel
theorem d_LT_init_115 : decode c_LT_init 115 = .ok (.invokespecial 60, 3) := by decide +kernel
theorem d_LT_init_118 : decode c_LT_init 118 = .ok (.aastore, 1) := by decide +kernel
theorem d_LT_init_119 : decode c_LT_init 119 = .ok (.iinc 1 (1), 3) := by decide +kernel
theorem d_LT_init_122 : decode c_LT_init 122 = .ok (.goto (-22), 3) := by decide +kernel
theorem d_LT_init_125 : decode c_LT_init 125 = .ok (.aload_n 0, 1) := by decide +kernel
theorem d_LT_init_126 : decode c_LT_init 126 = .ok (.bipush (16), 2) := by decide +kernel
theorem d_LT_init_128 : decode c_LT_init 128 = .ok (.newarray .int, 2) := by decide +kernel
theorem d_LT_init_130 : decode c_LT_init 130 = .ok (.putfield 61, 3) := by decide +kernel
theorem d_LT_init_133 : decode c_LT_init 133 = .ok (.aload_n 0, 1) := by decide +kernel
theorem d_LT_init_134 : decode c_LT_init 134 = .ok (.new 65, 3) := by decide +kernel
theorem d_LT_init_137 : decode c_LT_init 137 = .ok (.dup, 1) := by decide +kernel
theorem d_LT_init_138 : decode c_LT_init 138 = .ok (.bipush (30), 2) := by decide +kernel
theorem d_LT_init_140 : decode c_LT_init 140 = .ok (.invokespecial 67, 3) := by decide +kernel
theorem d_LT_init_143 : decode c_LT_init 143 = .ok (.putfield 68, 3) := by decide +kernel
theorem d_LT_init_146 : decode c_LT_init 146 = .ok (.aload_n 0, 1) := by decide +kernel
theorem d_LT_init_147 : decode c_LT_init 147 = .ok (.new 65, 3) := by decide +kernel
theorem d_LT_init_150 : decode c_LT_init 150 = .ok (.dup, 1) := by decide +kernel
theorem d_LT_init_151 : decode c_LT_init 151 = .ok (.bipush (30), 2) := by decide +kernel
theorem d_LT_init_153 : decode c_LT_init 153 = .ok (.invokespecial 67, 3) := by decide +kernel
theorem d_LT_init_156 : decode c_LT_init 156 = .ok (.putfield 72, 3) := by decide +kernel
theorem d_LT_init_159 : decode c_LT_init 159 = .ok (.aload_n 0, 1) := by decide +kernel
theorem d_LT_init_160 : decode c_LT_init 160 = .ok (.new 75, 3) := by decide +kernel
theorem d_LT_init_163 : decode c_LT_init 163 = .ok (.dup, 1) := by decide +kernel
theorem d_LT_init_164 : decode c_LT_init 164 = .ok (.invokespecial 77, 3) := by decide +kernel
theorem d_LT_init_167 : decode c_LT_init 167 = .ok (.putfield 78, 3) := by decide +kernel
theorem d_LT_init_170 : decode c_LT_init 170 = .ok (.aload_n 0, 1) := by decide +kernel
theorem d_LT_init_171 : decode c_LT_init 171 = .ok (.new 75, 3) := by decide +kernel
theorem d_LT_init_174 : decode c_LT_init 174 = .ok (.dup, 1) := by decide +kernel
theorem d_LT_init_175 : decode c_LT_init 175 = .ok (.invokespecial 77, 3) := by decide +kernel
theorem d_LT_init_178 : decode c_LT_init 178 = .ok (.putfield 82, 3) := by decide +kernel
theorem d_LT_init_181 : decode c_LT_init 181 = .ok (.aload_n 0, 1) := by decide +kernel
theorem d_LT_init_182 : decode c_LT_init 182 = .ok (.iconst 0, 1) := by decide +kernel
theorem d_LT_init_183 : decode c_LT_init 183 = .ok (.putfield 85, 3) := by decide +kernel
theorem d_LT_init_186 : decode c_LT_init 186 = .ok (.aload_n 0, 1) := by decide +kernel
theorem d_LT_init_187 : decode c_LT_init 187 = .ok (.iconst 0, 1) := by decide +kernel
theorem d_LT_init_188 : decode c_LT_init 188 = .ok (.putfield 89, 3) := by decide +kernel
theorem d_LT_init_191 : decode c_LT_init 191 = .ok (.aload_n 0, 1) := by decide +kernel
theorem d_LT_init_192 : decode c_LT_init 192 = .ok (.iconst 0, 1) := by decide +kernel
theorem d_LT_init_193 : decode c_LT_init 193 = .ok (.putfield 92, 3) := by decide +kernel
theorem d_LT_init_196 : decode c_LT_init 196 = .ok (.return_, 1) := by decide +kernel
def sh_LT_init (F : Nat) (x0 : Nat) (w : im_W) : Option im_W :=
  im_b2 (im_al w (.inr (7, df0_Text))) fun n1 w2 => (sh_Text_init_60 F n1 w2).bind fun w4 => (im_sz w4 (w2.1 + 1)).bind fun _ => (im_pV w4 8 x0 0 (.ref n1)).bind fun w7 => im_b2 (im_al w7 (.inr (7, df0_Text))) fun n9 w10 => (sh_Text_init_62 F n9 w10).bind fun w12 => (im_sz w12 (w10.1 + 1)).bind fun _ => (im_pV w12 8 x0 1 (.ref n9)).bind fun w15 => im_b2 (im_al w15 (.inr (5, df0_Reader))) fun n17 w18 => (sh_Reader_init F n17 w18).bind fun w20 => (im_sz w20 (w18.1 + 2)).bind fun _ => (im_pV w20 8 x0 2 (.ref n17)).bind fun w23 => im_b2 (im_al w23 (.inr (0, df0_Aliases))) fun n25 w26 => (sh_Aliases_init F n25 w26).bind fun w28 => (im_sz w28 (w26.1 + 3)).bind fun _ => (im_pV w28 8 x0 3 (.ref n25)).bind fun w31 => im_b2 (im_al w31 (.inr (4, df0_Pairs))) fun n33 w34 => (sh_Pairs_init F n33 w34).bind fun w36 => (im_sz w36 (w34.1 + 62)).bind fun _ => (im_pV w36 8 x0 4 (.ref n33)).bind fun w39 => im_b2 (im_al w39 (.inr (4, df0_Pairs))) fun n41 w42 => (sh_Pairs_init F n41 w42).bind fun w44 => (im_sz w44 (w42.1 + 62)).bind fun _ => (im_pV w44 8 x0 5 (.ref n41)).bind fun w47 => im_b2 (im_al w47 (.inr (3, df0_Likely))) fun n49 w50 => (im_gR w50 8 x0 4).bind fun f52 => (sh_Likely_init F n49 f52 w50).bind fun w54 => (im_sz w54 (w50.1 + 3)).bind fun _ => (im_pV w54 8 x0 6 (.ref n49)).bind fun w57 => im_b2 (im_al w57 (.inl (4, 16, .inr (.inr (.inr (.inr (fun _ => none))))))) fun n59 w60 => (im_pV w60 8 x0 7 (.ref n59)).bind fun w62 => (im_gR w62 8 x0 7).bind fun f64 => im_b2 (im_al w62 (.inr (6, df0_Tag))) fun n66 w67 => (sh_Tag_init F n66 w67).bind fun w69 => (im_sz w69 (w67.1 + 5)).bind fun _ => (im_sR w69 4 f64 (0 : Int32) 6 n66).bind fun w72 => (im_gR w72 8 x0 7).bind fun f74 => im_b2 (im_al w72 (.inr (6, df0_Tag))) fun n76 w77 => (sh_Tag_init F n76 w77).bind fun w79 => (im_sz w79 (w77.1 + 5)).bind fun _ => (im_sR w79 4 f74 (1 : Int32) 6 n76).bind fun w82 => (im_gR w82 8 x0 7).bind fun f84 => im_b2 (im_al w82 (.inr (6, df0_Tag))) fun n86 w87 => (sh_Tag_init F n86 w87).bind fun w89 => (im_sz w89 (w87.1 + 5)).bind fun _ => (im_sR w89 4 f84 (2 : Int32) 6 n86).bind fun w92 => (im_gR w92 8 x0 7).bind fun f94 => im_b2 (im_al w92 (.inr (6, df0_Tag))) fun n96 w97 => (sh_Tag_init F n96 w97).bind fun w99 => (im_sz w99 (w97.1 + 5)).bind fun _ => (im_sR w99 4 f94 (3 : Int32) 6 n96).bind fun w102 => (im_gR w102 8 x0 7).bind fun f104 => im_b2 (im_al w102 (.inr (6, df0_Tag))) fun n106 w107 => (sh_Tag_init F n106 w107).bind fun w109 => (im_sz w109 (w107.1 + 5)).bind fun _ => (im_sR w109 4 f104 (4 : Int32) 6 n106).bind fun w112 => (im_gR w112 8 x0 7).bind fun f114 => im_b2 (im_al w112 (.inr (6, df0_Tag))) fun n116 w117 => (sh_Tag_init F n116 w117).bind fun w119 => (im_sz w119 (w117.1 + 5)).bind fun _ => (im_sR w119 4 f114 (5 : Int32) 6 n116).bind fun w122 => (im_gR w122 8 x0 7).bind fun f124 => im_b2 (im_al w122 (.inr (6, df0_Tag))) fun n126 w127 => (sh_Tag_init F n126 w127).bind fun w129 => (im_sz w129 (w127.1 + 5)).bind fun _ => (im_sR w129 4 f124 (6 : Int32) 6 n126).bind fun w132 => (im_gR w132 8 x0 7).bind fun f134 => im_b2 (im_al w132 (.inr (6, df0_Tag))) fun n136 w137 => (sh_Tag_init F n136 w137).bind fun w139 => (im_sz w139 (w137.1 + 5)).bind fun _ => (im_sR w139 4 f134 (7 : Int32) 6 n136).bind fun w142 => (im_gR w142 8 x0 7).bind fun f144 => im_b2 (im_al w142 (.inr (6, df0_Tag))) fun n146 w147 => (sh_Tag_init F n146 w147).bind fun w149 => (im_sz w149 (w147.1 + 5)).bind fun _ => (im_sR w149 4 f144 (8 : Int32) 6 n146).bind fun w152 => (im_gR w152 8 x0 7).bind fun f154 => im_b2 (im_al w152 (.inr (6, df0_Tag))) fun n156 w157 => (sh_Tag_init F n156 w157).bind fun w159 => (im_sz w159 (w157.1 + 5)).bind fun _ => (im_sR w159 4 f154 (9 : Int32) 6 n156).bind fun w162 => (im_gR w162 8 x0 7).bind fun f164 => im_b2 (im_al w162 (.inr (6, df0_Tag))) fun n166 w167 => (sh_Tag_init F n166 w167).bind fun w169 => (im_sz w169 (w167.1 + 5)).bind fun _ => (im_sR w169 4 f164 (10 : Int32) 6 n166).bind fun w172 => (im_gR w172 8 x0 7).bind fun f174 => im_b2 (im_al w172 (.inr (6, df0_Tag))) fun n176 w177 => (sh_Tag_init F n176 w177).bind fun w179 => (im_sz w179 (w177.1 + 5)).bind fun _ => (im_sR w179 4 f174 (11 : Int32) 6 n176).bind fun w182 => (im_gR w182 8 x0 7).bind fun f184 => im_b2 (im_al w182 (.inr (6, df0_Tag))) fun n186 w187 => (sh_Tag_init F n186 w187).bind fun w189 => (im_sz w189 (w187.1 + 5)).bind fun _ => (im_sR w189 4 f184 (12 : Int32) 6 n186).bind fun w192 => (im_gR w192 8 x0 7).bind fun f194 => im_b2 (im_al w192 (.inr (6, df0_Tag))) fun n196 w197 => (sh_Tag_init F n196 w197).bind fun w199 => (im_sz w199 (w197.1 + 5)).bind fun _ => (im_sR w199 4 f194 (13 : Int32) 6 n196).bind fun w202 => (im_gR w202 8 x0 7).bind fun f204 => im_b2 (im_al w202 (.inr (6, df0_Tag))) fun n206 w207 => (sh_Tag_init F n206 w207).bind fun w209 => (im_sz w209 (w207.1 + 5)).bind fun _ => (im_sR w209 4 f204 (14 : Int32) 6 n206).bind fun w212 => (im_gR w212 8 x0 7).bind fun f214 => im_b2 (im_al w212 (.inr (6, df0_Tag))) fun n216 w217 => (sh_Tag_init F n216 w217).bind fun w219 => (im_sz w219 (w217.1 + 5)).bind fun _ => (im_sR w219 4 f214 (15 : Int32) 6 n216).bind fun w222 => im_b2 (im_al w222 (.inl (0, (16, .inl (fun _ => 0))))) fun n224 w225 => (im_pV w225 8 x0 8 (.ref n224)).bind fun w227 => im_b2 (im_al w227 (.inr (2, df0_Form))) fun n229 w230 => (sh_Form_init_30 F n229 w230).bind fun w232 => (im_sz w232 (w230.1 + 2)).bind fun _ => (im_pV w232 8 x0 9 (.ref n229)).bind fun w235 => im_b2 (im_al w235 (.inr (2, df0_Form))) fun n237 w238 => (sh_Form_init_30 F n237 w238).bind fun w240 => (im_sz w240 (w238.1 + 2)).bind fun _ => (im_pV w240 8 x0 10 (.ref n237)).bind fun w243 => im_b2 (im_al w243 (.inr (1, df0_Core))) fun n245 w246 => (sh_Core_init F n245 w246).bind fun w248 => (im_sz w248 (w246.1 + 0)).bind fun _ => (im_pV w248 8 x0 11 (.ref n245)).bind fun w251 => im_b2 (im_al w251 (.inr (1, df0_Core))) fun n253 w254 => (sh_Core_init F n253 w254).bind fun w256 => (im_sz w256 (w254.1 + 0)).bind fun _ => (im_pV w256 8 x0 12 (.ref n253)).bind fun w259 => (im_pV w259 8 x0 13 (.int (0 : Int32))).bind fun w261 => (im_pV w261 8 x0 14 (.int (0 : Int32))).bind fun w263 => (im_pV w263 8 x0 15 (.int (0 : Int32))).bind fun w265 => some w265
set_option maxHeartbeats 4000000 in
set_option maxRecDepth 100000 in
theorem metc_LT_init {F : Nat} {x0 : Nat} {w : im_W} {r : im_W} (hsh : sh_LT_init F x0 w = some r) : Met l y_LT_init (Cond.code y_LT_init c_LT_init 2 none :: im_T) (im_rmc 4 74 247 1642) (im_PreC D vwCl tA lo im_NW [.ref (lo + x0)] w) (im_Post D vwCl tA lo none r) 247 1642 (fun q => lo ≤ q) := by
  refine im_ofWC (cc := c_LT_init) (nL := 2) (by decide) rfl (Nat.le_of_ble_eq_true rfl) ?_
  intro p e s m args below meth c X hin hlo hz hAO H locs ls hH hl
  obtain ⟨hx, hb, hr, hts, hown, hlk, hml, hK, hN⟩ := id X
  have hl : lv_has ls 2 [(0, .ref (lo + x0))] := hl
  unfold sh_LT_init at hsh
  refine lv_aload_n hx hb d_LT_init_0 rfl (lv_at hl 0 rfl) ?_
  refine W.objInit hx hb hown (hts _ wd_17) (hts _ wd_18) (hts _ wd_objcode) rfl (by rw [hml]; exact hl.1) rfl d_LT_init_1 (Nat.le_of_ble_eq_true rfl) (Nat.le_of_ble_eq_true rfl) ?_
  refine W.eq (g2 := F0 m 4 ls []) rfl ?_
  refine lv_aload_n hx hb d_LT_init_4 rfl (lv_at hl 0 rfl) ?_
  obtain ⟨n1, w2, h3, hsh_1⟩ := im_bd2 hsh
  clear hsh
  refine im_new' (ci := 7) (fs := df0_Text) hx hb hts inC_Text tyC_Text tyC_Text_ok hown (hts _ wd_20) (hts _ wd_21) (hts _ wd_2) hK hH rfl hlo hz (dfC_Text lo) (Nat.le_of_ble_eq_true rfl) (Nat.le_of_ble_eq_true rfl) h3 d_LT_init_5 (fun H hH => ?_)
  have hz := im_z_al h3 hz
  refine lv_dup hx hb d_LT_init_8 rfl ?_
  refine lv_bipush (v := 60) hx hb d_LT_init_9 (by decide) ?_
  obtain ⟨w4, h5, hsh_2⟩ := im_bd hsh_1
  clear hsh_1
  obtain ⟨_, h6, hsh_3⟩ := im_bd hsh_2
  clear hsh_2
  refine im_sized (fun hsz => ?_)
  have hHz : H.size = lo + w2.1 := Nat.le_antisymm (Nat.le_trans hsz (Nat.le_of_eq hz)) (im_low hH hlo)
  refine im_afterC (va_runI (As := [.int (60 : Int32)]) (rest := [.ref (lo + n1), .ref (lo + x0)]) ⟨hx, hb, hml, hown, hts⟩ (metc_Text_init_60 h5) ⟨(callB_of 1 hts (im_good wd_24) rfl rfl rfl (hts _ wd_2) (hts _ wd_22) (by decide +kernel) ⟨Nat.le_of_ble_eq_true rfl, Nat.le_of_ble_eq_true rfl⟩), rfl, hts _ wd_23⟩ (im_preC im_NW_ok hK hN hAO hH hHz _) rfl rfl hl.1 rfl (lv_room (Nat.le_of_ble_eq_true rfl)) d_LT_init_11 ⟨Nat.le_of_ble_eq_true rfl, Nat.le_of_ble_eq_true rfl⟩) hH (fun H locs hH => ?_)
  have hz := im_z_k h6 hz
  obtain ⟨w7, h8, hsh_4⟩ := im_bd hsh_3
  clear hsh_3
  refine im_putF (v := .ref n1) hx hb hts inC_LT tyC_LT tyC_LT_ok nmC_LT hown hK hH (ci := 8) rfl 0 (by decide) (hts _ wd_175) rfl rfl hin rfl rfl rfl h8 d_LT_init_14 (fun H locs hH => ?_)
  have hz := im_z_p h8 hz
  refine lv_aload_n hx hb d_LT_init_17 rfl (lv_at hl 0 rfl) ?_
  obtain ⟨n9, w10, h11, hsh_5⟩ := im_bd2 hsh_4
  clear hsh_4
  refine im_new' (ci := 7) (fs := df0_Text) hx hb hts inC_Text tyC_Text tyC_Text_ok hown (hts _ wd_20) (hts _ wd_21) (hts _ wd_2) hK hH rfl hlo hz (dfC_Text lo) (Nat.le_of_ble_eq_true rfl) (Nat.le_of_ble_eq_true rfl) h11 d_LT_init_18 (fun H hH => ?_)
  have hz := im_z_al h11 hz
  refine lv_dup hx hb d_LT_init_21 rfl ?_
  refine lv_bipush (v := 62) hx hb d_LT_init_22 (by decide) ?_
  obtain ⟨w12, h13, hsh_6⟩ := im_bd hsh_5
  clear hsh_5
  obtain ⟨_, h14, hsh_7⟩ := im_bd hsh_6
  clear hsh_6
  refine im_sized (fun hsz => ?_)
  have hHz : H.size = lo + w10.1 := Nat.le_antisymm (Nat.le_trans hsz (Nat.le_of_eq hz)) (im_low hH hlo)
  refine im_afterC (va_runI (As := [.int (62 : Int32)]) (rest := [.ref (lo + n9), .ref (lo + x0)]) ⟨hx, hb, hml, hown, hts⟩ (metc_Text_init_62 h13) ⟨(callB_of 1 hts (im_good wd_24) rfl rfl rfl (hts _ wd_2) (hts _ wd_22) (by decide +kernel) ⟨Nat.le_of_ble_eq_true rfl, Nat.le_of_ble_eq_true rfl⟩), rfl, hts _ wd_23⟩ (im_preC im_NW_ok hK hN hAO hH hHz _) rfl rfl hl.1 rfl (lv_room (Nat.le_of_ble_eq_true rfl)) d_LT_init_24 ⟨Nat.le_of_ble_eq_true rfl, Nat.le_of_ble_eq_true rfl⟩) hH (fun H locs hH => ?_)
  have hz := im_z_k h14 hz
  obtain ⟨w15, h16, hsh_8⟩ := im_bd hsh_7
  clear hsh_7
  refine im_putF (v := .ref n9) hx hb hts inC_LT tyC_LT tyC_LT_ok nmC_LT hown hK hH (ci := 8) rfl 1 (by decide) (hts _ wd_176) rfl rfl hin rfl rfl rfl h16 d_LT_init_27 (fun H locs hH => ?_)
  have hz := im_z_p h16 hz
  refine lv_aload_n hx hb d_LT_init_30 rfl (lv_at hl 0 rfl) ?_
  obtain ⟨n17, w18, h19, hsh_9⟩ := im_bd2 hsh_8
  clear hsh_8
  refine im_new' (ci := 5) (fs := df0_Reader) hx hb hts inC_Reader tyC_Reader tyC_Reader_ok hown (hts _ wd_34) (hts _ wd_35) (hts _ wd_3) hK hH rfl hlo hz (dfC_Reader lo) (Nat.le_of_ble_eq_true rfl) (Nat.le_of_ble_eq_true rfl) h19 d_LT_init_31 (fun H hH => ?_)
  have hz := im_z_al h19 hz
  refine lv_dup hx hb d_LT_init_34 rfl ?_
  obtain ⟨w20, h21, hsh_10⟩ := im_bd hsh_9
  clear hsh_9
  obtain ⟨_, h22, hsh_11⟩ := im_bd hsh_10
  clear hsh_10
  refine im_sized (fun hsz => ?_)
  have hHz : H.size = lo + w18.1 := Nat.le_antisymm (Nat.le_trans hsz (Nat.le_of_eq hz)) (im_low hH hlo)
  refine im_afterC (va_runI (As := []) (rest := [.ref (lo + n17), .ref (lo + x0)]) ⟨hx, hb, hml, hown, hts⟩ (metc_Reader_init h21) ⟨(callB_of 0 hts (im_good wd_38) rfl rfl rfl (hts _ wd_3) (hts _ wd_36) (by decide +kernel) ⟨Nat.le_of_ble_eq_true rfl, Nat.le_of_ble_eq_true rfl⟩), rfl, hts _ wd_37⟩ (im_preC im_NW_ok hK hN hAO hH hHz _) rfl rfl hl.1 rfl (lv_room (Nat.le_of_ble_eq_true rfl)) d_LT_init_35 ⟨Nat.le_of_ble_eq_true rfl, Nat.le_of_ble_eq_true rfl⟩) hH (fun H locs hH => ?_)
  have hz := im_z_k h22 hz
  obtain ⟨w23, h24, hsh_12⟩ := im_bd hsh_11
  clear hsh_11
  refine im_putF (v := .ref n17) hx hb hts inC_LT tyC_LT tyC_LT_ok nmC_LT hown hK hH (ci := 8) rfl 2 (by decide) (hts _ wd_177) rfl rfl hin rfl rfl rfl h24 d_LT_init_38 (fun H locs hH => ?_)
  have hz := im_z_p h24 hz
  refine lv_aload_n hx hb d_LT_init_41 rfl (lv_at hl 0 rfl) ?_
  obtain ⟨n25, w26, h27, hsh_13⟩ := im_bd2 hsh_12
  clear hsh_12
  refine im_new' (ci := 0) (fs := df0_Aliases) hx hb hts inC_Aliases tyC_Aliases tyC_Aliases_ok hown (hts _ wd_52) (hts _ wd_53) (hts _ wd_4) hK hH rfl hlo hz (dfC_Aliases lo) (Nat.le_of_ble_eq_true rfl) (Nat.le_of_ble_eq_true rfl) h27 d_LT_init_42 (fun H hH => ?_)
  have hz := im_z_al h27 hz
  refine lv_dup hx hb d_LT_init_45 rfl ?_
  obtain ⟨w28, h29, hsh_14⟩ := im_bd hsh_13
  clear hsh_13
  obtain ⟨_, h30, hsh_15⟩ := im_bd hsh_14
  clear hsh_14
  refine im_sized (fun hsz => ?_)
  have hHz : H.size = lo + w26.1 := Nat.le_antisymm (Nat.le_trans hsz (Nat.le_of_eq hz)) (im_low hH hlo)
  refine im_afterC (va_runI (As := []) (rest := [.ref (lo + n25), .ref (lo + x0)]) ⟨hx, hb, hml, hown, hts⟩ (metc_Aliases_init h29) ⟨(callB_of 0 hts (im_good wd_56) rfl rfl rfl (hts _ wd_4) (hts _ wd_54) (by decide +kernel) ⟨Nat.le_of_ble_eq_true rfl, Nat.le_of_ble_eq_true rfl⟩), rfl, hts _ wd_55⟩ (im_preC im_NW_ok hK hN hAO hH hHz _) rfl rfl hl.1 rfl (lv_room (Nat.le_of_ble_eq_true rfl)) d_LT_init_46 ⟨Nat.le_of_ble_eq_true rfl, Nat.le_of_ble_eq_true rfl⟩) hH (fun H locs hH => ?_)
  have hz := im_z_k h30 hz
  obtain ⟨w31, h32, hsh_16⟩ := im_bd hsh_15
  clear hsh_15
  refine im_putF (v := .ref n25) hx hb hts inC_LT tyC_LT tyC_LT_ok nmC_LT hown hK hH (ci := 8) rfl 3 (by decide) (hts _ wd_178) rfl rfl hin rfl rfl rfl h32 d_LT_init_49 (fun H locs hH => ?_)
  have hz := im_z_p h32 hz
  refine lv_aload_n hx hb d_LT_init_52 rfl (lv_at hl 0 rfl) ?_
  obtain ⟨n33, w34, h35, hsh_17⟩ := im_bd2 hsh_16
  clear hsh_16
  refine im_new' (ci := 4) (fs := df0_Pairs) hx hb hts inC_Pairs tyC_Pairs tyC_Pairs_ok hown (hts _ wd_72) (hts _ wd_73) (hts _ wd_5) hK hH rfl hlo hz (dfC_Pairs lo) (Nat.le_of_ble_eq_true rfl) (Nat.le_of_ble_eq_true rfl) h35 d_LT_init_53 (fun H hH => ?_)
  have hz := im_z_al h35 hz
  refine lv_dup hx hb d_LT_init_56 rfl ?_
  obtain ⟨w36, h37, hsh_18⟩ := im_bd hsh_17
  clear hsh_17
  obtain ⟨_, h38, hsh_19⟩ := im_bd hsh_18
  clear hsh_18
  refine im_sized (fun hsz => ?_)
  have hHz : H.size = lo + w34.1 := Nat.le_antisymm (Nat.le_trans hsz (Nat.le_of_eq hz)) (im_low hH hlo)
  refine im_afterC (va_runI (As := []) (rest := [.ref (lo + n33), .ref (lo + x0)]) ⟨hx, hb, hml, hown, hts⟩ (metc_Pairs_init h37) ⟨(callB_of 0 hts (im_good wd_76) rfl rfl rfl (hts _ wd_5) (hts _ wd_74) (by decide +kernel) ⟨Nat.le_of_ble_eq_true rfl, Nat.le_of_ble_eq_true rfl⟩), rfl, hts _ wd_75⟩ (im_preC im_NW_ok hK hN hAO hH hHz _) rfl rfl hl.1 rfl (lv_room (Nat.le_of_ble_eq_true rfl)) d_LT_init_57 ⟨Nat.le_of_ble_eq_true rfl, Nat.le_of_ble_eq_true rfl⟩) hH (fun H locs hH => ?_)
  have hz := im_z_k h38 hz
  obtain ⟨w39, h40, hsh_20⟩ := im_bd hsh_19
  clear hsh_19
  refine im_putF (v := .ref n33) hx hb hts inC_LT tyC_LT tyC_LT_ok nmC_LT hown hK hH (ci := 8) rfl 4 (by decide) (hts _ wd_179) rfl rfl hin rfl rfl rfl h40 d_LT_init_60 (fun H locs hH => ?_)
  have hz := im_z_p h40 hz
  refine lv_aload_n hx hb d_LT_init_63 rfl (lv_at hl 0 rfl) ?_
  obtain ⟨n41, w42, h43, hsh_21⟩ := im_bd2 hsh_20
  clear hsh_20
  refine im_new' (ci := 4) (fs := df0_Pairs) hx hb hts inC_Pairs tyC_Pairs tyC_Pairs_ok hown (hts _ wd_72) (hts _ wd_73) (hts _ wd_5) hK hH rfl hlo hz (dfC_Pairs lo) (Nat.le_of_ble_eq_true rfl) (Nat.le_of_ble_eq_true rfl) h43 d_LT_init_64 (fun H hH => ?_)
  have hz := im_z_al h43 hz
  refine lv_dup hx hb d_LT_init_67 rfl ?_
  obtain ⟨w44, h45, hsh_22⟩ := im_bd hsh_21
  clear hsh_21
  obtain ⟨_, h46, hsh_23⟩ := im_bd hsh_22
  clear hsh_22
  refine im_sized (fun hsz => ?_)
  have hHz : H.size = lo + w42.1 := Nat.le_antisymm (Nat.le_trans hsz (Nat.le_of_eq hz)) (im_low hH hlo)
  refine im_afterC (va_runI (As := []) (rest := [.ref (lo + n41), .ref (lo + x0)]) ⟨hx, hb, hml, hown, hts⟩ (metc_Pairs_init h45) ⟨(callB_of 0 hts (im_good wd_76) rfl rfl rfl (hts _ wd_5) (hts _ wd_74) (by decide +kernel) ⟨Nat.le_of_ble_eq_true rfl, Nat.le_of_ble_eq_true rfl⟩), rfl, hts _ wd_75⟩ (im_preC im_NW_ok hK hN hAO hH hHz _) rfl rfl hl.1 rfl (lv_room (Nat.le_of_ble_eq_true rfl)) d_LT_init_68 ⟨Nat.le_of_ble_eq_true rfl, Nat.le_of_ble_eq_true rfl⟩) hH (fun H locs hH => ?_)
  have hz := im_z_k h46 hz
  obtain ⟨w47, h48, hsh_24⟩ := im_bd hsh_23
  clear hsh_23
  refine im_putF (v := .ref n41) hx hb hts inC_LT tyC_LT tyC_LT_ok nmC_LT hown hK hH (ci := 8) rfl 5 (by decide) (hts _ wd_180) rfl rfl hin rfl rfl rfl h48 d_LT_init_71 (fun H locs hH => ?_)
  have hz := im_z_p h48 hz
  refine lv_aload_n hx hb d_LT_init_74 rfl (lv_at hl 0 rfl) ?_
  obtain ⟨n49, w50, h51, hsh_25⟩ := im_bd2 hsh_24
  clear hsh_24
  refine im_new' (ci := 3) (fs := df0_Likely) hx hb hts inC_Likely tyC_Likely tyC_Likely_ok hown (hts _ wd_126) (hts _ wd_127) (hts _ wd_8) hK hH rfl hlo hz (dfC_Likely lo) (Nat.le_of_ble_eq_true rfl) (Nat.le_of_ble_eq_true rfl) h51 d_LT_init_75 (fun H hH => ?_)
  have hz := im_z_al h51 hz
  refine lv_dup hx hb d_LT_init_78 rfl ?_
  refine lv_aload_n hx hb d_LT_init_79 rfl (lv_at hl 0 rfl) ?_
  obtain ⟨f52, h53, hsh_26⟩ := im_bd hsh_25
  clear hsh_25
  refine im_getR hx hb hts inC_LT hown hK hH (ci := 8) rfl 4 (by decide) (hts _ wd_179) rfl h53 d_LT_init_80 ?_
  obtain ⟨w54, h55, hsh_27⟩ := im_bd hsh_26
  clear hsh_26
  obtain ⟨_, h56, hsh_28⟩ := im_bd hsh_27
  clear hsh_27
  refine im_sized (fun hsz => ?_)
  have hHz : H.size = lo + w50.1 := Nat.le_antisymm (Nat.le_trans hsz (Nat.le_of_eq hz)) (im_low hH hlo)
  refine im_afterC (va_runI (As := [.ref (lo + f52)]) (rest := [.ref (lo + n49), .ref (lo + x0)]) ⟨hx, hb, hml, hown, hts⟩ (metc_Likely_init h55) ⟨(callB_of 1 hts (im_good wd_130) rfl rfl rfl (hts _ wd_8) (hts _ wd_128) (by decide +kernel) ⟨Nat.le_of_ble_eq_true rfl, Nat.le_of_ble_eq_true rfl⟩), rfl, hts _ wd_129⟩ (im_preC im_NW_ok hK hN hAO hH hHz _) rfl rfl hl.1 rfl (lv_room (Nat.le_of_ble_eq_true rfl)) d_LT_init_83 ⟨Nat.le_of_ble_eq_true rfl, Nat.le_of_ble_eq_true rfl⟩) hH (fun H locs hH => ?_)
  have hz := im_z_k h56 hz
  obtain ⟨w57, h58, hsh_29⟩ := im_bd hsh_28
  clear hsh_28
  refine im_putF (v := .ref n49) hx hb hts inC_LT tyC_LT tyC_LT_ok nmC_LT hown hK hH (ci := 8) rfl 6 (by decide) (hts _ wd_181) rfl rfl hin rfl rfl rfl h58 d_LT_init_86 (fun H locs hH => ?_)
  have hz := im_z_p h58 hz
  refine lv_aload_n hx hb d_LT_init_89 rfl (lv_at hl 0 rfl) ?_
  refine lv_bipush (v := 16) hx hb d_LT_init_90 (by decide) ?_
  obtain ⟨n59, w60, h61, hsh_30⟩ := im_bd2 hsh_29
  clear hsh_29
  refine im_newq' (t := 4) (C := "LanguageTags$Tag") hx hb hown (hts _ wd_147) (hAO _ (by decide)) (by decide) rfl hK hH hlo hz (by decide) (N' := 16) (by decide) (by decide) (Nat.le_of_ble_eq_true rfl) (Nat.le_of_ble_eq_true rfl) h61 d_LT_init_92 (fun H hH => ?_)
  have hz := im_z_al h61 hz
  obtain ⟨w62, h63, hsh_31⟩ := im_bd hsh_30
  clear hsh_30
  refine im_putF (v := .ref n59) hx hb hts inC_LT tyC_LT tyC_LT_ok nmC_LT hown hK hH (ci := 8) rfl 7 (by decide) (hts _ wd_182) rfl rfl hin rfl rfl rfl h63 d_LT_init_95 (fun H locs hH => ?_)
  have hz := im_z_p h63 hz
  refine lv_iconst (v := 0) hx hb d_LT_init_98 (by decide) ?_
  refine lv_istore_n (lv' := [(1, .int (0 : Int32)), (0, .ref (lo + x0))]) hx hb d_LT_init_99 rfl hl (by decide) rfl (fun ls hl => ?_)
  refine lv_iload_n hx hb d_LT_init_100 rfl (lv_at hl 0 rfl) ?_
  refine lv_bipush (v := 16) hx hb d_LT_init_101 (by decide) ?_
  refine lv_icmp_ge (tgt := 125) hx hb d_LT_init_103 (by decide) (fun cc => absurd cc (by decide)) (fun cc => ?_)
  refine lv_aload_n hx hb d_LT_init_106 rfl (lv_at hl 1 rfl) ?_
  obtain ⟨f64, h65, hsh_32⟩ := im_bd hsh_31
  clear hsh_31
  refine im_getR hx hb hts inC_LT hown hK hH (ci := 8) rfl 7 (by decide) (hts _ wd_182) rfl h65 d_LT_init_107 ?_
  refine lv_iload_n hx hb d_LT_init_110 rfl (lv_at hl 0 rfl) ?_
  obtain ⟨n66, w67, h68, hsh_33⟩ := im_bd2 hsh_32
  clear hsh_32
  refine im_new' (ci := 6) (fs := df0_Tag) hx hb hts inC_Tag tyC_Tag tyC_Tag_ok hown (hts _ wd_147) (hts _ wd_149) (hts _ wd_9) hK hH rfl hlo hz (dfC_Tag lo) (Nat.le_of_ble_eq_true rfl) (Nat.le_of_ble_eq_true rfl) h68 d_LT_init_111 (fun H hH => ?_)
  have hz := im_z_al h68 hz
  refine lv_dup hx hb d_LT_init_114 rfl ?_
  obtain ⟨w69, h70, hsh_34⟩ := im_bd hsh_33
  clear hsh_33
  obtain ⟨_, h71, hsh_35⟩ := im_bd hsh_34
  clear hsh_34
  refine im_sized (fun hsz => ?_)
  have hHz : H.size = lo + w67.1 := Nat.le_antisymm (Nat.le_trans hsz (Nat.le_of_eq hz)) (im_low hH hlo)
  refine im_afterC (va_runI (As := []) (rest := [.ref (lo + n66), .int (0 : Int32), .ref (lo + f64)]) ⟨hx, hb, hml, hown, hts⟩ (metc_Tag_init h70) ⟨(callB_of 0 hts (im_good wd_152) rfl rfl rfl (hts _ wd_9) (hts _ wd_150) (by decide +kernel) ⟨Nat.le_of_ble_eq_true rfl, Nat.le_of_ble_eq_true rfl⟩), rfl, hts _ wd_151⟩ (im_preC im_NW_ok hK hN hAO hH hHz _) rfl rfl hl.1 rfl (lv_room (Nat.le_of_ble_eq_true rfl)) d_LT_init_115 ⟨Nat.le_of_ble_eq_true rfl, Nat.le_of_ble_eq_true rfl⟩) hH (fun H locs hH => ?_)
  have hz := im_z_k h71 hz
  obtain ⟨w72, h73, hsh_36⟩ := im_bd hsh_35
  clear hsh_35
  refine im_aast hx hb hK hH (ci := 6) (r := (RC_Tag, TC_Tag, 4)) (by decide) rfl rfl h73 d_LT_init_118 (fun H locs hH => ?_)
  have hz := im_z_s h73 hz
  refine lv_iinc (v := (1 : Int32)) (lv' := [(1, .int (1 : Int32)), (0, .ref (lo + x0))]) hx hb d_LT_init_119 hl (k := 0) rfl (by decide) (by decide) rfl (fun ls hl => ?_)
  refine lv_goto (tgt := 100) hx hb d_LT_init_122 (by decide) ?_
  refine lv_iload_n hx hb d_LT_init_100 rfl (lv_at hl 0 rfl) ?_
  refine lv_bipush (v := 16) hx hb d_LT_init_101 (by decide) ?_
  refine lv_icmp_ge (tgt := 125) hx hb d_LT_init_103 (by decide) (fun cc => absurd cc (by decide)) (fun cc => ?_)
  refine lv_aload_n hx hb d_LT_init_106 rfl (lv_at hl 1 rfl) ?_
  obtain ⟨f74, h75, hsh_37⟩ := im_bd hsh_36
  clear hsh_36
  refine im_getR hx hb hts inC_LT hown hK hH (ci := 8) rfl 7 (by decide) (hts _ wd_182) rfl h75 d_LT_init_107 ?_
  refine lv_iload_n hx hb d_LT_init_110 rfl (lv_at hl 0 rfl) ?_
  obtain ⟨n76, w77, h78, hsh_38⟩ := im_bd2 hsh_37
  clear hsh_37
  refine im_new' (ci := 6) (fs := df0_Tag) hx hb hts inC_Tag tyC_Tag tyC_Tag_ok hown (hts _ wd_147) (hts _ wd_149) (hts _ wd_9) hK hH rfl hlo hz (dfC_Tag lo) (Nat.le_of_ble_eq_true rfl) (Nat.le_of_ble_eq_true rfl) h78 d_LT_init_111 (fun H hH => ?_)
  have hz := im_z_al h78 hz
  refine lv_dup hx hb d_LT_init_114 rfl ?_
  obtain ⟨w79, h80, hsh_39⟩ := im_bd hsh_38
  clear hsh_38
  obtain ⟨_, h81, hsh_40⟩ := im_bd hsh_39
  clear hsh_39
  refine im_sized (fun hsz => ?_)
  have hHz : H.size = lo + w77.1 := Nat.le_antisymm (Nat.le_trans hsz (Nat.le_of_eq hz)) (im_low hH hlo)
  refine im_afterC (va_runI (As := []) (rest := [.ref (lo + n76), .int (1 : Int32), .ref (lo + f74)]) ⟨hx, hb, hml, hown, hts⟩ (metc_Tag_init h80) ⟨(callB_of 0 hts (im_good wd_152) rfl rfl rfl (hts _ wd_9) (hts _ wd_150) (by decide +kernel) ⟨Nat.le_of_ble_eq_true rfl, Nat.le_of_ble_eq_true rfl⟩), rfl, hts _ wd_151⟩ (im_preC im_NW_ok hK hN hAO hH hHz _) rfl rfl hl.1 rfl (lv_room (Nat.le_of_ble_eq_true rfl)) d_LT_init_115 ⟨Nat.le_of_ble_eq_true rfl, Nat.le_of_ble_eq_true rfl⟩) hH (fun H locs hH => ?_)
  have hz := im_z_k h81 hz
  obtain ⟨w82, h83, hsh_41⟩ := im_bd hsh_40
  clear hsh_40
  refine im_aast hx hb hK hH (ci := 6) (r := (RC_Tag, TC_Tag, 4)) (by decide) rfl rfl h83 d_LT_init_118 (fun H locs hH => ?_)
  have hz := im_z_s h83 hz
  refine lv_iinc (v := (2 : Int32)) (lv' := [(1, .int (2 : Int32)), (0, .ref (lo + x0))]) hx hb d_LT_init_119 hl (k := 0) rfl (by decide) (by decide) rfl (fun ls hl => ?_)
  refine lv_goto (tgt := 100) hx hb d_LT_init_122 (by decide) ?_
  refine lv_iload_n hx hb d_LT_init_100 rfl (lv_at hl 0 rfl) ?_
  refine lv_bipush (v := 16) hx hb d_LT_init_101 (by decide) ?_
  refine lv_icmp_ge (tgt := 125) hx hb d_LT_init_103 (by decide) (fun cc => absurd cc (by decide)) (fun cc => ?_)
  refine lv_aload_n hx hb d_LT_init_106 rfl (lv_at hl 1 rfl) ?_
  obtain ⟨f84, h85, hsh_42⟩ := im_bd hsh_41
  clear hsh_41
  refine im_getR hx hb hts inC_LT hown hK hH (ci := 8) rfl 7 (by decide) (hts _ wd_182) rfl h85 d_LT_init_107 ?_
  refine lv_iload_n hx hb d_LT_init_110 rfl (lv_at hl 0 rfl) ?_
  obtain ⟨n86, w87, h88, hsh_43⟩ := im_bd2 hsh_42
  clear hsh_42
  refine im_new' (ci := 6) (fs := df0_Tag) hx hb hts inC_Tag tyC_Tag tyC_Tag_ok hown (hts _ wd_147) (hts _ wd_149) (hts _ wd_9) hK hH rfl hlo hz (dfC_Tag lo) (Nat.le_of_ble_eq_true rfl) (Nat.le_of_ble_eq_true rfl) h88 d_LT_init_111 (fun H hH => ?_)
  have hz := im_z_al h88 hz
  refine lv_dup hx hb d_LT_init_114 rfl ?_
  obtain ⟨w89, h90, hsh_44⟩ := im_bd hsh_43
  clear hsh_43
  obtain ⟨_, h91, hsh_45⟩ := im_bd hsh_44
  clear hsh_44
  refine im_sized (fun hsz => ?_)
  have hHz : H.size = lo + w87.1 := Nat.le_antisymm (Nat.le_trans hsz (Nat.le_of_eq hz)) (im_low hH hlo)
  refine im_afterC (va_runI (As := []) (rest := [.ref (lo + n86), .int (2 : Int32), .ref (lo + f84)]) ⟨hx, hb, hml, hown, hts⟩ (metc_Tag_init h90) ⟨(callB_of 0 hts (im_good wd_152) rfl rfl rfl (hts _ wd_9) (hts _ wd_150) (by decide +kernel) ⟨Nat.le_of_ble_eq_true rfl, Nat.le_of_ble_eq_true rfl⟩), rfl, hts _ wd_151⟩ (im_preC im_NW_ok hK hN hAO hH hHz _) rfl rfl hl.1 rfl (lv_room (Nat.le_of_ble_eq_true rfl)) d_LT_init_115 ⟨Nat.le_of_ble_eq_true rfl, Nat.le_of_ble_eq_true rfl⟩) hH (fun H locs hH => ?_)
  have hz := im_z_k h91 hz
  obtain ⟨w92, h93, hsh_46⟩ := im_bd hsh_45
  clear hsh_45
  refine im_aast hx hb hK hH (ci := 6) (r := (RC_Tag, TC_Tag, 4)) (by decide) rfl rfl h93 d_LT_init_118 (fun H locs hH => ?_)
  have hz := im_z_s h93 hz
  refine lv_iinc (v := (3 : Int32)) (lv' := [(1, .int (3 : Int32)), (0, .ref (lo + x0))]) hx hb d_LT_init_119 hl (k := 0) rfl (by decide) (by decide) rfl (fun ls hl => ?_)
  refine lv_goto (tgt := 100) hx hb d_LT_init_122 (by decide) ?_
  refine lv_iload_n hx hb d_LT_init_100 rfl (lv_at hl 0 rfl) ?_
  refine lv_bipush (v := 16) hx hb d_LT_init_101 (by decide) ?_
  refine lv_icmp_ge (tgt := 125) hx hb d_LT_init_103 (by decide) (fun cc => absurd cc (by decide)) (fun cc => ?_)
  refine lv_aload_n hx hb d_LT_init_106 rfl (lv_at hl 1 rfl) ?_
  obtain ⟨f94, h95, hsh_47⟩ := im_bd hsh_46
  clear hsh_46
  refine im_getR hx hb hts inC_LT hown hK hH (ci := 8) rfl 7 (by decide) (hts _ wd_182) rfl h95 d_LT_init_107 ?_
  refine lv_iload_n hx hb d_LT_init_110 rfl (lv_at hl 0 rfl) ?_
  obtain ⟨n96, w97, h98, hsh_48⟩ := im_bd2 hsh_47
  clear hsh_47
  refine im_new' (ci := 6) (fs := df0_Tag) hx hb hts inC_Tag tyC_Tag tyC_Tag_ok hown (hts _ wd_147) (hts _ wd_149) (hts _ wd_9) hK hH rfl hlo hz (dfC_Tag lo) (Nat.le_of_ble_eq_true rfl) (Nat.le_of_ble_eq_true rfl) h98 d_LT_init_111 (fun H hH => ?_)
  have hz := im_z_al h98 hz
  refine lv_dup hx hb d_LT_init_114 rfl ?_
  obtain ⟨w99, h100, hsh_49⟩ := im_bd hsh_48
  clear hsh_48
  obtain ⟨_, h101, hsh_50⟩ := im_bd hsh_49
  clear hsh_49
  refine im_sized (fun hsz => ?_)
  have hHz : H.size = lo + w97.1 := Nat.le_antisymm (Nat.le_trans hsz (Nat.le_of_eq hz)) (im_low hH hlo)
  refine im_afterC (va_runI (As := []) (rest := [.ref (lo + n96), .int (3 : Int32), .ref (lo + f94)]) ⟨hx, hb, hml, hown, hts⟩ (metc_Tag_init h100) ⟨(callB_of 0 hts (im_good wd_152) rfl rfl rfl (hts _ wd_9) (hts _ wd_150) (by decide +kernel) ⟨Nat.le_of_ble_eq_true rfl, Nat.le_of_ble_eq_true rfl⟩), rfl, hts _ wd_151⟩ (im_preC im_NW_ok hK hN hAO hH hHz _) rfl rfl hl.1 rfl (lv_room (Nat.le_of_ble_eq_true rfl)) d_LT_init_115 ⟨Nat.le_of_ble_eq_true rfl, Nat.le_of_ble_eq_true rfl⟩) hH (fun H locs hH => ?_)
  have hz := im_z_k h101 hz
  obtain ⟨w102, h103, hsh_51⟩ := im_bd hsh_50
  clear hsh_50
  refine im_aast hx hb hK hH (ci := 6) (r := (RC_Tag, TC_Tag, 4)) (by decide) rfl rfl h103 d_LT_init_118 (fun H locs hH => ?_)
  have hz := im_z_s h103 hz
  refine lv_iinc (v := (4 : Int32)) (lv' := [(1, .int (4 : Int32)), (0, .ref (lo + x0))]) hx hb d_LT_init_119 hl (k := 0) rfl (by decide) (by decide) rfl (fun ls hl => ?_)
  refine lv_goto (tgt := 100) hx hb d_LT_init_122 (by decide) ?_
  refine lv_iload_n hx hb d_LT_init_100 rfl (lv_at hl 0 rfl) ?_
  refine lv_bipush (v := 16) hx hb d_LT_init_101 (by decide) ?_
  refine lv_icmp_ge (tgt := 125) hx hb d_LT_init_103 (by decide) (fun cc => absurd cc (by decide)) (fun cc => ?_)
  refine lv_aload_n hx hb d_LT_init_106 rfl (lv_at hl 1 rfl) ?_
  obtain ⟨f104, h105, hsh_52⟩ := im_bd hsh_51
  clear hsh_51
  refine im_getR hx hb hts inC_LT hown hK hH (ci := 8) rfl 7 (by decide) (hts _ wd_182) rfl h105 d_LT_init_107 ?_
  refine lv_iload_n hx hb d_LT_init_110 rfl (lv_at hl 0 rfl) ?_
  obtain ⟨n106, w107, h108, hsh_53⟩ := im_bd2 hsh_52
  clear hsh_52
  refine im_new' (ci := 6) (fs := df0_Tag) hx hb hts inC_Tag tyC_Tag tyC_Tag_ok hown (hts _ wd_147) (hts _ wd_149) (hts _ wd_9) hK hH rfl hlo hz (dfC_Tag lo) (Nat.le_of_ble_eq_true rfl) (Nat.le_of_ble_eq_true rfl) h108 d_LT_init_111 (fun H hH => ?_)
  have hz := im_z_al h108 hz
  refine lv_dup hx hb d_LT_init_114 rfl ?_
  obtain ⟨w109, h110, hsh_54⟩ := im_bd hsh_53
  clear hsh_53
  obtain ⟨_, h111, hsh_55⟩ := im_bd hsh_54
  clear hsh_54
  refine im_sized (fun hsz => ?_)
  have hHz : H.size = lo + w107.1 := Nat.le_antisymm (Nat.le_trans hsz (Nat.le_of_eq hz)) (im_low hH hlo)
  refine im_afterC (va_runI (As := []) (rest := [.ref (lo + n106), .int (4 : Int32), .ref (lo + f104)]) ⟨hx, hb, hml, hown, hts⟩ (metc_Tag_init h110) ⟨(callB_of 0 hts (im_good wd_152) rfl rfl rfl (hts _ wd_9) (hts _ wd_150) (by decide +kernel) ⟨Nat.le_of_ble_eq_true rfl, Nat.le_of_ble_eq_true rfl⟩), rfl, hts _ wd_151⟩ (im_preC im_NW_ok hK hN hAO hH hHz _) rfl rfl hl.1 rfl (lv_room (Nat.le_of_ble_eq_true rfl)) d_LT_init_115 ⟨Nat.le_of_ble_eq_true rfl, Nat.le_of_ble_eq_true rfl⟩) hH (fun H locs hH => ?_)
  have hz := im_z_k h111 hz
  obtain ⟨w112, h113, hsh_56⟩ := im_bd hsh_55
  clear hsh_55
  refine im_aast hx hb hK hH (ci := 6) (r := (RC_Tag, TC_Tag, 4)) (by decide) rfl rfl h113 d_LT_init_118 (fun H locs hH => ?_)
  have hz := im_z_s h113 hz
  refine lv_iinc (v := (5 : Int32)) (lv' := [(1, .int (5 : Int32)), (0, .ref (lo + x0))]) hx hb d_LT_init_119 hl (k := 0) rfl (by decide) (by decide) rfl (fun ls hl => ?_)
  refine lv_goto (tgt := 100) hx hb d_LT_init_122 (by decide) ?_
  refine lv_iload_n hx hb d_LT_init_100 rfl (lv_at hl 0 rfl) ?_
  refine lv_bipush (v := 16) hx hb d_LT_init_101 (by decide) ?_
  refine lv_icmp_ge (tgt := 125) hx hb d_LT_init_103 (by decide) (fun cc => absurd cc (by decide)) (fun cc => ?_)
  refine lv_aload_n hx hb d_LT_init_106 rfl (lv_at hl 1 rfl) ?_
  obtain ⟨f114, h115, hsh_57⟩ := im_bd hsh_56
  clear hsh_56
  refine im_getR hx hb hts inC_LT hown hK hH (ci := 8) rfl 7 (by decide) (hts _ wd_182) rfl h115 d_LT_init_107 ?_
  refine lv_iload_n hx hb d_LT_init_110 rfl (lv_at hl 0 rfl) ?_
  obtain ⟨n116, w117, h118, hsh_58⟩ := im_bd2 hsh_57
  clear hsh_57
  refine im_new' (ci := 6) (fs := df0_Tag) hx hb hts inC_Tag tyC_Tag tyC_Tag_ok hown (hts _ wd_147) (hts _ wd_149) (hts _ wd_9) hK hH rfl hlo hz (dfC_Tag lo) (Nat.le_of_ble_eq_true rfl) (Nat.le_of_ble_eq_true rfl) h118 d_LT_init_111 (fun H hH => ?_)
  have hz := im_z_al h118 hz
  refine lv_dup hx hb d_LT_init_114 rfl ?_
  obtain ⟨w119, h120, hsh_59⟩ := im_bd hsh_58
  clear hsh_58
  obtain ⟨_, h121, hsh_60⟩ := im_bd hsh_59
  clear hsh_59
  refine im_sized (fun hsz => ?_)
  have hHz : H.size = lo + w117.1 := Nat.le_antisymm (Nat.le_trans hsz (Nat.le_of_eq hz)) (im_low hH hlo)
  refine im_afterC (va_runI (As := []) (rest := [.ref (lo + n116), .int (5 : Int32), .ref (lo + f114)]) ⟨hx, hb, hml, hown, hts⟩ (metc_Tag_init h120) ⟨(callB_of 0 hts (im_good wd_152) rfl rfl rfl (hts _ wd_9) (hts _ wd_150) (by decide +kernel) ⟨Nat.le_of_ble_eq_true rfl, Nat.le_of_ble_eq_true rfl⟩), rfl, hts _ wd_151⟩ (im_preC im_NW_ok hK hN hAO hH hHz _) rfl rfl hl.1 rfl (lv_room (Nat.le_of_ble_eq_true rfl)) d_LT_init_115 ⟨Nat.le_of_ble_eq_true rfl, Nat.le_of_ble_eq_true rfl⟩) hH (fun H locs hH => ?_)
  have hz := im_z_k h121 hz
  obtain ⟨w122, h123, hsh_61⟩ := im_bd hsh_60
  clear hsh_60
  refine im_aast hx hb hK hH (ci := 6) (r := (RC_Tag, TC_Tag, 4)) (by decide) rfl rfl h123 d_LT_init_118 (fun H locs hH => ?_)
  have hz := im_z_s h123 hz
  refine lv_iinc (v := (6 : Int32)) (lv' := [(1, .int (6 : Int32)), (0, .ref (lo + x0))]) hx hb d_LT_init_119 hl (k := 0) rfl (by decide) (by decide) rfl (fun ls hl => ?_)
  refine lv_goto (tgt := 100) hx hb d_LT_init_122 (by decide) ?_
  refine lv_iload_n hx hb d_LT_init_100 rfl (lv_at hl 0 rfl) ?_
  refine lv_bipush (v := 16) hx hb d_LT_init_101 (by decide) ?_
  refine lv_icmp_ge (tgt := 125) hx hb d_LT_init_103 (by decide) (fun cc => absurd cc (by decide)) (fun cc => ?_)
  refine lv_aload_n hx hb d_LT_init_106 rfl (lv_at hl 1 rfl) ?_
  obtain ⟨f124, h125, hsh_62⟩ := im_bd hsh_61
  clear hsh_61
  refine im_getR hx hb hts inC_LT hown hK hH (ci := 8) rfl 7 (by decide) (hts _ wd_182) rfl h125 d_LT_init_107 ?_
  refine lv_iload_n hx hb d_LT_init_110 rfl (lv_at hl 0 rfl) ?_
  obtain ⟨n126, w127, h128, hsh_63⟩ := im_bd2 hsh_62
  clear hsh_62
  refine im_new' (ci := 6) (fs := df0_Tag) hx hb hts inC_Tag tyC_Tag tyC_Tag_ok hown (hts _ wd_147) (hts _ wd_149) (hts _ wd_9) hK hH rfl hlo hz (dfC_Tag lo) (Nat.le_of_ble_eq_true rfl) (Nat.le_of_ble_eq_true rfl) h128 d_LT_init_111 (fun H hH => ?_)
  have hz := im_z_al h128 hz
  refine lv_dup hx hb d_LT_init_114 rfl ?_
  obtain ⟨w129, h130, hsh_64⟩ := im_bd hsh_63
  clear hsh_63
  obtain ⟨_, h131, hsh_65⟩ := im_bd hsh_64
  clear hsh_64
  refine im_sized (fun hsz => ?_)
  have hHz : H.size = lo + w127.1 := Nat.le_antisymm (Nat.le_trans hsz (Nat.le_of_eq hz)) (im_low hH hlo)
  refine im_afterC (va_runI (As := []) (rest := [.ref (lo + n126), .int (6 : Int32), .ref (lo + f124)]) ⟨hx, hb, hml, hown, hts⟩ (metc_Tag_init h130) ⟨(callB_of 0 hts (im_good wd_152) rfl rfl rfl (hts _ wd_9) (hts _ wd_150) (by decide +kernel) ⟨Nat.le_of_ble_eq_true rfl, Nat.le_of_ble_eq_true rfl⟩), rfl, hts _ wd_151⟩ (im_preC im_NW_ok hK hN hAO hH hHz _) rfl rfl hl.1 rfl (lv_room (Nat.le_of_ble_eq_true rfl)) d_LT_init_115 ⟨Nat.le_of_ble_eq_true rfl, Nat.le_of_ble_eq_true rfl⟩) hH (fun H locs hH => ?_)
  have hz := im_z_k h131 hz
  obtain ⟨w132, h133, hsh_66⟩ := im_bd hsh_65
  clear hsh_65
  refine im_aast hx hb hK hH (ci := 6) (r := (RC_Tag, TC_Tag, 4)) (by decide) rfl rfl h133 d_LT_init_118 (fun H locs hH => ?_)
  have hz := im_z_s h133 hz
  refine lv_iinc (v := (7 : Int32)) (lv' := [(1, .int (7 : Int32)), (0, .ref (lo + x0))]) hx hb d_LT_init_119 hl (k := 0) rfl (by decide) (by decide) rfl (fun ls hl => ?_)
  refine lv_goto (tgt := 100) hx hb d_LT_init_122 (by decide) ?_
  refine lv_iload_n hx hb d_LT_init_100 rfl (lv_at hl 0 rfl) ?_
  refine lv_bipush (v := 16) hx hb d_LT_init_101 (by decide) ?_
  refine lv_icmp_ge (tgt := 125) hx hb d_LT_init_103 (by decide) (fun cc => absurd cc (by decide)) (fun cc => ?_)
  refine lv_aload_n hx hb d_LT_init_106 rfl (lv_at hl 1 rfl) ?_
  obtain ⟨f134, h135, hsh_67⟩ := im_bd hsh_66
  clear hsh_66
  refine im_getR hx hb hts inC_LT hown hK hH (ci := 8) rfl 7 (by decide) (hts _ wd_182) rfl h135 d_LT_init_107 ?_
  refine lv_iload_n hx hb d_LT_init_110 rfl (lv_at hl 0 rfl) ?_
  obtain ⟨n136, w137, h138, hsh_68⟩ := im_bd2 hsh_67
  clear hsh_67
  refine im_new' (ci := 6) (fs := df0_Tag) hx hb hts inC_Tag tyC_Tag tyC_Tag_ok hown (hts _ wd_147) (hts _ wd_149) (hts _ wd_9) hK hH rfl hlo hz (dfC_Tag lo) (Nat.le_of_ble_eq_true rfl) (Nat.le_of_ble_eq_true rfl) h138 d_LT_init_111 (fun H hH => ?_)
  have hz := im_z_al h138 hz
  refine lv_dup hx hb d_LT_init_114 rfl ?_
  obtain ⟨w139, h140, hsh_69⟩ := im_bd hsh_68
  clear hsh_68
  obtain ⟨_, h141, hsh_70⟩ := im_bd hsh_69
  clear hsh_69
  refine im_sized (fun hsz => ?_)
  have hHz : H.size = lo + w137.1 := Nat.le_antisymm (Nat.le_trans hsz (Nat.le_of_eq hz)) (im_low hH hlo)
  refine im_afterC (va_runI (As := []) (rest := [.ref (lo + n136), .int (7 : Int32), .ref (lo + f134)]) ⟨hx, hb, hml, hown, hts⟩ (metc_Tag_init h140) ⟨(callB_of 0 hts (im_good wd_152) rfl rfl rfl (hts _ wd_9) (hts _ wd_150) (by decide +kernel) ⟨Nat.le_of_ble_eq_true rfl, Nat.le_of_ble_eq_true rfl⟩), rfl, hts _ wd_151⟩ (im_preC im_NW_ok hK hN hAO hH hHz _) rfl rfl hl.1 rfl (lv_room (Nat.le_of_ble_eq_true rfl)) d_LT_init_115 ⟨Nat.le_of_ble_eq_true rfl, Nat.le_of_ble_eq_true rfl⟩) hH (fun H locs hH => ?_)
  have hz := im_z_k h141 hz
  obtain ⟨w142, h143, hsh_71⟩ := im_bd hsh_70
  clear hsh_70
  refine im_aast hx hb hK hH (ci := 6) (r := (RC_Tag, TC_Tag, 4)) (by decide) rfl rfl h143 d_LT_init_118 (fun H locs hH => ?_)
  have hz := im_z_s h143 hz
  refine lv_iinc (v := (8 : Int32)) (lv' := [(1, .int (8 : Int32)), (0, .ref (lo + x0))]) hx hb d_LT_init_119 hl (k := 0) rfl (by decide) (by decide) rfl (fun ls hl => ?_)
  refine lv_goto (tgt := 100) hx hb d_LT_init_122 (by decide) ?_
  refine lv_iload_n hx hb d_LT_init_100 rfl (lv_at hl 0 rfl) ?_
  refine lv_bipush (v := 16) hx hb d_LT_init_101 (by decide) ?_
  refine lv_icmp_ge (tgt := 125) hx hb d_LT_init_103 (by decide) (fun cc => absurd cc (by decide)) (fun cc => ?_)
  refine lv_aload_n hx hb d_LT_init_106 rfl (lv_at hl 1 rfl) ?_
  obtain ⟨f144, h145, hsh_72⟩ := im_bd hsh_71
  clear hsh_71
  refine im_getR hx hb hts inC_LT hown hK hH (ci := 8) rfl 7 (by decide) (hts _ wd_182) rfl h145 d_LT_init_107 ?_
  refine lv_iload_n hx hb d_LT_init_110 rfl (lv_at hl 0 rfl) ?_
  obtain ⟨n146, w147, h148, hsh_73⟩ := im_bd2 hsh_72
  clear hsh_72
  refine im_new' (ci := 6) (fs := df0_Tag) hx hb hts inC_Tag tyC_Tag tyC_Tag_ok hown (hts _ wd_147) (hts _ wd_149) (hts _ wd_9) hK hH rfl hlo hz (dfC_Tag lo) (Nat.le_of_ble_eq_true rfl) (Nat.le_of_ble_eq_true rfl) h148 d_LT_init_111 (fun H hH => ?_)
  have hz := im_z_al h148 hz
  refine lv_dup hx hb d_LT_init_114 rfl ?_
  obtain ⟨w149, h150, hsh_74⟩ := im_bd hsh_73
  clear hsh_73
  obtain ⟨_, h151, hsh_75⟩ := im_bd hsh_74
  clear hsh_74
  refine im_sized (fun hsz => ?_)
  have hHz : H.size = lo + w147.1 := Nat.le_antisymm (Nat.le_trans hsz (Nat.le_of_eq hz)) (im_low hH hlo)
  refine im_afterC (va_runI (As := []) (rest := [.ref (lo + n146), .int (8 : Int32), .ref (lo + f144)]) ⟨hx, hb, hml, hown, hts⟩ (metc_Tag_init h150) ⟨(callB_of 0 hts (im_good wd_152) rfl rfl rfl (hts _ wd_9) (hts _ wd_150) (by decide +kernel) ⟨Nat.le_of_ble_eq_true rfl, Nat.le_of_ble_eq_true rfl⟩), rfl, hts _ wd_151⟩ (im_preC im_NW_ok hK hN hAO hH hHz _) rfl rfl hl.1 rfl (lv_room (Nat.le_of_ble_eq_true rfl)) d_LT_init_115 ⟨Nat.le_of_ble_eq_true rfl, Nat.le_of_ble_eq_true rfl⟩) hH (fun H locs hH => ?_)
  have hz := im_z_k h151 hz
  obtain ⟨w152, h153, hsh_76⟩ := im_bd hsh_75
  clear hsh_75
  refine im_aast hx hb hK hH (ci := 6) (r := (RC_Tag, TC_Tag, 4)) (by decide) rfl rfl h153 d_LT_init_118 (fun H locs hH => ?_)
  have hz := im_z_s h153 hz
  refine lv_iinc (v := (9 : Int32)) (lv' := [(1, .int (9 : Int32)), (0, .ref (lo + x0))]) hx hb d_LT_init_119 hl (k := 0) rfl (by decide) (by decide) rfl (fun ls hl => ?_)
  refine lv_goto (tgt := 100) hx hb d_LT_init_122 (by decide) ?_
  refine lv_iload_n hx hb d_LT_init_100 rfl (lv_at hl 0 rfl) ?_
  refine lv_bipush (v := 16) hx hb d_LT_init_101 (by decide) ?_
  refine lv_icmp_ge (tgt := 125) hx hb d_LT_init_103 (by decide) (fun cc => absurd cc (by decide)) (fun cc => ?_)
  refine lv_aload_n hx hb d_LT_init_106 rfl (lv_at hl 1 rfl) ?_
  obtain ⟨f154, h155, hsh_77⟩ := im_bd hsh_76
  clear hsh_76
  refine im_getR hx hb hts inC_LT hown hK hH (ci := 8) rfl 7 (by decide) (hts _ wd_182) rfl h155 d_LT_init_107 ?_
  refine lv_iload_n hx hb d_LT_init_110 rfl (lv_at hl 0 rfl) ?_
  obtain ⟨n156, w157, h158, hsh_78⟩ := im_bd2 hsh_77
  clear hsh_77
  refine im_new' (ci := 6) (fs := df0_Tag) hx hb hts inC_Tag tyC_Tag tyC_Tag_ok hown (hts _ wd_147) (hts _ wd_149) (hts _ wd_9) hK hH rfl hlo hz (dfC_Tag lo) (Nat.le_of_ble_eq_true rfl) (Nat.le_of_ble_eq_true rfl) h158 d_LT_init_111 (fun H hH => ?_)
  have hz := im_z_al h158 hz
  refine lv_dup hx hb d_LT_init_114 rfl ?_
  obtain ⟨w159, h160, hsh_79⟩ := im_bd hsh_78
  clear hsh_78
  obtain ⟨_, h161, hsh_80⟩ := im_bd hsh_79
  clear hsh_79
  refine im_sized (fun hsz => ?_)
  have hHz : H.size = lo + w157.1 := Nat.le_antisymm (Nat.le_trans hsz (Nat.le_of_eq hz)) (im_low hH hlo)
  refine im_afterC (va_runI (As := []) (rest := [.ref (lo + n156), .int (9 : Int32), .ref (lo + f154)]) ⟨hx, hb, hml, hown, hts⟩ (metc_Tag_init h160) ⟨(callB_of 0 hts (im_good wd_152) rfl rfl rfl (hts _ wd_9) (hts _ wd_150) (by decide +kernel) ⟨Nat.le_of_ble_eq_true rfl, Nat.le_of_ble_eq_true rfl⟩), rfl, hts _ wd_151⟩ (im_preC im_NW_ok hK hN hAO hH hHz _) rfl rfl hl.1 rfl (lv_room (Nat.le_of_ble_eq_true rfl)) d_LT_init_115 ⟨Nat.le_of_ble_eq_true rfl, Nat.le_of_ble_eq_true rfl⟩) hH (fun H locs hH => ?_)
  have hz := im_z_k h161 hz
  obtain ⟨w162, h163, hsh_81⟩ := im_bd hsh_80
  clear hsh_80
  refine im_aast hx hb hK hH (ci := 6) (r := (RC_Tag, TC_Tag, 4)) (by decide) rfl rfl h163 d_LT_init_118 (fun H locs hH => ?_)
  have hz := im_z_s h163 hz
  refine lv_iinc (v := (10 : Int32)) (lv' := [(1, .int (10 : Int32)), (0, .ref (lo + x0))]) hx hb d_LT_init_119 hl (k := 0) rfl (by decide) (by decide) rfl (fun ls hl => ?_)
  refine lv_goto (tgt := 100) hx hb d_LT_init_122 (by decide) ?_
  refine lv_iload_n hx hb d_LT_init_100 rfl (lv_at hl 0 rfl) ?_
  refine lv_bipush (v := 16) hx hb d_LT_init_101 (by decide) ?_
  refine lv_icmp_ge (tgt := 125) hx hb d_LT_init_103 (by decide) (fun cc => absurd cc (by decide)) (fun cc => ?_)
  refine lv_aload_n hx hb d_LT_init_106 rfl (lv_at hl 1 rfl) ?_
  obtain ⟨f164, h165, hsh_82⟩ := im_bd hsh_81
  clear hsh_81
  refine im_getR hx hb hts inC_LT hown hK hH (ci := 8) rfl 7 (by decide) (hts _ wd_182) rfl h165 d_LT_init_107 ?_
  refine lv_iload_n hx hb d_LT_init_110 rfl (lv_at hl 0 rfl) ?_
  obtain ⟨n166, w167, h168, hsh_83⟩ := im_bd2 hsh_82
  clear hsh_82
  refine im_new' (ci := 6) (fs := df0_Tag) hx hb hts inC_Tag tyC_Tag tyC_Tag_ok hown (hts _ wd_147) (hts _ wd_149) (hts _ wd_9) hK hH rfl hlo hz (dfC_Tag lo) (Nat.le_of_ble_eq_true rfl) (Nat.le_of_ble_eq_true rfl) h168 d_LT_init_111 (fun H hH => ?_)
  have hz := im_z_al h168 hz
  refine lv_dup hx hb d_LT_init_114 rfl ?_
  obtain ⟨w169, h170, hsh_84⟩ := im_bd hsh_83
  clear hsh_83
  obtain ⟨_, h171, hsh_85⟩ := im_bd hsh_84
  clear hsh_84
  refine im_sized (fun hsz => ?_)
  have hHz : H.size = lo + w167.1 := Nat.le_antisymm (Nat.le_trans hsz (Nat.le_of_eq hz)) (im_low hH hlo)
  refine im_afterC (va_runI (As := []) (rest := [.ref (lo + n166), .int (10 : Int32), .ref (lo + f164)]) ⟨hx, hb, hml, hown, hts⟩ (metc_Tag_init h170) ⟨(callB_of 0 hts (im_good wd_152) rfl rfl rfl (hts _ wd_9) (hts _ wd_150) (by decide +kernel) ⟨Nat.le_of_ble_eq_true rfl, Nat.le_of_ble_eq_true rfl⟩), rfl, hts _ wd_151⟩ (im_preC im_NW_ok hK hN hAO hH hHz _) rfl rfl hl.1 rfl (lv_room (Nat.le_of_ble_eq_true rfl)) d_LT_init_115 ⟨Nat.le_of_ble_eq_true rfl, Nat.le_of_ble_eq_true rfl⟩) hH (fun H locs hH => ?_)
  have hz := im_z_k h171 hz
  obtain ⟨w172, h173, hsh_86⟩ := im_bd hsh_85
  clear hsh_85
  refine im_aast hx hb hK hH (ci := 6) (r := (RC_Tag, TC_Tag, 4)) (by decide) rfl rfl h173 d_LT_init_118 (fun H locs hH => ?_)
  have hz := im_z_s h173 hz
  refine lv_iinc (v := (11 : Int32)) (lv' := [(1, .int (11 : Int32)), (0, .ref (lo + x0))]) hx hb d_LT_init_119 hl (k := 0) rfl (by decide) (by decide) rfl (fun ls hl => ?_)
  refine lv_goto (tgt := 100) hx hb d_LT_init_122 (by decide) ?_
  refine lv_iload_n hx hb d_LT_init_100 rfl (lv_at hl 0 rfl) ?_
  refine lv_bipush (v := 16) hx hb d_LT_init_101 (by decide) ?_
  refine lv_icmp_ge (tgt := 125) hx hb d_LT_init_103 (by decide) (fun cc => absurd cc (by decide)) (fun cc => ?_)
  refine lv_aload_n hx hb d_LT_init_106 rfl (lv_at hl 1 rfl) ?_
  obtain ⟨f174, h175, hsh_87⟩ := im_bd hsh_86
  clear hsh_86
  refine im_getR hx hb hts inC_LT hown hK hH (ci := 8) rfl 7 (by decide) (hts _ wd_182) rfl h175 d_LT_init_107 ?_
  refine lv_iload_n hx hb d_LT_init_110 rfl (lv_at hl 0 rfl) ?_
  obtain ⟨n176, w177, h178, hsh_88⟩ := im_bd2 hsh_87
  clear hsh_87
  refine im_new' (ci := 6) (fs := df0_Tag) hx hb hts inC_Tag tyC_Tag tyC_Tag_ok hown (hts _ wd_147) (hts _ wd_149) (hts _ wd_9) hK hH rfl hlo hz (dfC_Tag lo) (Nat.le_of_ble_eq_true rfl) (Nat.le_of_ble_eq_true rfl) h178 d_LT_init_111 (fun H hH => ?_)
  have hz := im_z_al h178 hz
  refine lv_dup hx hb d_LT_init_114 rfl ?_
  obtain ⟨w179, h180, hsh_89⟩ := im_bd hsh_88
  clear hsh_88
  obtain ⟨_, h181, hsh_90⟩ := im_bd hsh_89
  clear hsh_89
  refine im_sized (fun hsz => ?_)
  have hHz : H.size = lo + w177.1 := Nat.le_antisymm (Nat.le_trans hsz (Nat.le_of_eq hz)) (im_low hH hlo)
  refine im_afterC (va_runI (As := []) (rest := [.ref (lo + n176), .int (11 : Int32), .ref (lo + f174)]) ⟨hx, hb, hml, hown, hts⟩ (metc_Tag_init h180) ⟨(callB_of 0 hts (im_good wd_152) rfl rfl rfl (hts _ wd_9) (hts _ wd_150) (by decide +kernel) ⟨Nat.le_of_ble_eq_true rfl, Nat.le_of_ble_eq_true rfl⟩), rfl, hts _ wd_151⟩ (im_preC im_NW_ok hK hN hAO hH hHz _) rfl rfl hl.1 rfl (lv_room (Nat.le_of_ble_eq_true rfl)) d_LT_init_115 ⟨Nat.le_of_ble_eq_true rfl, Nat.le_of_ble_eq_true rfl⟩) hH (fun H locs hH => ?_)
  have hz := im_z_k h181 hz
  obtain ⟨w182, h183, hsh_91⟩ := im_bd hsh_90
  clear hsh_90
  refine im_aast hx hb hK hH (ci := 6) (r := (RC_Tag, TC_Tag, 4)) (by decide) rfl rfl h183 d_LT_init_118 (fun H locs hH => ?_)
  have hz := im_z_s h183 hz
  refine lv_iinc (v := (12 : Int32)) (lv' := [(1, .int (12 : Int32)), (0, .ref (lo + x0))]) hx hb d_LT_init_119 hl (k := 0) rfl (by decide) (by decide) rfl (fun ls hl => ?_)
  refine lv_goto (tgt := 100) hx hb d_LT_init_122 (by decide) ?_
  refine lv_iload_n hx hb d_LT_init_100 rfl (lv_at hl 0 rfl) ?_
  refine lv_bipush (v := 16) hx hb d_LT_init_101 (by decide) ?_
  refine lv_icmp_ge (tgt := 125) hx hb d_LT_init_103 (by decide) (fun cc => absurd cc (by decide)) (fun cc => ?_)
  refine lv_aload_n hx hb d_LT_init_106 rfl (lv_at hl 1 rfl) ?_
  obtain ⟨f184, h185, hsh_92⟩ := im_bd hsh_91
  clear hsh_91
  refine im_getR hx hb hts inC_LT hown hK hH (ci := 8) rfl 7 (by decide) (hts _ wd_182) rfl h185 d_LT_init_107 ?_
  refine lv_iload_n hx hb d_LT_init_110 rfl (lv_at hl 0 rfl) ?_
  obtain ⟨n186, w187, h188, hsh_93⟩ := im_bd2 hsh_92
  clear hsh_92
  refine im_new' (ci := 6) (fs := df0_Tag) hx hb hts inC_Tag tyC_Tag tyC_Tag_ok hown (hts _ wd_147) (hts _ wd_149) (hts _ wd_9) hK hH rfl hlo hz (dfC_Tag lo) (Nat.le_of_ble_eq_true rfl) (Nat.le_of_ble_eq_true rfl) h188 d_LT_init_111 (fun H hH => ?_)
  have hz := im_z_al h188 hz
  refine lv_dup hx hb d_LT_init_114 rfl ?_
  obtain ⟨w189, h190, hsh_94⟩ := im_bd hsh_93
  clear hsh_93
  obtain ⟨_, h191, hsh_95⟩ := im_bd hsh_94
  clear hsh_94
  refine im_sized (fun hsz => ?_)
  have hHz : H.size = lo + w187.1 := Nat.le_antisymm (Nat.le_trans hsz (Nat.le_of_eq hz)) (im_low hH hlo)
  refine im_afterC (va_runI (As := []) (rest := [.ref (lo + n186), .int (12 : Int32), .ref (lo + f184)]) ⟨hx, hb, hml, hown, hts⟩ (metc_Tag_init h190) ⟨(callB_of 0 hts (im_good wd_152) rfl rfl rfl (hts _ wd_9) (hts _ wd_150) (by decide +kernel) ⟨Nat.le_of_ble_eq_true rfl, Nat.le_of_ble_eq_true rfl⟩), rfl, hts _ wd_151⟩ (im_preC im_NW_ok hK hN hAO hH hHz _) rfl rfl hl.1 rfl (lv_room (Nat.le_of_ble_eq_true rfl)) d_LT_init_115 ⟨Nat.le_of_ble_eq_true rfl, Nat.le_of_ble_eq_true rfl⟩) hH (fun H locs hH => ?_)
  have hz := im_z_k h191 hz
  obtain ⟨w192, h193, hsh_96⟩ := im_bd hsh_95
  clear hsh_95
  refine im_aast hx hb hK hH (ci := 6) (r := (RC_Tag, TC_Tag, 4)) (by decide) rfl rfl h193 d_LT_init_118 (fun H locs hH => ?_)
  have hz := im_z_s h193 hz
  refine lv_iinc (v := (13 : Int32)) (lv' := [(1, .int (13 : Int32)), (0, .ref (lo + x0))]) hx hb d_LT_init_119 hl (k := 0) rfl (by decide) (by decide) rfl (fun ls hl => ?_)
  refine lv_goto (tgt := 100) hx hb d_LT_init_122 (by decide) ?_
  refine lv_iload_n hx hb d_LT_init_100 rfl (lv_at hl 0 rfl) ?_
  refine lv_bipush (v := 16) hx hb d_LT_init_101 (by decide) ?_
  refine lv_icmp_ge (tgt := 125) hx hb d_LT_init_103 (by decide) (fun cc => absurd cc (by decide)) (fun cc => ?_)
  refine lv_aload_n hx hb d_LT_init_106 rfl (lv_at hl 1 rfl) ?_
  obtain ⟨f194, h195, hsh_97⟩ := im_bd hsh_96
  clear hsh_96
  refine im_getR hx hb hts inC_LT hown hK hH (ci := 8) rfl 7 (by decide) (hts _ wd_182) rfl h195 d_LT_init_107 ?_
  refine lv_iload_n hx hb d_LT_init_110 rfl (lv_at hl 0 rfl) ?_
  obtain ⟨n196, w197, h198, hsh_98⟩ := im_bd2 hsh_97
  clear hsh_97
  refine im_new' (ci := 6) (fs := df0_Tag) hx hb hts inC_Tag tyC_Tag tyC_Tag_ok hown (hts _ wd_147) (hts _ wd_149) (hts _ wd_9) hK hH rfl hlo hz (dfC_Tag lo) (Nat.le_of_ble_eq_true rfl) (Nat.le_of_ble_eq_true rfl) h198 d_LT_init_111 (fun H hH => ?_)
  have hz := im_z_al h198 hz
  refine lv_dup hx hb d_LT_init_114 rfl ?_
  obtain ⟨w199, h200, hsh_99⟩ := im_bd hsh_98
  clear hsh_98
  obtain ⟨_, h201, hsh_100⟩ := im_bd hsh_99
  clear hsh_99
  refine im_sized (fun hsz => ?_)
  have hHz : H.size = lo + w197.1 := Nat.le_antisymm (Nat.le_trans hsz (Nat.le_of_eq hz)) (im_low hH hlo)
  refine im_afterC (va_runI (As := []) (rest := [.ref (lo + n196), .int (13 : Int32), .ref (lo + f194)]) ⟨hx, hb, hml, hown, hts⟩ (metc_Tag_init h200) ⟨(callB_of 0 hts (im_good wd_152) rfl rfl rfl (hts _ wd_9) (hts _ wd_150) (by decide +kernel) ⟨Nat.le_of_ble_eq_true rfl, Nat.le_of_ble_eq_true rfl⟩), rfl, hts _ wd_151⟩ (im_preC im_NW_ok hK hN hAO hH hHz _) rfl rfl hl.1 rfl (lv_room (Nat.le_of_ble_eq_true rfl)) d_LT_init_115 ⟨Nat.le_of_ble_eq_true rfl, Nat.le_of_ble_eq_true rfl⟩) hH (fun H locs hH => ?_)
  have hz := im_z_k h201 hz
  obtain ⟨w202, h203, hsh_101⟩ := im_bd hsh_100
  clear hsh_100
  refine im_aast hx hb hK hH (ci := 6) (r := (RC_Tag, TC_Tag, 4)) (by decide) rfl rfl h203 d_LT_init_118 (fun H locs hH => ?_)
  have hz := im_z_s h203 hz
  refine lv_iinc (v := (14 : Int32)) (lv' := [(1, .int (14 : Int32)), (0, .ref (lo + x0))]) hx hb d_LT_init_119 hl (k := 0) rfl (by decide) (by decide) rfl (fun ls hl => ?_)
  refine lv_goto (tgt := 100) hx hb d_LT_init_122 (by decide) ?_
  refine lv_iload_n hx hb d_LT_init_100 rfl (lv_at hl 0 rfl) ?_
  refine lv_bipush (v := 16) hx hb d_LT_init_101 (by decide) ?_
  refine lv_icmp_ge (tgt := 125) hx hb d_LT_init_103 (by decide) (fun cc => absurd cc (by decide)) (fun cc => ?_)
  refine lv_aload_n hx hb d_LT_init_106 rfl (lv_at hl 1 rfl) ?_
  obtain ⟨f204, h205, hsh_102⟩ := im_bd hsh_101
  clear hsh_101
  refine im_getR hx hb hts inC_LT hown hK hH (ci := 8) rfl 7 (by decide) (hts _ wd_182) rfl h205 d_LT_init_107 ?_
  refine lv_iload_n hx hb d_LT_init_110 rfl (lv_at hl 0 rfl) ?_
  obtain ⟨n206, w207, h208, hsh_103⟩ := im_bd2 hsh_102
  clear hsh_102
  refine im_new' (ci := 6) (fs := df0_Tag) hx hb hts inC_Tag tyC_Tag tyC_Tag_ok hown (hts _ wd_147) (hts _ wd_149) (hts _ wd_9) hK hH rfl hlo hz (dfC_Tag lo) (Nat.le_of_ble_eq_true rfl) (Nat.le_of_ble_eq_true rfl) h208 d_LT_init_111 (fun H hH => ?_)
  have hz := im_z_al h208 hz
  refine lv_dup hx hb d_LT_init_114 rfl ?_
  obtain ⟨w209, h210, hsh_104⟩ := im_bd hsh_103
  clear hsh_103
  obtain ⟨_, h211, hsh_105⟩ := im_bd hsh_104
  clear hsh_104
  refine im_sized (fun hsz => ?_)
  have hHz : H.size = lo + w207.1 := Nat.le_antisymm (Nat.le_trans hsz (Nat.le_of_eq hz)) (im_low hH hlo)
  refine im_afterC (va_runI (As := []) (rest := [.ref (lo + n206), .int (14 : Int32), .ref (lo + f204)]) ⟨hx, hb, hml, hown, hts⟩ (metc_Tag_init h210) ⟨(callB_of 0 hts (im_good wd_152) rfl rfl rfl (hts _ wd_9) (hts _ wd_150) (by decide +kernel) ⟨Nat.le_of_ble_eq_true rfl, Nat.le_of_ble_eq_true rfl⟩), rfl, hts _ wd_151⟩ (im_preC im_NW_ok hK hN hAO hH hHz _) rfl rfl hl.1 rfl (lv_room (Nat.le_of_ble_eq_true rfl)) d_LT_init_115 ⟨Nat.le_of_ble_eq_true rfl, Nat.le_of_ble_eq_true rfl⟩) hH (fun H locs hH => ?_)
  have hz := im_z_k h211 hz
  obtain ⟨w212, h213, hsh_106⟩ := im_bd hsh_105
  clear hsh_105
  refine im_aast hx hb hK hH (ci := 6) (r := (RC_Tag, TC_Tag, 4)) (by decide) rfl rfl h213 d_LT_init_118 (fun H locs hH => ?_)
  have hz := im_z_s h213 hz
  refine lv_iinc (v := (15 : Int32)) (lv' := [(1, .int (15 : Int32)), (0, .ref (lo + x0))]) hx hb d_LT_init_119 hl (k := 0) rfl (by decide) (by decide) rfl (fun ls hl => ?_)
  refine lv_goto (tgt := 100) hx hb d_LT_init_122 (by decide) ?_
  refine lv_iload_n hx hb d_LT_init_100 rfl (lv_at hl 0 rfl) ?_
  refine lv_bipush (v := 16) hx hb d_LT_init_101 (by decide) ?_
  refine lv_icmp_ge (tgt := 125) hx hb d_LT_init_103 (by decide) (fun cc => absurd cc (by decide)) (fun cc => ?_)
  refine lv_aload_n hx hb d_LT_init_106 rfl (lv_at hl 1 rfl) ?_
  obtain ⟨f214, h215, hsh_107⟩ := im_bd hsh_106
  clear hsh_106
  refine im_getR hx hb hts inC_LT hown hK hH (ci := 8) rfl 7 (by decide) (hts _ wd_182) rfl h215 d_LT_init_107 ?_
  refine lv_iload_n hx hb d_LT_init_110 rfl (lv_at hl 0 rfl) ?_
  obtain ⟨n216, w217, h218, hsh_108⟩ := im_bd2 hsh_107
  clear hsh_107
  refine im_new' (ci := 6) (fs := df0_Tag) hx hb hts inC_Tag tyC_Tag tyC_Tag_ok hown (hts _ wd_147) (hts _ wd_149) (hts _ wd_9) hK hH rfl hlo hz (dfC_Tag lo) (Nat.le_of_ble_eq_true rfl) (Nat.le_of_ble_eq_true rfl) h218 d_LT_init_111 (fun H hH => ?_)
  have hz := im_z_al h218 hz
  refine lv_dup hx hb d_LT_init_114 rfl ?_
  obtain ⟨w219, h220, hsh_109⟩ := im_bd hsh_108
  clear hsh_108
  obtain ⟨_, h221, hsh_110⟩ := im_bd hsh_109
  clear hsh_109
  refine im_sized (fun hsz => ?_)
  have hHz : H.size = lo + w217.1 := Nat.le_antisymm (Nat.le_trans hsz (Nat.le_of_eq hz)) (im_low hH hlo)
  refine im_afterC (va_runI (As := []) (rest := [.ref (lo + n216), .int (15 : Int32), .ref (lo + f214)]) ⟨hx, hb, hml, hown, hts⟩ (metc_Tag_init h220) ⟨(callB_of 0 hts (im_good wd_152) rfl rfl rfl (hts _ wd_9) (hts _ wd_150) (by decide +kernel) ⟨Nat.le_of_ble_eq_true rfl, Nat.le_of_ble_eq_true rfl⟩), rfl, hts _ wd_151⟩ (im_preC im_NW_ok hK hN hAO hH hHz _) rfl rfl hl.1 rfl (lv_room (Nat.le_of_ble_eq_true rfl)) d_LT_init_115 ⟨Nat.le_of_ble_eq_true rfl, Nat.le_of_ble_eq_true rfl⟩) hH (fun H locs hH => ?_)
  have hz := im_z_k h221 hz
  obtain ⟨w222, h223, hsh_111⟩ := im_bd hsh_110
  clear hsh_110
  refine im_aast hx hb hK hH (ci := 6) (r := (RC_Tag, TC_Tag, 4)) (by decide) rfl rfl h223 d_LT_init_118 (fun H locs hH => ?_)
  have hz := im_z_s h223 hz
  refine lv_iinc (v := (16 : Int32)) (lv' := [(1, .int (16 : Int32)), (0, .ref (lo + x0))]) hx hb d_LT_init_119 hl (k := 0) rfl (by decide) (by decide) rfl (fun ls hl => ?_)
  refine lv_goto (tgt := 100) hx hb d_LT_init_122 (by decide) ?_
  refine lv_iload_n hx hb d_LT_init_100 rfl (lv_at hl 0 rfl) ?_
  refine lv_bipush (v := 16) hx hb d_LT_init_101 (by decide) ?_
  refine lv_icmp_ge (tgt := 125) hx hb d_LT_init_103 (by decide) (fun cc => ?_) (fun cc => absurd cc (by decide))
  refine lv_aload_n hx hb d_LT_init_125 rfl (lv_at hl 1 rfl) ?_
  refine lv_bipush (v := 16) hx hb d_LT_init_126 (by decide) ?_
  obtain ⟨n224, w225, h226, hsh_112⟩ := im_bd2 hsh_111
  clear hsh_111
  refine im_newa' (atype := .int) (t := 0) (a0 := (16, .inl (fun _ => 0))) hx hb (hts _ wd_51) (by decide) rfl hK hH hlo hz (fun _ => rfl) (by decide) (N' := 16) (by decide) (by decide) (Nat.le_of_ble_eq_true rfl) (Nat.le_of_ble_eq_true rfl) h226 d_LT_init_128 (fun H hH => ?_)
  have hz := im_z_al h226 hz
  obtain ⟨w227, h228, hsh_113⟩ := im_bd hsh_112
  clear hsh_112
  refine im_putF (v := .ref n224) hx hb hts inC_LT tyC_LT tyC_LT_ok nmC_LT hown hK hH (ci := 8) rfl 8 (by decide) (hts _ wd_183) rfl rfl hin rfl rfl rfl h228 d_LT_init_130 (fun H locs hH => ?_)
  have hz := im_z_p h228 hz
  refine lv_aload_n hx hb d_LT_init_133 rfl (lv_at hl 1 rfl) ?_
  obtain ⟨n229, w230, h231, hsh_114⟩ := im_bd2 hsh_113
  clear hsh_113
  refine im_new' (ci := 2) (fs := df0_Form) hx hb hts inC_Form tyC_Form tyC_Form_ok hown (hts _ wd_171) (hts _ wd_80) (hts _ wd_6) hK hH rfl hlo hz (dfC_Form lo) (Nat.le_of_ble_eq_true rfl) (Nat.le_of_ble_eq_true rfl) h231 d_LT_init_134 (fun H hH => ?_)
  have hz := im_z_al h231 hz
  refine lv_dup hx hb d_LT_init_137 rfl ?_
  refine lv_bipush (v := 30) hx hb d_LT_init_138 (by decide) ?_
  obtain ⟨w232, h233, hsh_115⟩ := im_bd hsh_114
  clear hsh_114
  obtain ⟨_, h234, hsh_116⟩ := im_bd hsh_115
  clear hsh_115
  refine im_sized (fun hsz => ?_)
  have hHz : H.size = lo + w230.1 := Nat.le_antisymm (Nat.le_trans hsz (Nat.le_of_eq hz)) (im_low hH hlo)
  refine im_afterC (va_runI (As := [.int (30 : Int32)]) (rest := [.ref (lo + n229), .ref (lo + x0)]) ⟨hx, hb, hml, hown, hts⟩ (metc_Form_init_30 h233) ⟨(callB_of 1 hts (im_good wd_83) rfl rfl rfl (hts _ wd_6) (hts _ wd_172) (by decide +kernel) ⟨Nat.le_of_ble_eq_true rfl, Nat.le_of_ble_eq_true rfl⟩), rfl, hts _ wd_82⟩ (im_preC im_NW_ok hK hN hAO hH hHz _) rfl rfl hl.1 rfl (lv_room (Nat.le_of_ble_eq_true rfl)) d_LT_init_140 ⟨Nat.le_of_ble_eq_true rfl, Nat.le_of_ble_eq_true rfl⟩) hH (fun H locs hH => ?_)
  have hz := im_z_k h234 hz
  obtain ⟨w235, h236, hsh_117⟩ := im_bd hsh_116
  clear hsh_116
  refine im_putF (v := .ref n229) hx hb hts inC_LT tyC_LT tyC_LT_ok nmC_LT hown hK hH (ci := 8) rfl 9 (by decide) (hts _ wd_184) rfl rfl hin rfl rfl rfl h236 d_LT_init_143 (fun H locs hH => ?_)
  have hz := im_z_p h236 hz
  refine lv_aload_n hx hb d_LT_init_146 rfl (lv_at hl 1 rfl) ?_
  obtain ⟨n237, w238, h239, hsh_118⟩ := im_bd2 hsh_117
  clear hsh_117
  refine im_new' (ci := 2) (fs := df0_Form) hx hb hts inC_Form tyC_Form tyC_Form_ok hown (hts _ wd_171) (hts _ wd_80) (hts _ wd_6) hK hH rfl hlo hz (dfC_Form lo) (Nat.le_of_ble_eq_true rfl) (Nat.le_of_ble_eq_true rfl) h239 d_LT_init_147 (fun H hH => ?_)
  have hz := im_z_al h239 hz
  refine lv_dup hx hb d_LT_init_150 rfl ?_
  refine lv_bipush (v := 30) hx hb d_LT_init_151 (by decide) ?_
  obtain ⟨w240, h241, hsh_119⟩ := im_bd hsh_118
  clear hsh_118
  obtain ⟨_, h242, hsh_120⟩ := im_bd hsh_119
  clear hsh_119
  refine im_sized (fun hsz => ?_)
  have hHz : H.size = lo + w238.1 := Nat.le_antisymm (Nat.le_trans hsz (Nat.le_of_eq hz)) (im_low hH hlo)
  refine im_afterC (va_runI (As := [.int (30 : Int32)]) (rest := [.ref (lo + n237), .ref (lo + x0)]) ⟨hx, hb, hml, hown, hts⟩ (metc_Form_init_30 h241) ⟨(callB_of 1 hts (im_good wd_83) rfl rfl rfl (hts _ wd_6) (hts _ wd_172) (by decide +kernel) ⟨Nat.le_of_ble_eq_true rfl, Nat.le_of_ble_eq_true rfl⟩), rfl, hts _ wd_82⟩ (im_preC im_NW_ok hK hN hAO hH hHz _) rfl rfl hl.1 rfl (lv_room (Nat.le_of_ble_eq_true rfl)) d_LT_init_153 ⟨Nat.le_of_ble_eq_true rfl, Nat.le_of_ble_eq_true rfl⟩) hH (fun H locs hH => ?_)
  have hz := im_z_k h242 hz
  obtain ⟨w243, h244, hsh_121⟩ := im_bd hsh_120
  clear hsh_120
  refine im_putF (v := .ref n237) hx hb hts inC_LT tyC_LT tyC_LT_ok nmC_LT hown hK hH (ci := 8) rfl 10 (by decide) (hts _ wd_185) rfl rfl hin rfl rfl rfl h244 d_LT_init_156 (fun H locs hH => ?_)
  have hz := im_z_p h244 hz
  refine lv_aload_n hx hb d_LT_init_159 rfl (lv_at hl 1 rfl) ?_
  obtain ⟨n245, w246, h247, hsh_122⟩ := im_bd2 hsh_121
  clear hsh_121
  refine im_new' (ci := 1) (fs := df0_Core) hx hb hts inC_Core tyC_Core tyC_Core_ok hown (hts _ wd_173) (hts _ wd_86) (hts _ wd_7) hK hH rfl hlo hz (dfC_Core lo) (Nat.le_of_ble_eq_true rfl) (Nat.le_of_ble_eq_true rfl) h247 d_LT_init_160 (fun H hH => ?_)
  have hz := im_z_al h247 hz
  refine lv_dup hx hb d_LT_init_163 rfl ?_
  obtain ⟨w248, h249, hsh_123⟩ := im_bd hsh_122
  clear hsh_122
  obtain ⟨_, h250, hsh_124⟩ := im_bd hsh_123
  clear hsh_123
  refine im_sized (fun hsz => ?_)
  have hHz : H.size = lo + w246.1 := Nat.le_antisymm (Nat.le_trans hsz (Nat.le_of_eq hz)) (im_low hH hlo)
  refine im_afterC (va_runI (As := []) (rest := [.ref (lo + n245), .ref (lo + x0)]) ⟨hx, hb, hml, hown, hts⟩ (metc_Core_init h249) ⟨(callB_of 0 hts (im_good wd_89) rfl rfl rfl (hts _ wd_7) (hts _ wd_174) (by decide +kernel) ⟨Nat.le_of_ble_eq_true rfl, Nat.le_of_ble_eq_true rfl⟩), rfl, hts _ wd_88⟩ (im_preC im_NW_ok hK hN hAO hH hHz _) rfl rfl hl.1 rfl (lv_room (Nat.le_of_ble_eq_true rfl)) d_LT_init_164 ⟨Nat.le_of_ble_eq_true rfl, Nat.le_of_ble_eq_true rfl⟩) hH (fun H locs hH => ?_)
  have hz := im_z_k h250 hz
  obtain ⟨w251, h252, hsh_125⟩ := im_bd hsh_124
  clear hsh_124
  refine im_putF (v := .ref n245) hx hb hts inC_LT tyC_LT tyC_LT_ok nmC_LT hown hK hH (ci := 8) rfl 11 (by decide) (hts _ wd_186) rfl rfl hin rfl rfl rfl h252 d_LT_init_167 (fun H locs hH => ?_)
  have hz := im_z_p h252 hz
  refine lv_aload_n hx hb d_LT_init_170 rfl (lv_at hl 1 rfl) ?_
  obtain ⟨n253, w254, h255, hsh_126⟩ := im_bd2 hsh_125
  clear hsh_125
  refine im_new' (ci := 1) (fs := df0_Core) hx hb hts inC_Core tyC_Core tyC_Core_ok hown (hts _ wd_173) (hts _ wd_86) (hts _ wd_7) hK hH rfl hlo hz (dfC_Core lo) (Nat.le_of_ble_eq_true rfl) (Nat.le_of_ble_eq_true rfl) h255 d_LT_init_171 (fun H hH => ?_)
  have hz := im_z_al h255 hz
  refine lv_dup hx hb d_LT_init_174 rfl ?_
  obtain ⟨w256, h257, hsh_127⟩ := im_bd hsh_126
  clear hsh_126
  obtain ⟨_, h258, hsh_128⟩ := im_bd hsh_127
  clear hsh_127
  refine im_sized (fun hsz => ?_)
  have hHz : H.size = lo + w254.1 := Nat.le_antisymm (Nat.le_trans hsz (Nat.le_of_eq hz)) (im_low hH hlo)
  refine im_afterC (va_runI (As := []) (rest := [.ref (lo + n253), .ref (lo + x0)]) ⟨hx, hb, hml, hown, hts⟩ (metc_Core_init h257) ⟨(callB_of 0 hts (im_good wd_89) rfl rfl rfl (hts _ wd_7) (hts _ wd_174) (by decide +kernel) ⟨Nat.le_of_ble_eq_true rfl, Nat.le_of_ble_eq_true rfl⟩), rfl, hts _ wd_88⟩ (im_preC im_NW_ok hK hN hAO hH hHz _) rfl rfl hl.1 rfl (lv_room (Nat.le_of_ble_eq_true rfl)) d_LT_init_175 ⟨Nat.le_of_ble_eq_true rfl, Nat.le_of_ble_eq_true rfl⟩) hH (fun H locs hH => ?_)
  have hz := im_z_k h258 hz
  obtain ⟨w259, h260, hsh_129⟩ := im_bd hsh_128
  clear hsh_128
  refine im_putF (v := .ref n253) hx hb hts inC_LT tyC_LT tyC_LT_ok nmC_LT hown hK hH (ci := 8) rfl 12 (by decide) (hts _ wd_187) rfl rfl hin rfl rfl rfl h260 d_LT_init_178 (fun H locs hH => ?_)
  have hz := im_z_p h260 hz
  refine lv_aload_n hx hb d_LT_init_181 rfl (lv_at hl 1 rfl) ?_
  refine lv_iconst (v := 0) hx hb d_LT_init_182 (by decide) ?_
  obtain ⟨w261, h262, hsh_130⟩ := im_bd hsh_129
  clear hsh_129
  refine im_put (v := .int (0 : Int32)) hx hb hts inC_LT tyC_LT tyC_LT_ok nmC_LT hown hK hH (ci := 8) rfl 13 (by decide) (hts _ wd_188) rfl rfl rfl rfl h262 d_LT_init_183 (fun H locs hH => ?_)
  have hz := im_z_p h262 hz
  refine lv_aload_n hx hb d_LT_init_186 rfl (lv_at hl 1 rfl) ?_
  refine lv_iconst (v := 0) hx hb d_LT_init_187 (by decide) ?_
  obtain ⟨w263, h264, hsh_131⟩ := im_bd hsh_130
  clear hsh_130
  refine im_put (v := .int (0 : Int32)) hx hb hts inC_LT tyC_LT tyC_LT_ok nmC_LT hown hK hH (ci := 8) rfl 14 (by decide) (hts _ wd_189) rfl rfl rfl rfl h264 d_LT_init_188 (fun H locs hH => ?_)
  have hz := im_z_p h264 hz
  refine lv_aload_n hx hb d_LT_init_191 rfl (lv_at hl 1 rfl) ?_
  refine lv_iconst (v := 0) hx hb d_LT_init_192 (by decide) ?_
  obtain ⟨w265, h266, hsh_132⟩ := im_bd hsh_131
  clear hsh_131
  refine im_put (v := .int (0 : Int32)) hx hb hts inC_LT tyC_LT tyC_LT_ok nmC_LT hown hK hH (ci := 8) rfl 15 (by decide) (hts _ wd_190) rfl rfl rfl rfl h266 d_LT_init_193 (fun H locs hH => ?_)
  have hz := im_z_p h266 hz
  obtain rfl := Option.some.inj hsh_132
  refine W.widen (k := 247) (n := 1642) (Nat.le_of_ble_eq_true rfl) (Nat.le_of_ble_eq_true rfl) ?_
  exact im_vret hx hb hr hlk hH d_LT_init_196
end GEN
