section GEN
variable {l : Launch} {D : va_G} {tA : Nat → ClassId} {lo : Nat} {p : Program} {e : Env} {s : State} {m : MethodId} {args : Array Value} {below : List Frame} {meth : Method} {c : Code}
theorem wd_630 : (Jvm.Cond.methodLink "LanguageTagsModel" (1 : Nat) ({ cls := "java/lang/Object", name := "<init>", desc := "()V" } : Jvm.MethodName)) ∈ im_T := im_memT (i := 630) (by decide +kernel) (by decide +kernel)
theorem d_Model_init_0 : decode c_Model_init 0 = .ok (.aload_n 0, 1) := by decide +kernel
theorem d_Model_init_1 : decode c_Model_init 1 = .ok (.invokespecial 1, 3) := by decide +kernel
theorem d_Model_init_4 : decode c_Model_init 4 = .ok (.aload_n 0, 1) := by decide +kernel
theorem d_Model_init_5 : decode c_Model_init 5 = .ok (.bipush (60), 2) := by decide +kernel
theorem d_Model_init_7 : decode c_Model_init 7 = .ok (.newarray .char, 2) := by decide +kernel
theorem d_Model_init_9 : decode c_Model_init 9 = .ok (.putfield 7, 3) := by decide +kernel
theorem d_Model_init_12 : decode c_Model_init 12 = .ok (.aload_n 0, 1) := by decide +kernel
theorem d_Model_init_13 : decode c_Model_init 13 = .ok (.bipush (32), 2) := by decide +kernel
theorem d_Model_init_15 : decode c_Model_init 15 = .ok (.newarray .int, 2) := by decide +kernel
theorem d_Model_init_17 : decode c_Model_init 17 = .ok (.putfield 13, 3) := by decide +kernel
theorem d_Model_init_20 : decode c_Model_init 20 = .ok (.aload_n 0, 1) := by decide +kernel
theorem d_Model_init_21 : decode c_Model_init 21 = .ok (.bipush (32), 2) := by decide +kernel
theorem d_Model_init_23 : decode c_Model_init 23 = .ok (.newarray .int, 2) := by decide +kernel
theorem d_Model_init_25 : decode c_Model_init 25 = .ok (.putfield 17, 3) := by decide +kernel
theorem d_Model_init_28 : decode c_Model_init 28 = .ok (.aload_n 0, 1) := by decide +kernel
theorem d_Model_init_29 : decode c_Model_init 29 = .ok (.bipush (32), 2) := by decide +kernel
theorem d_Model_init_31 : decode c_Model_init 31 = .ok (.newarray .int, 2) := by decide +kernel
theorem d_Model_init_33 : decode c_Model_init 33 = .ok (.putfield 20, 3) := by decide +kernel
theorem d_Model_init_36 : decode c_Model_init 36 = .ok (.aload_n 0, 1) := by decide +kernel
theorem d_Model_init_37 : decode c_Model_init 37 = .ok (.bipush (32), 2) := by decide +kernel
theorem d_Model_init_39 : decode c_Model_init 39 = .ok (.newarray .int, 2) := by decide +kernel
theorem d_Model_init_41 : decode c_Model_init 41 = .ok (.putfield 23, 3) := by decide +kernel
theorem d_Model_init_44 : decode c_Model_init 44 = .ok (.aload_n 0, 1) := by decide +kernel
theorem d_Model_init_45 : decode c_Model_init 45 = .ok (.bipush (80), 2) := by decide +kernel
theorem d_Model_init_47 : decode c_Model_init 47 = .ok (.newarray .char, 2) := by decide +kernel
theorem d_Model_init_49 : decode c_Model_init 49 = .ok (.putfield 26, 3) := by decide +kernel
theorem d_Model_init_52 : decode c_Model_init 52 = .ok (.aload_n 0, 1) := by decide +kernel
theorem d_Model_init_53 : decode c_Model_init 53 = .ok (.bipush (80), 2) := by decide +kernel
theorem d_Model_init_55 : decode c_Model_init 55 = .ok (.newarray .char, 2) := by decide +kernel
theorem d_Model_init_57 : decode c_Model_init 57 = .ok (.putfield 29, 3) := by decide +kernel
theorem d_Model_init_60 : decode c_Model_init 60 = .ok (.aload_n 0, 1) := by decide +kernel
theorem d_Model_init_61 : decode c_Model_init 61 = .ok (.bipush (8), 2) := by decide +kernel
theorem d_Model_init_63 : decode c_Model_init 63 = .ok (.newarray .int, 2) := by decide +kernel
theorem d_Model_init_65 : decode c_Model_init 65 = .ok (.putfield 32, 3) := by decide +kernel
theorem d_Model_init_68 : decode c_Model_init 68 = .ok (.aload_n 0, 1) := by decide +kernel
theorem d_Model_init_69 : decode c_Model_init 69 = .ok (.bipush (8), 2) := by decide +kernel
theorem d_Model_init_71 : decode c_Model_init 71 = .ok (.newarray .int, 2) := by decide +kernel
theorem d_Model_init_73 : decode c_Model_init 73 = .ok (.putfield 35, 3) := by decide +kernel
theorem d_Model_init_76 : decode c_Model_init 76 = .ok (.aload_n 0, 1) := by decide +kernel
theorem d_Model_init_77 : decode c_Model_init 77 = .ok (.bipush (8), 2) := by decide +kernel
theorem d_Model_init_79 : decode c_Model_init 79 = .ok (.newarray .boolean, 2) := by decide +kernel
theorem d_Model_init_81 : decode c_Model_init 81 = .ok (.putfield 38, 3) := by decide +kernel
theorem d_Model_init_84 : decode c_Model_init 84 = .ok (.aload_n 0, 1) := by decide +kernel
theorem d_Model_init_85 : decode c_Model_init 85 = .ok (.iconst 2, 1) := by decide +kernel
theorem d_Model_init_86 : decode c_Model_init 86 = .ok (.newarray .int, 2) := by decide +kernel
theorem d_Model_init_88 : decode c_Model_init 88 = .ok (.putfield 42, 3) := by decide +kernel
theorem d_Model_init_91 : decode c_Model_init 91 = .ok (.aload_n 0, 1) := by decide +kernel
theorem d_Model_init_92 : decode c_Model_init 92 = .ok (.bipush (20), 2) := by decide +kernel
theorem d_Model_init_94 : decode c_Model_init 94 = .ok (.newarray .int, 2) := by decide +kernel
theorem d_Model_init_96 : decode c_Model_init 96 = .ok (.putfield 45, 3) := by decide +kernel
theorem d_Model_init_99 : decode c_Model_init 99 = .ok (.aload_n 0, 1) := by decide +kernel
theorem d_Model_init_100 : decode c_Model_init 100 = .ok (.bipush (20), 2) := by decide +kernel
theorem d_Model_init_102 : decode c_Model_init 102 = .ok (.newarray .int, 2) := by decide +kernel
theorem d_Model_init_104 : decode c_Model_init 104 = .ok (.putfield 48, 3) := by decide +kernel
theorem d_Model_init_107 : decode c_Model_init 107 = .ok (.aload_n 0, 1) := by decide +kernel
theorem d_Model_init_108 : decode c_Model_init 108 = .ok (.bipush (20), 2) := by decide +kernel
theorem d_Model_init_110 : decode c_Model_init 110 = .ok (.newarray .int, 2) := by decide +kernel
theorem d_Model_init_112 : decode c_Model_init 112 = .ok (.putfield 51, 3) := by decide +kernel
theorem d_Model_init_115 : decode c_Model_init 115 = .ok (.aload_n 0, 1) := by decide +kernel
theorem d_Model_init_116 : decode c_Model_init 116 = .ok (.bipush (20), 2) := by decide +kernel
theorem d_Model_init_118 : decode c_Model_init 118 = .ok (.newarray .int, 2) := by decide +kernel
theorem d_Model_init_120 : decode c_Model_init 120 = .ok (.putfield 54, 3) := by decide +kernel
theorem d_Model_init_123 : decode c_Model_init 123 = .ok (.aload_n 0, 1) := by decide +kernel
theorem d_Model_init_124 : decode c_Model_init 124 = .ok (.bipush (20), 2) := by decide +kernel
theorem d_Model_init_126 : decode c_Model_init 126 = .ok (.newarray .int, 2) := by decide +kernel
theorem d_Model_init_128 : decode c_Model_init 128 = .ok (.putfield 57, 3) := by decide +kernel
theorem d_Model_init_131 : decode c_Model_init 131 = .ok (.aload_n 0, 1) := by decide +kernel
theorem d_Model_init_132 : decode c_Model_init 132 = .ok (.bipush (20), 2) := by decide +kernel
theorem d_Model_init_134 : decode c_Model_init 134 = .ok (.newarray .int, 2) := by decide +kernel
theorem d_Model_init_136 : decode c_Model_init 136 = .ok (.putfield 60, 3) := by decide +kernel
theorem d_Model_init_139 : decode c_Model_init 139 = .ok (.aload_n 0, 1) := by decide +kernel
theorem d_Model_init_140 : decode c_Model_init 140 = .ok (.sipush (1280), 3) := by decide +kernel
theorem d_Model_init_143 : decode c_Model_init 143 = .ok (.newarray .char, 2) := by decide +kernel
theorem d_Model_init_145 : decode c_Model_init 145 = .ok (.putfield 63, 3) := by decide +kernel
theorem d_Model_init_148 : decode c_Model_init 148 = .ok (.aload_n 0, 1) := by decide +kernel
theorem d_Model_init_149 : decode c_Model_init 149 = .ok (.bipush (16), 2) := by decide +kernel
theorem d_Model_init_151 : decode c_Model_init 151 = .ok (.newarray .int, 2) := by decide +kernel
theorem d_Model_init_153 : decode c_Model_init 153 = .ok (.putfield 66, 3) := by decide +kernel
theorem d_Model_init_156 : decode c_Model_init 156 = .ok (.aload_n 0, 1) := by decide +kernel
theorem d_Model_init_157 : decode c_Model_init 157 = .ok (.bipush (16), 2) := by decide +kernel
theorem d_Model_init_159 : decode c_Model_init 159 = .ok (.newarray .int, 2) := by decide +kernel
theorem d_Model_init_161 : decode c_Model_init 161 = .ok (.putfield 69, 3) := by decide +kernel
theorem d_Model_init_164 : decode c_Model_init 164 = .ok (.aload_n 0, 1) := by decide +kernel
theorem d_Model_init_165 : decode c_Model_init 165 = .ok (.bipush (16), 2) := by decide +kernel
theorem d_Model_init_167 : decode c_Model_init 167 = .ok (.newarray .int, 2) := by decide +kernel
theorem d_Model_init_169 : decode c_Model_init 169 = .ok (.putfield 72, 3) := by decide +kernel
theorem d_Model_init_172 : decode c_Model_init 172 = .ok (.aload_n 0, 1) := by decide +kernel
theorem d_Model_init_173 : decode c_Model_init 173 = .ok (.bipush (16), 2) := by decide +kernel
theorem d_Model_init_175 : decode c_Model_init 175 = .ok (.newarray .int, 2) := by decide +kernel
theorem d_Model_init_177 : decode c_Model_init 177 = .ok (.putfield 75, 3) := by decide +kernel
theorem d_Model_init_180 : decode c_Model_init 180 = .ok (.aload_n 0, 1) := by decide +kernel
theorem d_Model_init_181 : decode c_Model_init 181 = .ok (.sipush (128), 3) := by decide +kernel
theorem d_Model_init_184 : decode c_Model_init 184 = .ok (.newarray .int, 2) := by decide +kernel
theorem d_Model_init_186 : decode c_Model_init 186 = .ok (.putfield 78, 3) := by decide +kernel
theorem d_Model_init_189 : decode c_Model_init 189 = .ok (.aload_n 0, 1) := by decide +kernel
theorem d_Model_init_190 : decode c_Model_init 190 = .ok (.sipush (128), 3) := by decide +kernel
theorem d_Model_init_193 : decode c_Model_init 193 = .ok (.newarray .boolean, 2) := by decide +kernel
theorem d_Model_init_195 : decode c_Model_init 195 = .ok (.putfield 81, 3) := by decide +kernel
theorem d_Model_init_198 : decode c_Model_init 198 = .ok (.aload_n 0, 1) := by decide +kernel
theorem d_Model_init_199 : decode c_Model_init 199 = .ok (.bipush (16), 2) := by decide +kernel
theorem d_Model_init_201 : decode c_Model_init 201 = .ok (.newarray .int, 2) := by decide +kernel
theorem d_Model_init_203 : decode c_Model_init 203 = .ok (.putfield 84, 3) := by decide +kernel
theorem d_Model_init_206 : decode c_Model_init 206 = .ok (.aload_n 0, 1) := by decide +kernel
theorem d_Model_init_207 : decode c_Model_init 207 = .ok (.bipush (80), 2) := by decide +kernel
theorem d_Model_init_209 : decode c_Model_init 209 = .ok (.newarray .char, 2) := by decide +kernel
theorem d_Model_init_211 : decode c_Model_init 211 = .ok (.putfield 87, 3) := by decide +kernel
theorem d_Model_init_214 : decode c_Model_init 214 = .ok (.return_, 1) := by decide +kernel
def sh_Model_init (F : Nat) (x0 : Nat) (w : im_W) : Option im_W :=
  im_b2 (im_al w (.inl (2, (60, .inl (fun _ => 0))))) fun n1 w2 => (im_pV w2 9 x0 1 (.ref n1)).bind fun w4 => im_b2 (im_al w4 (.inl (0, (32, .inl (fun _ => 0))))) fun n6 w7 => (im_pV w7 9 x0 6 (.ref n6)).bind fun w9 => im_b2 (im_al w9 (.inl (0, (32, .inl (fun _ => 0))))) fun n11 w12 => (im_pV w12 9 x0 7 (.ref n11)).bind fun w14 => im_b2 (im_al w14 (.inl (0, (32, .inl (fun _ => 0))))) fun n16 w17 => (im_pV w17 9 x0 9 (.ref n16)).bind fun w19 => im_b2 (im_al w19 (.inl (0, (32, .inl (fun _ => 0))))) fun n21 w22 => (im_pV w22 9 x0 10 (.ref n21)).bind fun w24 => im_b2 (im_al w24 (.inl (2, (80, .inl (fun _ => 0))))) fun n26 w27 => (im_pV w27 9 x0 14 (.ref n26)).bind fun w29 => im_b2 (im_al w29 (.inl (2, (80, .inl (fun _ => 0))))) fun n31 w32 => (im_pV w32 9 x0 16 (.ref n31)).bind fun w34 => im_b2 (im_al w34 (.inl (0, (8, .inl (fun _ => 0))))) fun n36 w37 => (im_pV w37 9 x0 18 (.ref n36)).bind fun w39 => im_b2 (im_al w39 (.inl (0, (8, .inl (fun _ => 0))))) fun n41 w42 => (im_pV w42 9 x0 19 (.ref n41)).bind fun w44 => im_b2 (im_al w44 (.inl (3, (8, .inl (fun _ => 0))))) fun n46 w47 => (im_pV w47 9 x0 20 (.ref n46)).bind fun w49 => im_b2 (im_al w49 (.inl (0, (2, .inl (fun _ => 0))))) fun n51 w52 => (im_pV w52 9 x0 21 (.ref n51)).bind fun w54 => im_b2 (im_al w54 (.inl (0, (20, .inl (fun _ => 0))))) fun n56 w57 => (im_pV w57 9 x0 22 (.ref n56)).bind fun w59 => im_b2 (im_al w59 (.inl (0, (20, .inl (fun _ => 0))))) fun n61 w62 => (im_pV w62 9 x0 23 (.ref n61)).bind fun w64 => im_b2 (im_al w64 (.inl (0, (20, .inl (fun _ => 0))))) fun n66 w67 => (im_pV w67 9 x0 24 (.ref n66)).bind fun w69 => im_b2 (im_al w69 (.inl (0, (20, .inl (fun _ => 0))))) fun n71 w72 => (im_pV w72 9 x0 25 (.ref n71)).bind fun w74 => im_b2 (im_al w74 (.inl (0, (20, .inl (fun _ => 0))))) fun n76 w77 => (im_pV w77 9 x0 26 (.ref n76)).bind fun w79 => im_b2 (im_al w79 (.inl (0, (20, .inl (fun _ => 0))))) fun n81 w82 => (im_pV w82 9 x0 27 (.ref n81)).bind fun w84 => im_b2 (im_al w84 (.inl (2, (1280, .inl (fun _ => 0))))) fun n86 w87 => (im_pV w87 9 x0 32 (.ref n86)).bind fun w89 => im_b2 (im_al w89 (.inl (0, (16, .inl (fun _ => 0))))) fun n91 w92 => (im_pV w92 9 x0 33 (.ref n91)).bind fun w94 => im_b2 (im_al w94 (.inl (0, (16, .inl (fun _ => 0))))) fun n96 w97 => (im_pV w97 9 x0 34 (.ref n96)).bind fun w99 => im_b2 (im_al w99 (.inl (0, (16, .inl (fun _ => 0))))) fun n101 w102 => (im_pV w102 9 x0 35 (.ref n101)).bind fun w104 => im_b2 (im_al w104 (.inl (0, (16, .inl (fun _ => 0))))) fun n106 w107 => (im_pV w107 9 x0 36 (.ref n106)).bind fun w109 => im_b2 (im_al w109 (.inl (0, (128, .inl (fun _ => 0))))) fun n111 w112 => (im_pV w112 9 x0 37 (.ref n111)).bind fun w114 => im_b2 (im_al w114 (.inl (3, (128, .inl (fun _ => 0))))) fun n116 w117 => (im_pV w117 9 x0 38 (.ref n116)).bind fun w119 => im_b2 (im_al w119 (.inl (0, (16, .inl (fun _ => 0))))) fun n121 w122 => (im_pV w122 9 x0 40 (.ref n121)).bind fun w124 => im_b2 (im_al w124 (.inl (2, (80, .inl (fun _ => 0))))) fun n126 w127 => (im_pV w127 9 x0 42 (.ref n126)).bind fun w129 => some w129
set_option maxHeartbeats 4000000 in
set_option maxRecDepth 100000 in
theorem metc_Model_init {F : Nat} {x0 : Nat} {w : im_W} {r : im_W} (hsh : sh_Model_init F x0 w = some r) : Met l y_Model_init (Cond.code y_Model_init c_Model_init 1 none :: im_T) (im_rmc 1 12 26 2190) (im_PreC D vwCl tA lo im_NW [.ref (lo + x0)] w) (im_Post D vwCl tA lo none r) 26 2190 (fun q => lo ≤ q) := by
  refine im_ofWC (cc := c_Model_init) (nL := 1) (by decide) rfl (Nat.le_of_ble_eq_true rfl) ?_
  intro p e s m args below meth c X hin hlo hz hAO H locs ls hH hl
  obtain ⟨hx, hb, hr, hts, hown, hlk, hml, hK, hN⟩ := id X
  have hl : lv_has ls 1 [(0, .ref (lo + x0))] := hl
  unfold sh_Model_init at hsh
  refine lv_aload_n hx hb d_Model_init_0 rfl (lv_at hl 0 rfl) ?_
  refine W.objInit hx hb hown (hts _ wd_630) (hts _ wd_18) (hts _ wd_objcode) rfl (by rw [hml]; exact hl.1) rfl d_Model_init_1 (Nat.le_of_ble_eq_true rfl) (Nat.le_of_ble_eq_true rfl) ?_
  refine W.eq (g2 := F0 m 4 ls []) rfl ?_
  refine lv_aload_n hx hb d_Model_init_4 rfl (lv_at hl 0 rfl) ?_
  refine lv_bipush (v := 60) hx hb d_Model_init_5 (by decide) ?_
  obtain ⟨n1, w2, h3, hsh_1⟩ := im_bd2 hsh
  clear hsh
  refine im_newa' (atype := .char) (t := 2) (a0 := (60, .inl (fun _ => 0))) hx hb (hts _ wd_33) (by decide) rfl hK hH hlo hz (fun _ => rfl) (by decide) (N' := 60) (by decide) (by decide) (Nat.le_of_ble_eq_true rfl) (Nat.le_of_ble_eq_true rfl) h3 d_Model_init_7 (fun H hH => ?_)
  have hz := im_z_al h3 hz
  obtain ⟨w4, h5, hsh_2⟩ := im_bd hsh_1
  clear hsh_1
  refine im_put (v := .ref n1) hx hb hts inC_Model tyC_Model tyC_Model_ok nmC_Model hown hK hH (ci := 9) rfl 1 (by decide) (hts _ wd_632) rfl rfl rfl rfl h5 d_Model_init_9 (fun H locs hH => ?_)
  have hz := im_z_p h5 hz
  refine lv_aload_n hx hb d_Model_init_12 rfl (lv_at hl 0 rfl) ?_
  refine lv_bipush (v := 32) hx hb d_Model_init_13 (by decide) ?_
  obtain ⟨n6, w7, h8, hsh_3⟩ := im_bd2 hsh_2
  clear hsh_2
  refine im_newa' (atype := .int) (t := 0) (a0 := (32, .inl (fun _ => 0))) hx hb (hts _ wd_51) (by decide) rfl hK hH hlo hz (fun _ => rfl) (by decide) (N' := 32) (by decide) (by decide) (Nat.le_of_ble_eq_true rfl) (Nat.le_of_ble_eq_true rfl) h8 d_Model_init_15 (fun H hH => ?_)
  have hz := im_z_al h8 hz
  obtain ⟨w9, h10, hsh_4⟩ := im_bd hsh_3
  clear hsh_3
  refine im_put (v := .ref n6) hx hb hts inC_Model tyC_Model tyC_Model_ok nmC_Model hown hK hH (ci := 9) rfl 6 (by decide) (hts _ wd_637) rfl rfl rfl rfl h10 d_Model_init_17 (fun H locs hH => ?_)
  have hz := im_z_p h10 hz
  refine lv_aload_n hx hb d_Model_init_20 rfl (lv_at hl 0 rfl) ?_
  refine lv_bipush (v := 32) hx hb d_Model_init_21 (by decide) ?_
  obtain ⟨n11, w12, h13, hsh_5⟩ := im_bd2 hsh_4
  clear hsh_4
  refine im_newa' (atype := .int) (t := 0) (a0 := (32, .inl (fun _ => 0))) hx hb (hts _ wd_51) (by decide) rfl hK hH hlo hz (fun _ => rfl) (by decide) (N' := 32) (by decide) (by decide) (Nat.le_of_ble_eq_true rfl) (Nat.le_of_ble_eq_true rfl) h13 d_Model_init_23 (fun H hH => ?_)
  have hz := im_z_al h13 hz
  obtain ⟨w14, h15, hsh_6⟩ := im_bd hsh_5
  clear hsh_5
  refine im_put (v := .ref n11) hx hb hts inC_Model tyC_Model tyC_Model_ok nmC_Model hown hK hH (ci := 9) rfl 7 (by decide) (hts _ wd_638) rfl rfl rfl rfl h15 d_Model_init_25 (fun H locs hH => ?_)
  have hz := im_z_p h15 hz
  refine lv_aload_n hx hb d_Model_init_28 rfl (lv_at hl 0 rfl) ?_
  refine lv_bipush (v := 32) hx hb d_Model_init_29 (by decide) ?_
  obtain ⟨n16, w17, h18, hsh_7⟩ := im_bd2 hsh_6
  clear hsh_6
  refine im_newa' (atype := .int) (t := 0) (a0 := (32, .inl (fun _ => 0))) hx hb (hts _ wd_51) (by decide) rfl hK hH hlo hz (fun _ => rfl) (by decide) (N' := 32) (by decide) (by decide) (Nat.le_of_ble_eq_true rfl) (Nat.le_of_ble_eq_true rfl) h18 d_Model_init_31 (fun H hH => ?_)
  have hz := im_z_al h18 hz
  obtain ⟨w19, h20, hsh_8⟩ := im_bd hsh_7
  clear hsh_7
  refine im_put (v := .ref n16) hx hb hts inC_Model tyC_Model tyC_Model_ok nmC_Model hown hK hH (ci := 9) rfl 9 (by decide) (hts _ wd_640) rfl rfl rfl rfl h20 d_Model_init_33 (fun H locs hH => ?_)
  have hz := im_z_p h20 hz
  refine lv_aload_n hx hb d_Model_init_36 rfl (lv_at hl 0 rfl) ?_
  refine lv_bipush (v := 32) hx hb d_Model_init_37 (by decide) ?_
  obtain ⟨n21, w22, h23, hsh_9⟩ := im_bd2 hsh_8
  clear hsh_8
  refine im_newa' (atype := .int) (t := 0) (a0 := (32, .inl (fun _ => 0))) hx hb (hts _ wd_51) (by decide) rfl hK hH hlo hz (fun _ => rfl) (by decide) (N' := 32) (by decide) (by decide) (Nat.le_of_ble_eq_true rfl) (Nat.le_of_ble_eq_true rfl) h23 d_Model_init_39 (fun H hH => ?_)
  have hz := im_z_al h23 hz
  obtain ⟨w24, h25, hsh_10⟩ := im_bd hsh_9
  clear hsh_9
  refine im_put (v := .ref n21) hx hb hts inC_Model tyC_Model tyC_Model_ok nmC_Model hown hK hH (ci := 9) rfl 10 (by decide) (hts _ wd_641) rfl rfl rfl rfl h25 d_Model_init_41 (fun H locs hH => ?_)
  have hz := im_z_p h25 hz
  refine lv_aload_n hx hb d_Model_init_44 rfl (lv_at hl 0 rfl) ?_
  refine lv_bipush (v := 80) hx hb d_Model_init_45 (by decide) ?_
  obtain ⟨n26, w27, h28, hsh_11⟩ := im_bd2 hsh_10
  clear hsh_10
  refine im_newa' (atype := .char) (t := 2) (a0 := (80, .inl (fun _ => 0))) hx hb (hts _ wd_33) (by decide) rfl hK hH hlo hz (fun _ => rfl) (by decide) (N' := 80) (by decide) (by decide) (Nat.le_of_ble_eq_true rfl) (Nat.le_of_ble_eq_true rfl) h28 d_Model_init_47 (fun H hH => ?_)
  have hz := im_z_al h28 hz
  obtain ⟨w29, h30, hsh_12⟩ := im_bd hsh_11
  clear hsh_11
  refine im_put (v := .ref n26) hx hb hts inC_Model tyC_Model tyC_Model_ok nmC_Model hown hK hH (ci := 9) rfl 14 (by decide) (hts _ wd_645) rfl rfl rfl rfl h30 d_Model_init_49 (fun H locs hH => ?_)
  have hz := im_z_p h30 hz
  refine lv_aload_n hx hb d_Model_init_52 rfl (lv_at hl 0 rfl) ?_
  refine lv_bipush (v := 80) hx hb d_Model_init_53 (by decide) ?_
  obtain ⟨n31, w32, h33, hsh_13⟩ := im_bd2 hsh_12
  clear hsh_12
  refine im_newa' (atype := .char) (t := 2) (a0 := (80, .inl (fun _ => 0))) hx hb (hts _ wd_33) (by decide) rfl hK hH hlo hz (fun _ => rfl) (by decide) (N' := 80) (by decide) (by decide) (Nat.le_of_ble_eq_true rfl) (Nat.le_of_ble_eq_true rfl) h33 d_Model_init_55 (fun H hH => ?_)
  have hz := im_z_al h33 hz
  obtain ⟨w34, h35, hsh_14⟩ := im_bd hsh_13
  clear hsh_13
  refine im_put (v := .ref n31) hx hb hts inC_Model tyC_Model tyC_Model_ok nmC_Model hown hK hH (ci := 9) rfl 16 (by decide) (hts _ wd_647) rfl rfl rfl rfl h35 d_Model_init_57 (fun H locs hH => ?_)
  have hz := im_z_p h35 hz
  refine lv_aload_n hx hb d_Model_init_60 rfl (lv_at hl 0 rfl) ?_
  refine lv_bipush (v := 8) hx hb d_Model_init_61 (by decide) ?_
  obtain ⟨n36, w37, h38, hsh_15⟩ := im_bd2 hsh_14
  clear hsh_14
  refine im_newa' (atype := .int) (t := 0) (a0 := (8, .inl (fun _ => 0))) hx hb (hts _ wd_51) (by decide) rfl hK hH hlo hz (fun _ => rfl) (by decide) (N' := 8) (by decide) (by decide) (Nat.le_of_ble_eq_true rfl) (Nat.le_of_ble_eq_true rfl) h38 d_Model_init_63 (fun H hH => ?_)
  have hz := im_z_al h38 hz
  obtain ⟨w39, h40, hsh_16⟩ := im_bd hsh_15
  clear hsh_15
  refine im_put (v := .ref n36) hx hb hts inC_Model tyC_Model tyC_Model_ok nmC_Model hown hK hH (ci := 9) rfl 18 (by decide) (hts _ wd_649) rfl rfl rfl rfl h40 d_Model_init_65 (fun H locs hH => ?_)
  have hz := im_z_p h40 hz
  refine lv_aload_n hx hb d_Model_init_68 rfl (lv_at hl 0 rfl) ?_
  refine lv_bipush (v := 8) hx hb d_Model_init_69 (by decide) ?_
  obtain ⟨n41, w42, h43, hsh_17⟩ := im_bd2 hsh_16
  clear hsh_16
  refine im_newa' (atype := .int) (t := 0) (a0 := (8, .inl (fun _ => 0))) hx hb (hts _ wd_51) (by decide) rfl hK hH hlo hz (fun _ => rfl) (by decide) (N' := 8) (by decide) (by decide) (Nat.le_of_ble_eq_true rfl) (Nat.le_of_ble_eq_true rfl) h43 d_Model_init_71 (fun H hH => ?_)
  have hz := im_z_al h43 hz
  obtain ⟨w44, h45, hsh_18⟩ := im_bd hsh_17
  clear hsh_17
  refine im_put (v := .ref n41) hx hb hts inC_Model tyC_Model tyC_Model_ok nmC_Model hown hK hH (ci := 9) rfl 19 (by decide) (hts _ wd_650) rfl rfl rfl rfl h45 d_Model_init_73 (fun H locs hH => ?_)
  have hz := im_z_p h45 hz
  refine lv_aload_n hx hb d_Model_init_76 rfl (lv_at hl 0 rfl) ?_
  refine lv_bipush (v := 8) hx hb d_Model_init_77 (by decide) ?_
  obtain ⟨n46, w47, h48, hsh_19⟩ := im_bd2 hsh_18
  clear hsh_18
  refine im_newa' (atype := .boolean) (t := 3) (a0 := (8, .inl (fun _ => 0))) hx hb (hts _ wd_71) (by decide) rfl hK hH hlo hz (fun _ => rfl) (by decide) (N' := 8) (by decide) (by decide) (Nat.le_of_ble_eq_true rfl) (Nat.le_of_ble_eq_true rfl) h48 d_Model_init_79 (fun H hH => ?_)
  have hz := im_z_al h48 hz
  obtain ⟨w49, h50, hsh_20⟩ := im_bd hsh_19
  clear hsh_19
  refine im_put (v := .ref n46) hx hb hts inC_Model tyC_Model tyC_Model_ok nmC_Model hown hK hH (ci := 9) rfl 20 (by decide) (hts _ wd_651) rfl rfl rfl rfl h50 d_Model_init_81 (fun H locs hH => ?_)
  have hz := im_z_p h50 hz
  refine lv_aload_n hx hb d_Model_init_84 rfl (lv_at hl 0 rfl) ?_
  refine lv_iconst (v := 2) hx hb d_Model_init_85 (by decide) ?_
  obtain ⟨n51, w52, h53, hsh_21⟩ := im_bd2 hsh_20
  clear hsh_20
  refine im_newa' (atype := .int) (t := 0) (a0 := (2, .inl (fun _ => 0))) hx hb (hts _ wd_51) (by decide) rfl hK hH hlo hz (fun _ => rfl) (by decide) (N' := 2) (by decide) (by decide) (Nat.le_of_ble_eq_true rfl) (Nat.le_of_ble_eq_true rfl) h53 d_Model_init_86 (fun H hH => ?_)
  have hz := im_z_al h53 hz
  obtain ⟨w54, h55, hsh_22⟩ := im_bd hsh_21
  clear hsh_21
  refine im_put (v := .ref n51) hx hb hts inC_Model tyC_Model tyC_Model_ok nmC_Model hown hK hH (ci := 9) rfl 21 (by decide) (hts _ wd_652) rfl rfl rfl rfl h55 d_Model_init_88 (fun H locs hH => ?_)
  have hz := im_z_p h55 hz
  refine lv_aload_n hx hb d_Model_init_91 rfl (lv_at hl 0 rfl) ?_
  refine lv_bipush (v := 20) hx hb d_Model_init_92 (by decide) ?_
  obtain ⟨n56, w57, h58, hsh_23⟩ := im_bd2 hsh_22
  clear hsh_22
  refine im_newa' (atype := .int) (t := 0) (a0 := (20, .inl (fun _ => 0))) hx hb (hts _ wd_51) (by decide) rfl hK hH hlo hz (fun _ => rfl) (by decide) (N' := 20) (by decide) (by decide) (Nat.le_of_ble_eq_true rfl) (Nat.le_of_ble_eq_true rfl) h58 d_Model_init_94 (fun H hH => ?_)
  have hz := im_z_al h58 hz
  obtain ⟨w59, h60, hsh_24⟩ := im_bd hsh_23
  clear hsh_23
  refine im_put (v := .ref n56) hx hb hts inC_Model tyC_Model tyC_Model_ok nmC_Model hown hK hH (ci := 9) rfl 22 (by decide) (hts _ wd_653) rfl rfl rfl rfl h60 d_Model_init_96 (fun H locs hH => ?_)
  have hz := im_z_p h60 hz
  refine lv_aload_n hx hb d_Model_init_99 rfl (lv_at hl 0 rfl) ?_
  refine lv_bipush (v := 20) hx hb d_Model_init_100 (by decide) ?_
  obtain ⟨n61, w62, h63, hsh_25⟩ := im_bd2 hsh_24
  clear hsh_24
  refine im_newa' (atype := .int) (t := 0) (a0 := (20, .inl (fun _ => 0))) hx hb (hts _ wd_51) (by decide) rfl hK hH hlo hz (fun _ => rfl) (by decide) (N' := 20) (by decide) (by decide) (Nat.le_of_ble_eq_true rfl) (Nat.le_of_ble_eq_true rfl) h63 d_Model_init_102 (fun H hH => ?_)
  have hz := im_z_al h63 hz
  obtain ⟨w64, h65, hsh_26⟩ := im_bd hsh_25
  clear hsh_25
  refine im_put (v := .ref n61) hx hb hts inC_Model tyC_Model tyC_Model_ok nmC_Model hown hK hH (ci := 9) rfl 23 (by decide) (hts _ wd_654) rfl rfl rfl rfl h65 d_Model_init_104 (fun H locs hH => ?_)
  have hz := im_z_p h65 hz
  refine lv_aload_n hx hb d_Model_init_107 rfl (lv_at hl 0 rfl) ?_
  refine lv_bipush (v := 20) hx hb d_Model_init_108 (by decide) ?_
  obtain ⟨n66, w67, h68, hsh_27⟩ := im_bd2 hsh_26
  clear hsh_26
  refine im_newa' (atype := .int) (t := 0) (a0 := (20, .inl (fun _ => 0))) hx hb (hts _ wd_51) (by decide) rfl hK hH hlo hz (fun _ => rfl) (by decide) (N' := 20) (by decide) (by decide) (Nat.le_of_ble_eq_true rfl) (Nat.le_of_ble_eq_true rfl) h68 d_Model_init_110 (fun H hH => ?_)
  have hz := im_z_al h68 hz
  obtain ⟨w69, h70, hsh_28⟩ := im_bd hsh_27
  clear hsh_27
  refine im_put (v := .ref n66) hx hb hts inC_Model tyC_Model tyC_Model_ok nmC_Model hown hK hH (ci := 9) rfl 24 (by decide) (hts _ wd_655) rfl rfl rfl rfl h70 d_Model_init_112 (fun H locs hH => ?_)
  have hz := im_z_p h70 hz
  refine lv_aload_n hx hb d_Model_init_115 rfl (lv_at hl 0 rfl) ?_
  refine lv_bipush (v := 20) hx hb d_Model_init_116 (by decide) ?_
  obtain ⟨n71, w72, h73, hsh_29⟩ := im_bd2 hsh_28
  clear hsh_28
  refine im_newa' (atype := .int) (t := 0) (a0 := (20, .inl (fun _ => 0))) hx hb (hts _ wd_51) (by decide) rfl hK hH hlo hz (fun _ => rfl) (by decide) (N' := 20) (by decide) (by decide) (Nat.le_of_ble_eq_true rfl) (Nat.le_of_ble_eq_true rfl) h73 d_Model_init_118 (fun H hH => ?_)
  have hz := im_z_al h73 hz
  obtain ⟨w74, h75, hsh_30⟩ := im_bd hsh_29
  clear hsh_29
  refine im_put (v := .ref n71) hx hb hts inC_Model tyC_Model tyC_Model_ok nmC_Model hown hK hH (ci := 9) rfl 25 (by decide) (hts _ wd_656) rfl rfl rfl rfl h75 d_Model_init_120 (fun H locs hH => ?_)
  have hz := im_z_p h75 hz
  refine lv_aload_n hx hb d_Model_init_123 rfl (lv_at hl 0 rfl) ?_
  refine lv_bipush (v := 20) hx hb d_Model_init_124 (by decide) ?_
  obtain ⟨n76, w77, h78, hsh_31⟩ := im_bd2 hsh_30
  clear hsh_30
  refine im_newa' (atype := .int) (t := 0) (a0 := (20, .inl (fun _ => 0))) hx hb (hts _ wd_51) (by decide) rfl hK hH hlo hz (fun _ => rfl) (by decide) (N' := 20) (by decide) (by decide) (Nat.le_of_ble_eq_true rfl) (Nat.le_of_ble_eq_true rfl) h78 d_Model_init_126 (fun H hH => ?_)
  have hz := im_z_al h78 hz
  obtain ⟨w79, h80, hsh_32⟩ := im_bd hsh_31
  clear hsh_31
  refine im_put (v := .ref n76) hx hb hts inC_Model tyC_Model tyC_Model_ok nmC_Model hown hK hH (ci := 9) rfl 26 (by decide) (hts _ wd_657) rfl rfl rfl rfl h80 d_Model_init_128 (fun H locs hH => ?_)
  have hz := im_z_p h80 hz
  refine lv_aload_n hx hb d_Model_init_131 rfl (lv_at hl 0 rfl) ?_
  refine lv_bipush (v := 20) hx hb d_Model_init_132 (by decide) ?_
  obtain ⟨n81, w82, h83, hsh_33⟩ := im_bd2 hsh_32
  clear hsh_32
  refine im_newa' (atype := .int) (t := 0) (a0 := (20, .inl (fun _ => 0))) hx hb (hts _ wd_51) (by decide) rfl hK hH hlo hz (fun _ => rfl) (by decide) (N' := 20) (by decide) (by decide) (Nat.le_of_ble_eq_true rfl) (Nat.le_of_ble_eq_true rfl) h83 d_Model_init_134 (fun H hH => ?_)
  have hz := im_z_al h83 hz
  obtain ⟨w84, h85, hsh_34⟩ := im_bd hsh_33
  clear hsh_33
  refine im_put (v := .ref n81) hx hb hts inC_Model tyC_Model tyC_Model_ok nmC_Model hown hK hH (ci := 9) rfl 27 (by decide) (hts _ wd_658) rfl rfl rfl rfl h85 d_Model_init_136 (fun H locs hH => ?_)
  have hz := im_z_p h85 hz
  refine lv_aload_n hx hb d_Model_init_139 rfl (lv_at hl 0 rfl) ?_
  refine lv_sipush (v := 1280) hx hb d_Model_init_140 (by decide) ?_
  obtain ⟨n86, w87, h88, hsh_35⟩ := im_bd2 hsh_34
  clear hsh_34
  refine im_newa' (atype := .char) (t := 2) (a0 := (1280, .inl (fun _ => 0))) hx hb (hts _ wd_33) (by decide) rfl hK hH hlo hz (fun _ => rfl) (by decide) (N' := 1280) (by decide) (by decide) (Nat.le_of_ble_eq_true rfl) (Nat.le_of_ble_eq_true rfl) h88 d_Model_init_143 (fun H hH => ?_)
  have hz := im_z_al h88 hz
  obtain ⟨w89, h90, hsh_36⟩ := im_bd hsh_35
  clear hsh_35
  refine im_put (v := .ref n86) hx hb hts inC_Model tyC_Model tyC_Model_ok nmC_Model hown hK hH (ci := 9) rfl 32 (by decide) (hts _ wd_663) rfl rfl rfl rfl h90 d_Model_init_145 (fun H locs hH => ?_)
  have hz := im_z_p h90 hz
  refine lv_aload_n hx hb d_Model_init_148 rfl (lv_at hl 0 rfl) ?_
  refine lv_bipush (v := 16) hx hb d_Model_init_149 (by decide) ?_
  obtain ⟨n91, w92, h93, hsh_37⟩ := im_bd2 hsh_36
  clear hsh_36
  refine im_newa' (atype := .int) (t := 0) (a0 := (16, .inl (fun _ => 0))) hx hb (hts _ wd_51) (by decide) rfl hK hH hlo hz (fun _ => rfl) (by decide) (N' := 16) (by decide) (by decide) (Nat.le_of_ble_eq_true rfl) (Nat.le_of_ble_eq_true rfl) h93 d_Model_init_151 (fun H hH => ?_)
  have hz := im_z_al h93 hz
  obtain ⟨w94, h95, hsh_38⟩ := im_bd hsh_37
  clear hsh_37
  refine im_put (v := .ref n91) hx hb hts inC_Model tyC_Model tyC_Model_ok nmC_Model hown hK hH (ci := 9) rfl 33 (by decide) (hts _ wd_664) rfl rfl rfl rfl h95 d_Model_init_153 (fun H locs hH => ?_)
  have hz := im_z_p h95 hz
  refine lv_aload_n hx hb d_Model_init_156 rfl (lv_at hl 0 rfl) ?_
  refine lv_bipush (v := 16) hx hb d_Model_init_157 (by decide) ?_
  obtain ⟨n96, w97, h98, hsh_39⟩ := im_bd2 hsh_38
  clear hsh_38
  refine im_newa' (atype := .int) (t := 0) (a0 := (16, .inl (fun _ => 0))) hx hb (hts _ wd_51) (by decide) rfl hK hH hlo hz (fun _ => rfl) (by decide) (N' := 16) (by decide) (by decide) (Nat.le_of_ble_eq_true rfl) (Nat.le_of_ble_eq_true rfl) h98 d_Model_init_159 (fun H hH => ?_)
  have hz := im_z_al h98 hz
  obtain ⟨w99, h100, hsh_40⟩ := im_bd hsh_39
  clear hsh_39
  refine im_put (v := .ref n96) hx hb hts inC_Model tyC_Model tyC_Model_ok nmC_Model hown hK hH (ci := 9) rfl 34 (by decide) (hts _ wd_665) rfl rfl rfl rfl h100 d_Model_init_161 (fun H locs hH => ?_)
  have hz := im_z_p h100 hz
  refine lv_aload_n hx hb d_Model_init_164 rfl (lv_at hl 0 rfl) ?_
  refine lv_bipush (v := 16) hx hb d_Model_init_165 (by decide) ?_
  obtain ⟨n101, w102, h103, hsh_41⟩ := im_bd2 hsh_40
  clear hsh_40
  refine im_newa' (atype := .int) (t := 0) (a0 := (16, .inl (fun _ => 0))) hx hb (hts _ wd_51) (by decide) rfl hK hH hlo hz (fun _ => rfl) (by decide) (N' := 16) (by decide) (by decide) (Nat.le_of_ble_eq_true rfl) (Nat.le_of_ble_eq_true rfl) h103 d_Model_init_167 (fun H hH => ?_)
  have hz := im_z_al h103 hz
  obtain ⟨w104, h105, hsh_42⟩ := im_bd hsh_41
  clear hsh_41
  refine im_put (v := .ref n101) hx hb hts inC_Model tyC_Model tyC_Model_ok nmC_Model hown hK hH (ci := 9) rfl 35 (by decide) (hts _ wd_666) rfl rfl rfl rfl h105 d_Model_init_169 (fun H locs hH => ?_)
  have hz := im_z_p h105 hz
  refine lv_aload_n hx hb d_Model_init_172 rfl (lv_at hl 0 rfl) ?_
  refine lv_bipush (v := 16) hx hb d_Model_init_173 (by decide) ?_
  obtain ⟨n106, w107, h108, hsh_43⟩ := im_bd2 hsh_42
  clear hsh_42
  refine im_newa' (atype := .int) (t := 0) (a0 := (16, .inl (fun _ => 0))) hx hb (hts _ wd_51) (by decide) rfl hK hH hlo hz (fun _ => rfl) (by decide) (N' := 16) (by decide) (by decide) (Nat.le_of_ble_eq_true rfl) (Nat.le_of_ble_eq_true rfl) h108 d_Model_init_175 (fun H hH => ?_)
  have hz := im_z_al h108 hz
  obtain ⟨w109, h110, hsh_44⟩ := im_bd hsh_43
  clear hsh_43
  refine im_put (v := .ref n106) hx hb hts inC_Model tyC_Model tyC_Model_ok nmC_Model hown hK hH (ci := 9) rfl 36 (by decide) (hts _ wd_667) rfl rfl rfl rfl h110 d_Model_init_177 (fun H locs hH => ?_)
  have hz := im_z_p h110 hz
  refine lv_aload_n hx hb d_Model_init_180 rfl (lv_at hl 0 rfl) ?_
  refine lv_sipush (v := 128) hx hb d_Model_init_181 (by decide) ?_
  obtain ⟨n111, w112, h113, hsh_45⟩ := im_bd2 hsh_44
  clear hsh_44
  refine im_newa' (atype := .int) (t := 0) (a0 := (128, .inl (fun _ => 0))) hx hb (hts _ wd_51) (by decide) rfl hK hH hlo hz (fun _ => rfl) (by decide) (N' := 128) (by decide) (by decide) (Nat.le_of_ble_eq_true rfl) (Nat.le_of_ble_eq_true rfl) h113 d_Model_init_184 (fun H hH => ?_)
  have hz := im_z_al h113 hz
  obtain ⟨w114, h115, hsh_46⟩ := im_bd hsh_45
  clear hsh_45
  refine im_put (v := .ref n111) hx hb hts inC_Model tyC_Model tyC_Model_ok nmC_Model hown hK hH (ci := 9) rfl 37 (by decide) (hts _ wd_668) rfl rfl rfl rfl h115 d_Model_init_186 (fun H locs hH => ?_)
  have hz := im_z_p h115 hz
  refine lv_aload_n hx hb d_Model_init_189 rfl (lv_at hl 0 rfl) ?_
  refine lv_sipush (v := 128) hx hb d_Model_init_190 (by decide) ?_
  obtain ⟨n116, w117, h118, hsh_47⟩ := im_bd2 hsh_46
  clear hsh_46
  refine im_newa' (atype := .boolean) (t := 3) (a0 := (128, .inl (fun _ => 0))) hx hb (hts _ wd_71) (by decide) rfl hK hH hlo hz (fun _ => rfl) (by decide) (N' := 128) (by decide) (by decide) (Nat.le_of_ble_eq_true rfl) (Nat.le_of_ble_eq_true rfl) h118 d_Model_init_193 (fun H hH => ?_)
  have hz := im_z_al h118 hz
  obtain ⟨w119, h120, hsh_48⟩ := im_bd hsh_47
  clear hsh_47
  refine im_put (v := .ref n116) hx hb hts inC_Model tyC_Model tyC_Model_ok nmC_Model hown hK hH (ci := 9) rfl 38 (by decide) (hts _ wd_669) rfl rfl rfl rfl h120 d_Model_init_195 (fun H locs hH => ?_)
  have hz := im_z_p h120 hz
  refine lv_aload_n hx hb d_Model_init_198 rfl (lv_at hl 0 rfl) ?_
  refine lv_bipush (v := 16) hx hb d_Model_init_199 (by decide) ?_
  obtain ⟨n121, w122, h123, hsh_49⟩ := im_bd2 hsh_48
  clear hsh_48
  refine im_newa' (atype := .int) (t := 0) (a0 := (16, .inl (fun _ => 0))) hx hb (hts _ wd_51) (by decide) rfl hK hH hlo hz (fun _ => rfl) (by decide) (N' := 16) (by decide) (by decide) (Nat.le_of_ble_eq_true rfl) (Nat.le_of_ble_eq_true rfl) h123 d_Model_init_201 (fun H hH => ?_)
  have hz := im_z_al h123 hz
  obtain ⟨w124, h125, hsh_50⟩ := im_bd hsh_49
  clear hsh_49
  refine im_put (v := .ref n121) hx hb hts inC_Model tyC_Model tyC_Model_ok nmC_Model hown hK hH (ci := 9) rfl 40 (by decide) (hts _ wd_671) rfl rfl rfl rfl h125 d_Model_init_203 (fun H locs hH => ?_)
  have hz := im_z_p h125 hz
  refine lv_aload_n hx hb d_Model_init_206 rfl (lv_at hl 0 rfl) ?_
  refine lv_bipush (v := 80) hx hb d_Model_init_207 (by decide) ?_
  obtain ⟨n126, w127, h128, hsh_51⟩ := im_bd2 hsh_50
  clear hsh_50
  refine im_newa' (atype := .char) (t := 2) (a0 := (80, .inl (fun _ => 0))) hx hb (hts _ wd_33) (by decide) rfl hK hH hlo hz (fun _ => rfl) (by decide) (N' := 80) (by decide) (by decide) (Nat.le_of_ble_eq_true rfl) (Nat.le_of_ble_eq_true rfl) h128 d_Model_init_209 (fun H hH => ?_)
  have hz := im_z_al h128 hz
  obtain ⟨w129, h130, hsh_52⟩ := im_bd hsh_51
  clear hsh_51
  refine im_put (v := .ref n126) hx hb hts inC_Model tyC_Model tyC_Model_ok nmC_Model hown hK hH (ci := 9) rfl 42 (by decide) (hts _ wd_673) rfl rfl rfl rfl h130 d_Model_init_211 (fun H locs hH => ?_)
  have hz := im_z_p h130 hz
  obtain rfl := Option.some.inj hsh_52
  refine W.widen (k := 26) (n := 2190) (Nat.le_of_ble_eq_true rfl) (Nat.le_of_ble_eq_true rfl) ?_
  exact im_vret hx hb hr hlk hH d_Model_init_214
end GEN
