section GEN
variable {l : Launch} {D : va_G} {tA : Nat → ClassId} {lo : Nat} {p : Program} {e : Env} {s : State} {m : MethodId} {args : Array Value} {below : List Frame} {meth : Method} {c : Code}
theorem wd_77 : (Jvm.Cond.methodLink "LanguageTags$Pairs" (3 : Nat) ({ cls := "java/lang/Object", name := "<init>", desc := "()V" } : Jvm.MethodName)) ∈ im_T := im_memT (i := 77) (by decide +kernel) (by decide +kernel)
theorem wd_78 : (Jvm.Cond.classLink "LanguageTags$Pairs" (9 : Nat) "LanguageTags$Form") ∈ im_T := im_memT (i := 78) (by decide +kernel) (by decide +kernel)
theorem wd_80 : (Jvm.Cond.instantiable "LanguageTags$Form" (3 : Nat)) ∈ im_T := im_memT (i := 80) (by decide +kernel) (by decide +kernel)
theorem wd_81 : (Jvm.Cond.methodLink "LanguageTags$Pairs" (20 : Nat) ({ cls := "LanguageTags$Form", name := "<init>", desc := "(I)V" } : Jvm.MethodName)) ∈ im_T := im_memT (i := 81) (by decide +kernel) (by decide +kernel)
theorem wd_82 : (Jvm.Cond.instanceMethod ({ cls := "LanguageTags$Form", name := "<init>", desc := "(I)V" } : Jvm.MethodName)) ∈ im_T := im_memT (i := 82) (by decide +kernel) (by decide +kernel)
theorem wd_83 : (Jvm.Cond.code ({ cls := "LanguageTags$Form", name := "<init>", desc := "(I)V" } : Jvm.MethodName) prog_4_method_1_code (2 : Nat) (Option.none : Option Jvm.ClassFile.FieldType)) ∈ im_T := im_memT (i := 83) (by decide +kernel) (by decide +kernel)
theorem d_Pairs_init_0 : decode c_Pairs_init 0 = .ok (.aload_n 0, 1) := by decide +kernel
theorem d_Pairs_init_1 : decode c_Pairs_init 1 = .ok (.invokespecial 3, 3) := by decide +kernel
theorem d_Pairs_init_4 : decode c_Pairs_init 4 = .ok (.aload_n 0, 1) := by decide +kernel
theorem d_Pairs_init_5 : decode c_Pairs_init 5 = .ok (.bipush (10), 2) := by decide +kernel
theorem d_Pairs_init_7 : decode c_Pairs_init 7 = .ok (.anewarray 9, 3) := by decide +kernel
theorem d_Pairs_init_10 : decode c_Pairs_init 10 = .ok (.putfield 11, 3) := by decide +kernel
theorem d_Pairs_init_13 : decode c_Pairs_init 13 = .ok (.aload_n 0, 1) := by decide +kernel
theorem d_Pairs_init_14 : decode c_Pairs_init 14 = .ok (.bipush (10), 2) := by decide +kernel
theorem d_Pairs_init_16 : decode c_Pairs_init 16 = .ok (.anewarray 9, 3) := by decide +kernel
theorem d_Pairs_init_19 : decode c_Pairs_init 19 = .ok (.putfield 17, 3) := by decide +kernel
theorem d_Pairs_init_22 : decode c_Pairs_init 22 = .ok (.iconst 0, 1) := by decide +kernel
theorem d_Pairs_init_23 : decode c_Pairs_init 23 = .ok (.istore_n 1, 1) := by decide +kernel
theorem d_Pairs_init_24 : decode c_Pairs_init 24 = .ok (.iload_n 1, 1) := by decide +kernel
theorem d_Pairs_init_25 : decode c_Pairs_init 25 = .ok (.bipush (10), 2) := by decide +kernel
theorem d_Pairs_init_27 : decode c_Pairs_init 27 = .ok (.if_icmp .ge (37), 3) := by decide +kernel
theorem d_Pairs_init_30 : decode c_Pairs_init 30 = .ok (.aload_n 0, 1) := by decide +kernel
theorem d_Pairs_init_31 : decode c_Pairs_init 31 = .ok (.getfield 11, 3) := by decide +kernel
theorem d_Pairs_init_34 : decode c_Pairs_init 34 = .ok (.iload_n 1, 1) := by decide +kernel
theorem d_Pairs_init_35 : decode c_Pairs_init 35 = .ok (.new 9, 3) := by decide +kernel
theorem d_Pairs_init_38 : decode c_Pairs_init 38 = .ok (.dup, 1) := by decide +kernel
theorem d_Pairs_init_39 : decode c_Pairs_init 39 = .ok (.iconst 3, 1) := by decide +kernel
theorem d_Pairs_init_40 : decode c_Pairs_init 40 = .ok (.invokespecial 20, 3) := by decide +kernel
theorem d_Pairs_init_43 : decode c_Pairs_init 43 = .ok (.aastore, 1) := by decide +kernel
theorem d_Pairs_init_44 : decode c_Pairs_init 44 = .ok (.aload_n 0, 1) := by decide +kernel
theorem d_Pairs_init_45 : decode c_Pairs_init 45 = .ok (.getfield 17, 3) := by decide +kernel
theorem d_Pairs_init_48 : decode c_Pairs_init 48 = .ok (.iload_n 1, 1) := by decide +kernel
theorem d_Pairs_init_49 : decode c_Pairs_init 49 = .ok (.new 9, 3) := by decide +kernel
theorem d_Pairs_init_52 : decode c_Pairs_init 52 = .ok (.dup, 1) := by decide +kernel
theorem d_Pairs_init_53 : decode c_Pairs_init 53 = .ok (.iconst 3, 1) := by decide +kernel
theorem d_Pairs_init_54 : decode c_Pairs_init 54 = .ok (.invokespecial 20, 3) := by decide +kernel
theorem d_Pairs_init_57 : decode c_Pairs_init 57 = .ok (.aastore, 1) := by decide +kernel
theorem d_Pairs_init_58 : decode c_Pairs_init 58 = .ok (.iinc 1 (1), 3) := by decide +kernel
theorem d_Pairs_init_61 : decode c_Pairs_init 61 = .ok (.goto (-37), 3) := by decide +kernel
theorem d_Pairs_init_64 : decode c_Pairs_init 64 = .ok (.aload_n 0, 1) := by decide +kernel
theorem d_Pairs_init_65 : decode c_Pairs_init 65 = .ok (.iconst 0, 1) := by decide +kernel
theorem d_Pairs_init_66 : decode c_Pairs_init 66 = .ok (.putfield 23, 3) := by decide +kernel
theorem d_Pairs_init_69 : decode c_Pairs_init 69 = .ok (.return_, 1) := by decide +kernel
def sh_Pairs_init (F : Nat) (x0 : Nat) (w : im_W) : Option im_W :=
  im_b2 (im_al w (.inl (5, 10, .inr (.inr (.inr (.inr (fun _ => none))))))) fun n1 w2 => (im_pV w2 4 x0 0 (.ref n1)).bind fun w4 => im_b2 (im_al w4 (.inl (5, 10, .inr (.inr (.inr (.inr (fun _ => none))))))) fun n6 w7 => (im_pV w7 4 x0 1 (.ref n6)).bind fun w9 => (im_gR w9 4 x0 0).bind fun f11 => im_b2 (im_al w9 (.inr (2, df0_Form))) fun n13 w14 => (sh_Form_init_3 F n13 w14).bind fun w16 => (im_sz w16 (w14.1 + 2)).bind fun _ => (im_sR w16 5 f11 (0 : Int32) 2 n13).bind fun w19 => (im_gR w19 4 x0 1).bind fun f21 => im_b2 (im_al w19 (.inr (2, df0_Form))) fun n23 w24 => (sh_Form_init_3 F n23 w24).bind fun w26 => (im_sz w26 (w24.1 + 2)).bind fun _ => (im_sR w26 5 f21 (0 : Int32) 2 n23).bind fun w29 => (im_gR w29 4 x0 0).bind fun f31 => im_b2 (im_al w29 (.inr (2, df0_Form))) fun n33 w34 => (sh_Form_init_3 F n33 w34).bind fun w36 => (im_sz w36 (w34.1 + 2)).bind fun _ => (im_sR w36 5 f31 (1 : Int32) 2 n33).bind fun w39 => (im_gR w39 4 x0 1).bind fun f41 => im_b2 (im_al w39 (.inr (2, df0_Form))) fun n43 w44 => (sh_Form_init_3 F n43 w44).bind fun w46 => (im_sz w46 (w44.1 + 2)).bind fun _ => (im_sR w46 5 f41 (1 : Int32) 2 n43).bind fun w49 => (im_gR w49 4 x0 0).bind fun f51 => im_b2 (im_al w49 (.inr (2, df0_Form))) fun n53 w54 => (sh_Form_init_3 F n53 w54).bind fun w56 => (im_sz w56 (w54.1 + 2)).bind fun _ => (im_sR w56 5 f51 (2 : Int32) 2 n53).bind fun w59 => (im_gR w59 4 x0 1).bind fun f61 => im_b2 (im_al w59 (.inr (2, df0_Form))) fun n63 w64 => (sh_Form_init_3 F n63 w64).bind fun w66 => (im_sz w66 (w64.1 + 2)).bind fun _ => (im_sR w66 5 f61 (2 : Int32) 2 n63).bind fun w69 => (im_gR w69 4 x0 0).bind fun f71 => im_b2 (im_al w69 (.inr (2, df0_Form))) fun n73 w74 => (sh_Form_init_3 F n73 w74).bind fun w76 => (im_sz w76 (w74.1 + 2)).bind fun _ => (im_sR w76 5 f71 (3 : Int32) 2 n73).bind fun w79 => (im_gR w79 4 x0 1).bind fun f81 => im_b2 (im_al w79 (.inr (2, df0_Form))) fun n83 w84 => (sh_Form_init_3 F n83 w84).bind fun w86 => (im_sz w86 (w84.1 + 2)).bind fun _ => (im_sR w86 5 f81 (3 : Int32) 2 n83).bind fun w89 => (im_gR w89 4 x0 0).bind fun f91 => im_b2 (im_al w89 (.inr (2, df0_Form))) fun n93 w94 => (sh_Form_init_3 F n93 w94).bind fun w96 => (im_sz w96 (w94.1 + 2)).bind fun _ => (im_sR w96 5 f91 (4 : Int32) 2 n93).bind fun w99 => (im_gR w99 4 x0 1).bind fun f101 => im_b2 (im_al w99 (.inr (2, df0_Form))) fun n103 w104 => (sh_Form_init_3 F n103 w104).bind fun w106 => (im_sz w106 (w104.1 + 2)).bind fun _ => (im_sR w106 5 f101 (4 : Int32) 2 n103).bind fun w109 => (im_gR w109 4 x0 0).bind fun f111 => im_b2 (im_al w109 (.inr (2, df0_Form))) fun n113 w114 => (sh_Form_init_3 F n113 w114).bind fun w116 => (im_sz w116 (w114.1 + 2)).bind fun _ => (im_sR w116 5 f111 (5 : Int32) 2 n113).bind fun w119 => (im_gR w119 4 x0 1).bind fun f121 => im_b2 (im_al w119 (.inr (2, df0_Form))) fun n123 w124 => (sh_Form_init_3 F n123 w124).bind fun w126 => (im_sz w126 (w124.1 + 2)).bind fun _ => (im_sR w126 5 f121 (5 : Int32) 2 n123).bind fun w129 => (im_gR w129 4 x0 0).bind fun f131 => im_b2 (im_al w129 (.inr (2, df0_Form))) fun n133 w134 => (sh_Form_init_3 F n133 w134).bind fun w136 => (im_sz w136 (w134.1 + 2)).bind fun _ => (im_sR w136 5 f131 (6 : Int32) 2 n133).bind fun w139 => (im_gR w139 4 x0 1).bind fun f141 => im_b2 (im_al w139 (.inr (2, df0_Form))) fun n143 w144 => (sh_Form_init_3 F n143 w144).bind fun w146 => (im_sz w146 (w144.1 + 2)).bind fun _ => (im_sR w146 5 f141 (6 : Int32) 2 n143).bind fun w149 => (im_gR w149 4 x0 0).bind fun f151 => im_b2 (im_al w149 (.inr (2, df0_Form))) fun n153 w154 => (sh_Form_init_3 F n153 w154).bind fun w156 => (im_sz w156 (w154.1 + 2)).bind fun _ => (im_sR w156 5 f151 (7 : Int32) 2 n153).bind fun w159 => (im_gR w159 4 x0 1).bind fun f161 => im_b2 (im_al w159 (.inr (2, df0_Form))) fun n163 w164 => (sh_Form_init_3 F n163 w164).bind fun w166 => (im_sz w166 (w164.1 + 2)).bind fun _ => (im_sR w166 5 f161 (7 : Int32) 2 n163).bind fun w169 => (im_gR w169 4 x0 0).bind fun f171 => im_b2 (im_al w169 (.inr (2, df0_Form))) fun n173 w174 => (sh_Form_init_3 F n173 w174).bind fun w176 => (im_sz w176 (w174.1 + 2)).bind fun _ => (im_sR w176 5 f171 (8 : Int32) 2 n173).bind fun w179 => (im_gR w179 4 x0 1).bind fun f181 => im_b2 (im_al w179 (.inr (2, df0_Form))) fun n183 w184 => (sh_Form_init_3 F n183 w184).bind fun w186 => (im_sz w186 (w184.1 + 2)).bind fun _ => (im_sR w186 5 f181 (8 : Int32) 2 n183).bind fun w189 => (im_gR w189 4 x0 0).bind fun f191 => im_b2 (im_al w189 (.inr (2, df0_Form))) fun n193 w194 => (sh_Form_init_3 F n193 w194).bind fun w196 => (im_sz w196 (w194.1 + 2)).bind fun _ => (im_sR w196 5 f191 (9 : Int32) 2 n193).bind fun w199 => (im_gR w199 4 x0 1).bind fun f201 => im_b2 (im_al w199 (.inr (2, df0_Form))) fun n203 w204 => (sh_Form_init_3 F n203 w204).bind fun w206 => (im_sz w206 (w204.1 + 2)).bind fun _ => (im_sR w206 5 f201 (9 : Int32) 2 n203).bind fun w209 => (im_pV w209 4 x0 2 (.int (0 : Int32))).bind fun w211 => some w211
set_option maxHeartbeats 4000000 in
set_option maxRecDepth 100000 in
theorem metc_Pairs_init {F : Nat} {x0 : Nat} {w : im_W} {r : im_W} (hsh : sh_Pairs_init F x0 w = some r) : Met l y_Pairs_init (Cond.code y_Pairs_init c_Pairs_init 2 none :: im_T) (im_rmc 3 53 62 200) (im_PreC D vwCl tA lo im_NW [.ref (lo + x0)] w) (im_Post D vwCl tA lo none r) 62 200 (fun q => lo ≤ q) := by
  refine im_ofWC (cc := c_Pairs_init) (nL := 2) (by decide) rfl (Nat.le_of_ble_eq_true rfl) ?_
  intro p e s m args below meth c X hin hlo hz hAO H locs ls hH hl
  obtain ⟨hx, hb, hr, hts, hown, hlk, hml, hK, hN⟩ := id X
  have hl : lv_has ls 2 [(0, .ref (lo + x0))] := hl
  unfold sh_Pairs_init at hsh
  refine lv_aload_n hx hb d_Pairs_init_0 rfl (lv_at hl 0 rfl) ?_
  refine W.objInit hx hb hown (hts _ wd_77) (hts _ wd_18) (hts _ wd_objcode) rfl (by rw [hml]; exact hl.1) rfl d_Pairs_init_1 (Nat.le_of_ble_eq_true rfl) (Nat.le_of_ble_eq_true rfl) ?_
  refine W.eq (g2 := F0 m 4 ls []) rfl ?_
  refine lv_aload_n hx hb d_Pairs_init_4 rfl (lv_at hl 0 rfl) ?_
  refine lv_bipush (v := 10) hx hb d_Pairs_init_5 (by decide) ?_
  obtain ⟨n1, w2, h3, hsh_1⟩ := im_bd2 hsh
  clear hsh
  refine im_newq' (t := 5) (C := "LanguageTags$Form") hx hb hown (hts _ wd_78) (hAO _ (by decide)) (by decide) rfl hK hH hlo hz (by decide) (N' := 10) (by decide) (by decide) (Nat.le_of_ble_eq_true rfl) (Nat.le_of_ble_eq_true rfl) h3 d_Pairs_init_7 (fun H hH => ?_)
  have hz := im_z_al h3 hz
  obtain ⟨w4, h5, hsh_2⟩ := im_bd hsh_1
  clear hsh_1
  refine im_putF (v := .ref n1) hx hb hts inC_Pairs tyC_Pairs tyC_Pairs_ok nmC_Pairs hown hK hH (ci := 4) rfl 0 (by decide) (hts _ wd_116) rfl rfl hin rfl rfl rfl h5 d_Pairs_init_10 (fun H locs hH => ?_)
  have hz := im_z_p h5 hz
  refine lv_aload_n hx hb d_Pairs_init_13 rfl (lv_at hl 0 rfl) ?_
  refine lv_bipush (v := 10) hx hb d_Pairs_init_14 (by decide) ?_
  obtain ⟨n6, w7, h8, hsh_3⟩ := im_bd2 hsh_2
  clear hsh_2
  refine im_newq' (t := 5) (C := "LanguageTags$Form") hx hb hown (hts _ wd_78) (hAO _ (by decide)) (by decide) rfl hK hH hlo hz (by decide) (N' := 10) (by decide) (by decide) (Nat.le_of_ble_eq_true rfl) (Nat.le_of_ble_eq_true rfl) h8 d_Pairs_init_16 (fun H hH => ?_)
  have hz := im_z_al h8 hz
  obtain ⟨w9, h10, hsh_4⟩ := im_bd hsh_3
  clear hsh_3
  refine im_putF (v := .ref n6) hx hb hts inC_Pairs tyC_Pairs tyC_Pairs_ok nmC_Pairs hown hK hH (ci := 4) rfl 1 (by decide) (hts _ wd_117) rfl rfl hin rfl rfl rfl h10 d_Pairs_init_19 (fun H locs hH => ?_)
  have hz := im_z_p h10 hz
  refine lv_iconst (v := 0) hx hb d_Pairs_init_22 (by decide) ?_
  refine lv_istore_n (lv' := [(1, .int (0 : Int32)), (0, .ref (lo + x0))]) hx hb d_Pairs_init_23 rfl hl (by decide) rfl (fun ls hl => ?_)
  refine lv_iload_n hx hb d_Pairs_init_24 rfl (lv_at hl 0 rfl) ?_
  refine lv_bipush (v := 10) hx hb d_Pairs_init_25 (by decide) ?_
  refine lv_icmp_ge (tgt := 64) hx hb d_Pairs_init_27 (by decide) (fun cc => absurd cc (by decide)) (fun cc => ?_)
  refine lv_aload_n hx hb d_Pairs_init_30 rfl (lv_at hl 1 rfl) ?_
  obtain ⟨f11, h12, hsh_5⟩ := im_bd hsh_4
  clear hsh_4
  refine im_getR hx hb hts inC_Pairs hown hK hH (ci := 4) rfl 0 (by decide) (hts _ wd_116) rfl h12 d_Pairs_init_31 ?_
  refine lv_iload_n hx hb d_Pairs_init_34 rfl (lv_at hl 0 rfl) ?_
  obtain ⟨n13, w14, h15, hsh_6⟩ := im_bd2 hsh_5
  clear hsh_5
  refine im_new' (ci := 2) (fs := df0_Form) hx hb hts inC_Form tyC_Form tyC_Form_ok hown (hts _ wd_78) (hts _ wd_80) (hts _ wd_6) hK hH rfl hlo hz (dfC_Form lo) (Nat.le_of_ble_eq_true rfl) (Nat.le_of_ble_eq_true rfl) h15 d_Pairs_init_35 (fun H hH => ?_)
  have hz := im_z_al h15 hz
  refine lv_dup hx hb d_Pairs_init_38 rfl ?_
  refine lv_iconst (v := 3) hx hb d_Pairs_init_39 (by decide) ?_
  obtain ⟨w16, h17, hsh_7⟩ := im_bd hsh_6
  clear hsh_6
  obtain ⟨_, h18, hsh_8⟩ := im_bd hsh_7
  clear hsh_7
  refine im_sized (fun hsz => ?_)
  have hHz : H.size = lo + w14.1 := Nat.le_antisymm (Nat.le_trans hsz (Nat.le_of_eq hz)) (im_low hH hlo)
  refine im_afterC (va_runI (As := [.int (3 : Int32)]) (rest := [.ref (lo + n13), .int (0 : Int32), .ref (lo + f11)]) ⟨hx, hb, hml, hown, hts⟩ (metc_Form_init_3 h17) ⟨(callB_of 1 hts (im_good wd_83) rfl rfl rfl (hts _ wd_6) (hts _ wd_81) (by decide +kernel) ⟨Nat.le_of_ble_eq_true rfl, Nat.le_of_ble_eq_true rfl⟩), rfl, hts _ wd_82⟩ (im_preC im_NW_ok hK hN hAO hH hHz _) rfl rfl hl.1 rfl (lv_room (Nat.le_of_ble_eq_true rfl)) d_Pairs_init_40 ⟨Nat.le_of_ble_eq_true rfl, Nat.le_of_ble_eq_true rfl⟩) hH (fun H locs hH => ?_)
  have hz := im_z_k h18 hz
  obtain ⟨w19, h20, hsh_9⟩ := im_bd hsh_8
  clear hsh_8
  refine im_aast hx hb hK hH (ci := 2) (r := (RC_Form, TC_Form, 3)) (by decide) rfl rfl h20 d_Pairs_init_43 (fun H locs hH => ?_)
  have hz := im_z_s h20 hz
  refine lv_aload_n hx hb d_Pairs_init_44 rfl (lv_at hl 1 rfl) ?_
  obtain ⟨f21, h22, hsh_10⟩ := im_bd hsh_9
  clear hsh_9
  refine im_getR hx hb hts inC_Pairs hown hK hH (ci := 4) rfl 1 (by decide) (hts _ wd_117) rfl h22 d_Pairs_init_45 ?_
  refine lv_iload_n hx hb d_Pairs_init_48 rfl (lv_at hl 0 rfl) ?_
  obtain ⟨n23, w24, h25, hsh_11⟩ := im_bd2 hsh_10
  clear hsh_10
  refine im_new' (ci := 2) (fs := df0_Form) hx hb hts inC_Form tyC_Form tyC_Form_ok hown (hts _ wd_78) (hts _ wd_80) (hts _ wd_6) hK hH rfl hlo hz (dfC_Form lo) (Nat.le_of_ble_eq_true rfl) (Nat.le_of_ble_eq_true rfl) h25 d_Pairs_init_49 (fun H hH => ?_)
  have hz := im_z_al h25 hz
  refine lv_dup hx hb d_Pairs_init_52 rfl ?_
  refine lv_iconst (v := 3) hx hb d_Pairs_init_53 (by decide) ?_
  obtain ⟨w26, h27, hsh_12⟩ := im_bd hsh_11
  clear hsh_11
  obtain ⟨_, h28, hsh_13⟩ := im_bd hsh_12
  clear hsh_12
  refine im_sized (fun hsz => ?_)
  have hHz : H.size = lo + w24.1 := Nat.le_antisymm (Nat.le_trans hsz (Nat.le_of_eq hz)) (im_low hH hlo)
  refine im_afterC (va_runI (As := [.int (3 : Int32)]) (rest := [.ref (lo + n23), .int (0 : Int32), .ref (lo + f21)]) ⟨hx, hb, hml, hown, hts⟩ (metc_Form_init_3 h27) ⟨(callB_of 1 hts (im_good wd_83) rfl rfl rfl (hts _ wd_6) (hts _ wd_81) (by decide +kernel) ⟨Nat.le_of_ble_eq_true rfl, Nat.le_of_ble_eq_true rfl⟩), rfl, hts _ wd_82⟩ (im_preC im_NW_ok hK hN hAO hH hHz _) rfl rfl hl.1 rfl (lv_room (Nat.le_of_ble_eq_true rfl)) d_Pairs_init_54 ⟨Nat.le_of_ble_eq_true rfl, Nat.le_of_ble_eq_true rfl⟩) hH (fun H locs hH => ?_)
  have hz := im_z_k h28 hz
  obtain ⟨w29, h30, hsh_14⟩ := im_bd hsh_13
  clear hsh_13
  refine im_aast hx hb hK hH (ci := 2) (r := (RC_Form, TC_Form, 3)) (by decide) rfl rfl h30 d_Pairs_init_57 (fun H locs hH => ?_)
  have hz := im_z_s h30 hz
  refine lv_iinc (v := (1 : Int32)) (lv' := [(1, .int (1 : Int32)), (0, .ref (lo + x0))]) hx hb d_Pairs_init_58 hl (k := 0) rfl (by decide) (by decide) rfl (fun ls hl => ?_)
  refine lv_goto (tgt := 24) hx hb d_Pairs_init_61 (by decide) ?_
  refine lv_iload_n hx hb d_Pairs_init_24 rfl (lv_at hl 0 rfl) ?_
  refine lv_bipush (v := 10) hx hb d_Pairs_init_25 (by decide) ?_
  refine lv_icmp_ge (tgt := 64) hx hb d_Pairs_init_27 (by decide) (fun cc => absurd cc (by decide)) (fun cc => ?_)
  refine lv_aload_n hx hb d_Pairs_init_30 rfl (lv_at hl 1 rfl) ?_
  obtain ⟨f31, h32, hsh_15⟩ := im_bd hsh_14
  clear hsh_14
  refine im_getR hx hb hts inC_Pairs hown hK hH (ci := 4) rfl 0 (by decide) (hts _ wd_116) rfl h32 d_Pairs_init_31 ?_
  refine lv_iload_n hx hb d_Pairs_init_34 rfl (lv_at hl 0 rfl) ?_
  obtain ⟨n33, w34, h35, hsh_16⟩ := im_bd2 hsh_15
  clear hsh_15
  refine im_new' (ci := 2) (fs := df0_Form) hx hb hts inC_Form tyC_Form tyC_Form_ok hown (hts _ wd_78) (hts _ wd_80) (hts _ wd_6) hK hH rfl hlo hz (dfC_Form lo) (Nat.le_of_ble_eq_true rfl) (Nat.le_of_ble_eq_true rfl) h35 d_Pairs_init_35 (fun H hH => ?_)
  have hz := im_z_al h35 hz
  refine lv_dup hx hb d_Pairs_init_38 rfl ?_
  refine lv_iconst (v := 3) hx hb d_Pairs_init_39 (by decide) ?_
  obtain ⟨w36, h37, hsh_17⟩ := im_bd hsh_16
  clear hsh_16
  obtain ⟨_, h38, hsh_18⟩ := im_bd hsh_17
  clear hsh_17
  refine im_sized (fun hsz => ?_)
  have hHz : H.size = lo + w34.1 := Nat.le_antisymm (Nat.le_trans hsz (Nat.le_of_eq hz)) (im_low hH hlo)
  refine im_afterC (va_runI (As := [.int (3 : Int32)]) (rest := [.ref (lo + n33), .int (1 : Int32), .ref (lo + f31)]) ⟨hx, hb, hml, hown, hts⟩ (metc_Form_init_3 h37) ⟨(callB_of 1 hts (im_good wd_83) rfl rfl rfl (hts _ wd_6) (hts _ wd_81) (by decide +kernel) ⟨Nat.le_of_ble_eq_true rfl, Nat.le_of_ble_eq_true rfl⟩), rfl, hts _ wd_82⟩ (im_preC im_NW_ok hK hN hAO hH hHz _) rfl rfl hl.1 rfl (lv_room (Nat.le_of_ble_eq_true rfl)) d_Pairs_init_40 ⟨Nat.le_of_ble_eq_true rfl, Nat.le_of_ble_eq_true rfl⟩) hH (fun H locs hH => ?_)
  have hz := im_z_k h38 hz
  obtain ⟨w39, h40, hsh_19⟩ := im_bd hsh_18
  clear hsh_18
  refine im_aast hx hb hK hH (ci := 2) (r := (RC_Form, TC_Form, 3)) (by decide) rfl rfl h40 d_Pairs_init_43 (fun H locs hH => ?_)
  have hz := im_z_s h40 hz
  refine lv_aload_n hx hb d_Pairs_init_44 rfl (lv_at hl 1 rfl) ?_
  obtain ⟨f41, h42, hsh_20⟩ := im_bd hsh_19
  clear hsh_19
  refine im_getR hx hb hts inC_Pairs hown hK hH (ci := 4) rfl 1 (by decide) (hts _ wd_117) rfl h42 d_Pairs_init_45 ?_
  refine lv_iload_n hx hb d_Pairs_init_48 rfl (lv_at hl 0 rfl) ?_
  obtain ⟨n43, w44, h45, hsh_21⟩ := im_bd2 hsh_20
  clear hsh_20
  refine im_new' (ci := 2) (fs := df0_Form) hx hb hts inC_Form tyC_Form tyC_Form_ok hown (hts _ wd_78) (hts _ wd_80) (hts _ wd_6) hK hH rfl hlo hz (dfC_Form lo) (Nat.le_of_ble_eq_true rfl) (Nat.le_of_ble_eq_true rfl) h45 d_Pairs_init_49 (fun H hH => ?_)
  have hz := im_z_al h45 hz
  refine lv_dup hx hb d_Pairs_init_52 rfl ?_
  refine lv_iconst (v := 3) hx hb d_Pairs_init_53 (by decide) ?_
  obtain ⟨w46, h47, hsh_22⟩ := im_bd hsh_21
  clear hsh_21
  obtain ⟨_, h48, hsh_23⟩ := im_bd hsh_22
  clear hsh_22
  refine im_sized (fun hsz => ?_)
  have hHz : H.size = lo + w44.1 := Nat.le_antisymm (Nat.le_trans hsz (Nat.le_of_eq hz)) (im_low hH hlo)
  refine im_afterC (va_runI (As := [.int (3 : Int32)]) (rest := [.ref (lo + n43), .int (1 : Int32), .ref (lo + f41)]) ⟨hx, hb, hml, hown, hts⟩ (metc_Form_init_3 h47) ⟨(callB_of 1 hts (im_good wd_83) rfl rfl rfl (hts _ wd_6) (hts _ wd_81) (by decide +kernel) ⟨Nat.le_of_ble_eq_true rfl, Nat.le_of_ble_eq_true rfl⟩), rfl, hts _ wd_82⟩ (im_preC im_NW_ok hK hN hAO hH hHz _) rfl rfl hl.1 rfl (lv_room (Nat.le_of_ble_eq_true rfl)) d_Pairs_init_54 ⟨Nat.le_of_ble_eq_true rfl, Nat.le_of_ble_eq_true rfl⟩) hH (fun H locs hH => ?_)
  have hz := im_z_k h48 hz
  obtain ⟨w49, h50, hsh_24⟩ := im_bd hsh_23
  clear hsh_23
  refine im_aast hx hb hK hH (ci := 2) (r := (RC_Form, TC_Form, 3)) (by decide) rfl rfl h50 d_Pairs_init_57 (fun H locs hH => ?_)
  have hz := im_z_s h50 hz
  refine lv_iinc (v := (2 : Int32)) (lv' := [(1, .int (2 : Int32)), (0, .ref (lo + x0))]) hx hb d_Pairs_init_58 hl (k := 0) rfl (by decide) (by decide) rfl (fun ls hl => ?_)
  refine lv_goto (tgt := 24) hx hb d_Pairs_init_61 (by decide) ?_
  refine lv_iload_n hx hb d_Pairs_init_24 rfl (lv_at hl 0 rfl) ?_
  refine lv_bipush (v := 10) hx hb d_Pairs_init_25 (by decide) ?_
  refine lv_icmp_ge (tgt := 64) hx hb d_Pairs_init_27 (by decide) (fun cc => absurd cc (by decide)) (fun cc => ?_)
  refine lv_aload_n hx hb d_Pairs_init_30 rfl (lv_at hl 1 rfl) ?_
  obtain ⟨f51, h52, hsh_25⟩ := im_bd hsh_24
  clear hsh_24
  refine im_getR hx hb hts inC_Pairs hown hK hH (ci := 4) rfl 0 (by decide) (hts _ wd_116) rfl h52 d_Pairs_init_31 ?_
  refine lv_iload_n hx hb d_Pairs_init_34 rfl (lv_at hl 0 rfl) ?_
  obtain ⟨n53, w54, h55, hsh_26⟩ := im_bd2 hsh_25
  clear hsh_25
  refine im_new' (ci := 2) (fs := df0_Form) hx hb hts inC_Form tyC_Form tyC_Form_ok hown (hts _ wd_78) (hts _ wd_80) (hts _ wd_6) hK hH rfl hlo hz (dfC_Form lo) (Nat.le_of_ble_eq_true rfl) (Nat.le_of_ble_eq_true rfl) h55 d_Pairs_init_35 (fun H hH => ?_)
  have hz := im_z_al h55 hz
  refine lv_dup hx hb d_Pairs_init_38 rfl ?_
  refine lv_iconst (v := 3) hx hb d_Pairs_init_39 (by decide) ?_
  obtain ⟨w56, h57, hsh_27⟩ := im_bd hsh_26
  clear hsh_26
  obtain ⟨_, h58, hsh_28⟩ := im_bd hsh_27
  clear hsh_27
  refine im_sized (fun hsz => ?_)
  have hHz : H.size = lo + w54.1 := Nat.le_antisymm (Nat.le_trans hsz (Nat.le_of_eq hz)) (im_low hH hlo)
  refine im_afterC (va_runI (As := [.int (3 : Int32)]) (rest := [.ref (lo + n53), .int (2 : Int32), .ref (lo + f51)]) ⟨hx, hb, hml, hown, hts⟩ (metc_Form_init_3 h57) ⟨(callB_of 1 hts (im_good wd_83) rfl rfl rfl (hts _ wd_6) (hts _ wd_81) (by decide +kernel) ⟨Nat.le_of_ble_eq_true rfl, Nat.le_of_ble_eq_true rfl⟩), rfl, hts _ wd_82⟩ (im_preC im_NW_ok hK hN hAO hH hHz _) rfl rfl hl.1 rfl (lv_room (Nat.le_of_ble_eq_true rfl)) d_Pairs_init_40 ⟨Nat.le_of_ble_eq_true rfl, Nat.le_of_ble_eq_true rfl⟩) hH (fun H locs hH => ?_)
  have hz := im_z_k h58 hz
  obtain ⟨w59, h60, hsh_29⟩ := im_bd hsh_28
  clear hsh_28
  refine im_aast hx hb hK hH (ci := 2) (r := (RC_Form, TC_Form, 3)) (by decide) rfl rfl h60 d_Pairs_init_43 (fun H locs hH => ?_)
  have hz := im_z_s h60 hz
  refine lv_aload_n hx hb d_Pairs_init_44 rfl (lv_at hl 1 rfl) ?_
  obtain ⟨f61, h62, hsh_30⟩ := im_bd hsh_29
  clear hsh_29
  refine im_getR hx hb hts inC_Pairs hown hK hH (ci := 4) rfl 1 (by decide) (hts _ wd_117) rfl h62 d_Pairs_init_45 ?_
  refine lv_iload_n hx hb d_Pairs_init_48 rfl (lv_at hl 0 rfl) ?_
  obtain ⟨n63, w64, h65, hsh_31⟩ := im_bd2 hsh_30
  clear hsh_30
  refine im_new' (ci := 2) (fs := df0_Form) hx hb hts inC_Form tyC_Form tyC_Form_ok hown (hts _ wd_78) (hts _ wd_80) (hts _ wd_6) hK hH rfl hlo hz (dfC_Form lo) (Nat.le_of_ble_eq_true rfl) (Nat.le_of_ble_eq_true rfl) h65 d_Pairs_init_49 (fun H hH => ?_)
  have hz := im_z_al h65 hz
  refine lv_dup hx hb d_Pairs_init_52 rfl ?_
  refine lv_iconst (v := 3) hx hb d_Pairs_init_53 (by decide) ?_
  obtain ⟨w66, h67, hsh_32⟩ := im_bd hsh_31
  clear hsh_31
  obtain ⟨_, h68, hsh_33⟩ := im_bd hsh_32
  clear hsh_32
  refine im_sized (fun hsz => ?_)
  have hHz : H.size = lo + w64.1 := Nat.le_antisymm (Nat.le_trans hsz (Nat.le_of_eq hz)) (im_low hH hlo)
  refine im_afterC (va_runI (As := [.int (3 : Int32)]) (rest := [.ref (lo + n63), .int (2 : Int32), .ref (lo + f61)]) ⟨hx, hb, hml, hown, hts⟩ (metc_Form_init_3 h67) ⟨(callB_of 1 hts (im_good wd_83) rfl rfl rfl (hts _ wd_6) (hts _ wd_81) (by decide +kernel) ⟨Nat.le_of_ble_eq_true rfl, Nat.le_of_ble_eq_true rfl⟩), rfl, hts _ wd_82⟩ (im_preC im_NW_ok hK hN hAO hH hHz _) rfl rfl hl.1 rfl (lv_room (Nat.le_of_ble_eq_true rfl)) d_Pairs_init_54 ⟨Nat.le_of_ble_eq_true rfl, Nat.le_of_ble_eq_true rfl⟩) hH (fun H locs hH => ?_)
  have hz := im_z_k h68 hz
  obtain ⟨w69, h70, hsh_34⟩ := im_bd hsh_33
  clear hsh_33
  refine im_aast hx hb hK hH (ci := 2) (r := (RC_Form, TC_Form, 3)) (by decide) rfl rfl h70 d_Pairs_init_57 (fun H locs hH => ?_)
  have hz := im_z_s h70 hz
  refine lv_iinc (v := (3 : Int32)) (lv' := [(1, .int (3 : Int32)), (0, .ref (lo + x0))]) hx hb d_Pairs_init_58 hl (k := 0) rfl (by decide) (by decide) rfl (fun ls hl => ?_)
  refine lv_goto (tgt := 24) hx hb d_Pairs_init_61 (by decide) ?_
  refine lv_iload_n hx hb d_Pairs_init_24 rfl (lv_at hl 0 rfl) ?_
  refine lv_bipush (v := 10) hx hb d_Pairs_init_25 (by decide) ?_
  refine lv_icmp_ge (tgt := 64) hx hb d_Pairs_init_27 (by decide) (fun cc => absurd cc (by decide)) (fun cc => ?_)
  refine lv_aload_n hx hb d_Pairs_init_30 rfl (lv_at hl 1 rfl) ?_
  obtain ⟨f71, h72, hsh_35⟩ := im_bd hsh_34
  clear hsh_34
  refine im_getR hx hb hts inC_Pairs hown hK hH (ci := 4) rfl 0 (by decide) (hts _ wd_116) rfl h72 d_Pairs_init_31 ?_
  refine lv_iload_n hx hb d_Pairs_init_34 rfl (lv_at hl 0 rfl) ?_
  obtain ⟨n73, w74, h75, hsh_36⟩ := im_bd2 hsh_35
  clear hsh_35
  refine im_new' (ci := 2) (fs := df0_Form) hx hb hts inC_Form tyC_Form tyC_Form_ok hown (hts _ wd_78) (hts _ wd_80) (hts _ wd_6) hK hH rfl hlo hz (dfC_Form lo) (Nat.le_of_ble_eq_true rfl) (Nat.le_of_ble_eq_true rfl) h75 d_Pairs_init_35 (fun H hH => ?_)
  have hz := im_z_al h75 hz
  refine lv_dup hx hb d_Pairs_init_38 rfl ?_
  refine lv_iconst (v := 3) hx hb d_Pairs_init_39 (by decide) ?_
  obtain ⟨w76, h77, hsh_37⟩ := im_bd hsh_36
  clear hsh_36
  obtain ⟨_, h78, hsh_38⟩ := im_bd hsh_37
  clear hsh_37
  refine im_sized (fun hsz => ?_)
  have hHz : H.size = lo + w74.1 := Nat.le_antisymm (Nat.le_trans hsz (Nat.le_of_eq hz)) (im_low hH hlo)
  refine im_afterC (va_runI (As := [.int (3 : Int32)]) (rest := [.ref (lo + n73), .int (3 : Int32), .ref (lo + f71)]) ⟨hx, hb, hml, hown, hts⟩ (metc_Form_init_3 h77) ⟨(callB_of 1 hts (im_good wd_83) rfl rfl rfl (hts _ wd_6) (hts _ wd_81) (by decide +kernel) ⟨Nat.le_of_ble_eq_true rfl, Nat.le_of_ble_eq_true rfl⟩), rfl, hts _ wd_82⟩ (im_preC im_NW_ok hK hN hAO hH hHz _) rfl rfl hl.1 rfl (lv_room (Nat.le_of_ble_eq_true rfl)) d_Pairs_init_40 ⟨Nat.le_of_ble_eq_true rfl, Nat.le_of_ble_eq_true rfl⟩) hH (fun H locs hH => ?_)
  have hz := im_z_k h78 hz
  obtain ⟨w79, h80, hsh_39⟩ := im_bd hsh_38
  clear hsh_38
  refine im_aast hx hb hK hH (ci := 2) (r := (RC_Form, TC_Form, 3)) (by decide) rfl rfl h80 d_Pairs_init_43 (fun H locs hH => ?_)
  have hz := im_z_s h80 hz
  refine lv_aload_n hx hb d_Pairs_init_44 rfl (lv_at hl 1 rfl) ?_
  obtain ⟨f81, h82, hsh_40⟩ := im_bd hsh_39
  clear hsh_39
  refine im_getR hx hb hts inC_Pairs hown hK hH (ci := 4) rfl 1 (by decide) (hts _ wd_117) rfl h82 d_Pairs_init_45 ?_
  refine lv_iload_n hx hb d_Pairs_init_48 rfl (lv_at hl 0 rfl) ?_
  obtain ⟨n83, w84, h85, hsh_41⟩ := im_bd2 hsh_40
  clear hsh_40
  refine im_new' (ci := 2) (fs := df0_Form) hx hb hts inC_Form tyC_Form tyC_Form_ok hown (hts _ wd_78) (hts _ wd_80) (hts _ wd_6) hK hH rfl hlo hz (dfC_Form lo) (Nat.le_of_ble_eq_true rfl) (Nat.le_of_ble_eq_true rfl) h85 d_Pairs_init_49 (fun H hH => ?_)
  have hz := im_z_al h85 hz
  refine lv_dup hx hb d_Pairs_init_52 rfl ?_
  refine lv_iconst (v := 3) hx hb d_Pairs_init_53 (by decide) ?_
  obtain ⟨w86, h87, hsh_42⟩ := im_bd hsh_41
  clear hsh_41
  obtain ⟨_, h88, hsh_43⟩ := im_bd hsh_42
  clear hsh_42
  refine im_sized (fun hsz => ?_)
  have hHz : H.size = lo + w84.1 := Nat.le_antisymm (Nat.le_trans hsz (Nat.le_of_eq hz)) (im_low hH hlo)
  refine im_afterC (va_runI (As := [.int (3 : Int32)]) (rest := [.ref (lo + n83), .int (3 : Int32), .ref (lo + f81)]) ⟨hx, hb, hml, hown, hts⟩ (metc_Form_init_3 h87) ⟨(callB_of 1 hts (im_good wd_83) rfl rfl rfl (hts _ wd_6) (hts _ wd_81) (by decide +kernel) ⟨Nat.le_of_ble_eq_true rfl, Nat.le_of_ble_eq_true rfl⟩), rfl, hts _ wd_82⟩ (im_preC im_NW_ok hK hN hAO hH hHz _) rfl rfl hl.1 rfl (lv_room (Nat.le_of_ble_eq_true rfl)) d_Pairs_init_54 ⟨Nat.le_of_ble_eq_true rfl, Nat.le_of_ble_eq_true rfl⟩) hH (fun H locs hH => ?_)
  have hz := im_z_k h88 hz
  obtain ⟨w89, h90, hsh_44⟩ := im_bd hsh_43
  clear hsh_43
  refine im_aast hx hb hK hH (ci := 2) (r := (RC_Form, TC_Form, 3)) (by decide) rfl rfl h90 d_Pairs_init_57 (fun H locs hH => ?_)
  have hz := im_z_s h90 hz
  refine lv_iinc (v := (4 : Int32)) (lv' := [(1, .int (4 : Int32)), (0, .ref (lo + x0))]) hx hb d_Pairs_init_58 hl (k := 0) rfl (by decide) (by decide) rfl (fun ls hl => ?_)
  refine lv_goto (tgt := 24) hx hb d_Pairs_init_61 (by decide) ?_
  refine lv_iload_n hx hb d_Pairs_init_24 rfl (lv_at hl 0 rfl) ?_
  refine lv_bipush (v := 10) hx hb d_Pairs_init_25 (by decide) ?_
  refine lv_icmp_ge (tgt := 64) hx hb d_Pairs_init_27 (by decide) (fun cc => absurd cc (by decide)) (fun cc => ?_)
  refine lv_aload_n hx hb d_Pairs_init_30 rfl (lv_at hl 1 rfl) ?_
  obtain ⟨f91, h92, hsh_45⟩ := im_bd hsh_44
  clear hsh_44
  refine im_getR hx hb hts inC_Pairs hown hK hH (ci := 4) rfl 0 (by decide) (hts _ wd_116) rfl h92 d_Pairs_init_31 ?_
  refine lv_iload_n hx hb d_Pairs_init_34 rfl (lv_at hl 0 rfl) ?_
  obtain ⟨n93, w94, h95, hsh_46⟩ := im_bd2 hsh_45
  clear hsh_45
  refine im_new' (ci := 2) (fs := df0_Form) hx hb hts inC_Form tyC_Form tyC_Form_ok hown (hts _ wd_78) (hts _ wd_80) (hts _ wd_6) hK hH rfl hlo hz (dfC_Form lo) (Nat.le_of_ble_eq_true rfl) (Nat.le_of_ble_eq_true rfl) h95 d_Pairs_init_35 (fun H hH => ?_)
  have hz := im_z_al h95 hz
  refine lv_dup hx hb d_Pairs_init_38 rfl ?_
  refine lv_iconst (v := 3) hx hb d_Pairs_init_39 (by decide) ?_
  obtain ⟨w96, h97, hsh_47⟩ := im_bd hsh_46
  clear hsh_46
  obtain ⟨_, h98, hsh_48⟩ := im_bd hsh_47
  clear hsh_47
  refine im_sized (fun hsz => ?_)
  have hHz : H.size = lo + w94.1 := Nat.le_antisymm (Nat.le_trans hsz (Nat.le_of_eq hz)) (im_low hH hlo)
  refine im_afterC (va_runI (As := [.int (3 : Int32)]) (rest := [.ref (lo + n93), .int (4 : Int32), .ref (lo + f91)]) ⟨hx, hb, hml, hown, hts⟩ (metc_Form_init_3 h97) ⟨(callB_of 1 hts (im_good wd_83) rfl rfl rfl (hts _ wd_6) (hts _ wd_81) (by decide +kernel) ⟨Nat.le_of_ble_eq_true rfl, Nat.le_of_ble_eq_true rfl⟩), rfl, hts _ wd_82⟩ (im_preC im_NW_ok hK hN hAO hH hHz _) rfl rfl hl.1 rfl (lv_room (Nat.le_of_ble_eq_true rfl)) d_Pairs_init_40 ⟨Nat.le_of_ble_eq_true rfl, Nat.le_of_ble_eq_true rfl⟩) hH (fun H locs hH => ?_)
  have hz := im_z_k h98 hz
  obtain ⟨w99, h100, hsh_49⟩ := im_bd hsh_48
  clear hsh_48
  refine im_aast hx hb hK hH (ci := 2) (r := (RC_Form, TC_Form, 3)) (by decide) rfl rfl h100 d_Pairs_init_43 (fun H locs hH => ?_)
  have hz := im_z_s h100 hz
  refine lv_aload_n hx hb d_Pairs_init_44 rfl (lv_at hl 1 rfl) ?_
  obtain ⟨f101, h102, hsh_50⟩ := im_bd hsh_49
  clear hsh_49
  refine im_getR hx hb hts inC_Pairs hown hK hH (ci := 4) rfl 1 (by decide) (hts _ wd_117) rfl h102 d_Pairs_init_45 ?_
  refine lv_iload_n hx hb d_Pairs_init_48 rfl (lv_at hl 0 rfl) ?_
  obtain ⟨n103, w104, h105, hsh_51⟩ := im_bd2 hsh_50
  clear hsh_50
  refine im_new' (ci := 2) (fs := df0_Form) hx hb hts inC_Form tyC_Form tyC_Form_ok hown (hts _ wd_78) (hts _ wd_80) (hts _ wd_6) hK hH rfl hlo hz (dfC_Form lo) (Nat.le_of_ble_eq_true rfl) (Nat.le_of_ble_eq_true rfl) h105 d_Pairs_init_49 (fun H hH => ?_)
  have hz := im_z_al h105 hz
  refine lv_dup hx hb d_Pairs_init_52 rfl ?_
  refine lv_iconst (v := 3) hx hb d_Pairs_init_53 (by decide) ?_
  obtain ⟨w106, h107, hsh_52⟩ := im_bd hsh_51
  clear hsh_51
  obtain ⟨_, h108, hsh_53⟩ := im_bd hsh_52
  clear hsh_52
  refine im_sized (fun hsz => ?_)
  have hHz : H.size = lo + w104.1 := Nat.le_antisymm (Nat.le_trans hsz (Nat.le_of_eq hz)) (im_low hH hlo)
  refine im_afterC (va_runI (As := [.int (3 : Int32)]) (rest := [.ref (lo + n103), .int (4 : Int32), .ref (lo + f101)]) ⟨hx, hb, hml, hown, hts⟩ (metc_Form_init_3 h107) ⟨(callB_of 1 hts (im_good wd_83) rfl rfl rfl (hts _ wd_6) (hts _ wd_81) (by decide +kernel) ⟨Nat.le_of_ble_eq_true rfl, Nat.le_of_ble_eq_true rfl⟩), rfl, hts _ wd_82⟩ (im_preC im_NW_ok hK hN hAO hH hHz _) rfl rfl hl.1 rfl (lv_room (Nat.le_of_ble_eq_true rfl)) d_Pairs_init_54 ⟨Nat.le_of_ble_eq_true rfl, Nat.le_of_ble_eq_true rfl⟩) hH (fun H locs hH => ?_)
  have hz := im_z_k h108 hz
  obtain ⟨w109, h110, hsh_54⟩ := im_bd hsh_53
  clear hsh_53
  refine im_aast hx hb hK hH (ci := 2) (r := (RC_Form, TC_Form, 3)) (by decide) rfl rfl h110 d_Pairs_init_57 (fun H locs hH => ?_)
  have hz := im_z_s h110 hz
  refine lv_iinc (v := (5 : Int32)) (lv' := [(1, .int (5 : Int32)), (0, .ref (lo + x0))]) hx hb d_Pairs_init_58 hl (k := 0) rfl (by decide) (by decide) rfl (fun ls hl => ?_)
  refine lv_goto (tgt := 24) hx hb d_Pairs_init_61 (by decide) ?_
  refine lv_iload_n hx hb d_Pairs_init_24 rfl (lv_at hl 0 rfl) ?_
  refine lv_bipush (v := 10) hx hb d_Pairs_init_25 (by decide) ?_
  refine lv_icmp_ge (tgt := 64) hx hb d_Pairs_init_27 (by decide) (fun cc => absurd cc (by decide)) (fun cc => ?_)
  refine lv_aload_n hx hb d_Pairs_init_30 rfl (lv_at hl 1 rfl) ?_
  obtain ⟨f111, h112, hsh_55⟩ := im_bd hsh_54
  clear hsh_54
  refine im_getR hx hb hts inC_Pairs hown hK hH (ci := 4) rfl 0 (by decide) (hts _ wd_116) rfl h112 d_Pairs_init_31 ?_
  refine lv_iload_n hx hb d_Pairs_init_34 rfl (lv_at hl 0 rfl) ?_
  obtain ⟨n113, w114, h115, hsh_56⟩ := im_bd2 hsh_55
  clear hsh_55
  refine im_new' (ci := 2) (fs := df0_Form) hx hb hts inC_Form tyC_Form tyC_Form_ok hown (hts _ wd_78) (hts _ wd_80) (hts _ wd_6) hK hH rfl hlo hz (dfC_Form lo) (Nat.le_of_ble_eq_true rfl) (Nat.le_of_ble_eq_true rfl) h115 d_Pairs_init_35 (fun H hH => ?_)
  have hz := im_z_al h115 hz
  refine lv_dup hx hb d_Pairs_init_38 rfl ?_
  refine lv_iconst (v := 3) hx hb d_Pairs_init_39 (by decide) ?_
  obtain ⟨w116, h117, hsh_57⟩ := im_bd hsh_56
  clear hsh_56
  obtain ⟨_, h118, hsh_58⟩ := im_bd hsh_57
  clear hsh_57
  refine im_sized (fun hsz => ?_)
  have hHz : H.size = lo + w114.1 := Nat.le_antisymm (Nat.le_trans hsz (Nat.le_of_eq hz)) (im_low hH hlo)
  refine im_afterC (va_runI (As := [.int (3 : Int32)]) (rest := [.ref (lo + n113), .int (5 : Int32), .ref (lo + f111)]) ⟨hx, hb, hml, hown, hts⟩ (metc_Form_init_3 h117) ⟨(callB_of 1 hts (im_good wd_83) rfl rfl rfl (hts _ wd_6) (hts _ wd_81) (by decide +kernel) ⟨Nat.le_of_ble_eq_true rfl, Nat.le_of_ble_eq_true rfl⟩), rfl, hts _ wd_82⟩ (im_preC im_NW_ok hK hN hAO hH hHz _) rfl rfl hl.1 rfl (lv_room (Nat.le_of_ble_eq_true rfl)) d_Pairs_init_40 ⟨Nat.le_of_ble_eq_true rfl, Nat.le_of_ble_eq_true rfl⟩) hH (fun H locs hH => ?_)
  have hz := im_z_k h118 hz
  obtain ⟨w119, h120, hsh_59⟩ := im_bd hsh_58
  clear hsh_58
  refine im_aast hx hb hK hH (ci := 2) (r := (RC_Form, TC_Form, 3)) (by decide) rfl rfl h120 d_Pairs_init_43 (fun H locs hH => ?_)
  have hz := im_z_s h120 hz
  refine lv_aload_n hx hb d_Pairs_init_44 rfl (lv_at hl 1 rfl) ?_
  obtain ⟨f121, h122, hsh_60⟩ := im_bd hsh_59
  clear hsh_59
  refine im_getR hx hb hts inC_Pairs hown hK hH (ci := 4) rfl 1 (by decide) (hts _ wd_117) rfl h122 d_Pairs_init_45 ?_
  refine lv_iload_n hx hb d_Pairs_init_48 rfl (lv_at hl 0 rfl) ?_
  obtain ⟨n123, w124, h125, hsh_61⟩ := im_bd2 hsh_60
  clear hsh_60
  refine im_new' (ci := 2) (fs := df0_Form) hx hb hts inC_Form tyC_Form tyC_Form_ok hown (hts _ wd_78) (hts _ wd_80) (hts _ wd_6) hK hH rfl hlo hz (dfC_Form lo) (Nat.le_of_ble_eq_true rfl) (Nat.le_of_ble_eq_true rfl) h125 d_Pairs_init_49 (fun H hH => ?_)
  have hz := im_z_al h125 hz
  refine lv_dup hx hb d_Pairs_init_52 rfl ?_
  refine lv_iconst (v := 3) hx hb d_Pairs_init_53 (by decide) ?_
  obtain ⟨w126, h127, hsh_62⟩ := im_bd hsh_61
  clear hsh_61
  obtain ⟨_, h128, hsh_63⟩ := im_bd hsh_62
  clear hsh_62
  refine im_sized (fun hsz => ?_)
  have hHz : H.size = lo + w124.1 := Nat.le_antisymm (Nat.le_trans hsz (Nat.le_of_eq hz)) (im_low hH hlo)
  refine im_afterC (va_runI (As := [.int (3 : Int32)]) (rest := [.ref (lo + n123), .int (5 : Int32), .ref (lo + f121)]) ⟨hx, hb, hml, hown, hts⟩ (metc_Form_init_3 h127) ⟨(callB_of 1 hts (im_good wd_83) rfl rfl rfl (hts _ wd_6) (hts _ wd_81) (by decide +kernel) ⟨Nat.le_of_ble_eq_true rfl, Nat.le_of_ble_eq_true rfl⟩), rfl, hts _ wd_82⟩ (im_preC im_NW_ok hK hN hAO hH hHz _) rfl rfl hl.1 rfl (lv_room (Nat.le_of_ble_eq_true rfl)) d_Pairs_init_54 ⟨Nat.le_of_ble_eq_true rfl, Nat.le_of_ble_eq_true rfl⟩) hH (fun H locs hH => ?_)
  have hz := im_z_k h128 hz
  obtain ⟨w129, h130, hsh_64⟩ := im_bd hsh_63
  clear hsh_63
  refine im_aast hx hb hK hH (ci := 2) (r := (RC_Form, TC_Form, 3)) (by decide) rfl rfl h130 d_Pairs_init_57 (fun H locs hH => ?_)
  have hz := im_z_s h130 hz
  refine lv_iinc (v := (6 : Int32)) (lv' := [(1, .int (6 : Int32)), (0, .ref (lo + x0))]) hx hb d_Pairs_init_58 hl (k := 0) rfl (by decide) (by decide) rfl (fun ls hl => ?_)
  refine lv_goto (tgt := 24) hx hb d_Pairs_init_61 (by decide) ?_
  refine lv_iload_n hx hb d_Pairs_init_24 rfl (lv_at hl 0 rfl) ?_
  refine lv_bipush (v := 10) hx hb d_Pairs_init_25 (by decide) ?_
  refine lv_icmp_ge (tgt := 64) hx hb d_Pairs_init_27 (by decide) (fun cc => absurd cc (by decide)) (fun cc => ?_)
  refine lv_aload_n hx hb d_Pairs_init_30 rfl (lv_at hl 1 rfl) ?_
  obtain ⟨f131, h132, hsh_65⟩ := im_bd hsh_64
  clear hsh_64
  refine im_getR hx hb hts inC_Pairs hown hK hH (ci := 4) rfl 0 (by decide) (hts _ wd_116) rfl h132 d_Pairs_init_31 ?_
  refine lv_iload_n hx hb d_Pairs_init_34 rfl (lv_at hl 0 rfl) ?_
  obtain ⟨n133, w134, h135, hsh_66⟩ := im_bd2 hsh_65
  clear hsh_65
  refine im_new' (ci := 2) (fs := df0_Form) hx hb hts inC_Form tyC_Form tyC_Form_ok hown (hts _ wd_78) (hts _ wd_80) (hts _ wd_6) hK hH rfl hlo hz (dfC_Form lo) (Nat.le_of_ble_eq_true rfl) (Nat.le_of_ble_eq_true rfl) h135 d_Pairs_init_35 (fun H hH => ?_)
  have hz := im_z_al h135 hz
  refine lv_dup hx hb d_Pairs_init_38 rfl ?_
  refine lv_iconst (v := 3) hx hb d_Pairs_init_39 (by decide) ?_
  obtain ⟨w136, h137, hsh_67⟩ := im_bd hsh_66
  clear hsh_66
  obtain ⟨_, h138, hsh_68⟩ := im_bd hsh_67
  clear hsh_67
  refine im_sized (fun hsz => ?_)
  have hHz : H.size = lo + w134.1 := Nat.le_antisymm (Nat.le_trans hsz (Nat.le_of_eq hz)) (im_low hH hlo)
  refine im_afterC (va_runI (As := [.int (3 : Int32)]) (rest := [.ref (lo + n133), .int (6 : Int32), .ref (lo + f131)]) ⟨hx, hb, hml, hown, hts⟩ (metc_Form_init_3 h137) ⟨(callB_of 1 hts (im_good wd_83) rfl rfl rfl (hts _ wd_6) (hts _ wd_81) (by decide +kernel) ⟨Nat.le_of_ble_eq_true rfl, Nat.le_of_ble_eq_true rfl⟩), rfl, hts _ wd_82⟩ (im_preC im_NW_ok hK hN hAO hH hHz _) rfl rfl hl.1 rfl (lv_room (Nat.le_of_ble_eq_true rfl)) d_Pairs_init_40 ⟨Nat.le_of_ble_eq_true rfl, Nat.le_of_ble_eq_true rfl⟩) hH (fun H locs hH => ?_)
  have hz := im_z_k h138 hz
  obtain ⟨w139, h140, hsh_69⟩ := im_bd hsh_68
  clear hsh_68
  refine im_aast hx hb hK hH (ci := 2) (r := (RC_Form, TC_Form, 3)) (by decide) rfl rfl h140 d_Pairs_init_43 (fun H locs hH => ?_)
  have hz := im_z_s h140 hz
  refine lv_aload_n hx hb d_Pairs_init_44 rfl (lv_at hl 1 rfl) ?_
  obtain ⟨f141, h142, hsh_70⟩ := im_bd hsh_69
  clear hsh_69
  refine im_getR hx hb hts inC_Pairs hown hK hH (ci := 4) rfl 1 (by decide) (hts _ wd_117) rfl h142 d_Pairs_init_45 ?_
  refine lv_iload_n hx hb d_Pairs_init_48 rfl (lv_at hl 0 rfl) ?_
  obtain ⟨n143, w144, h145, hsh_71⟩ := im_bd2 hsh_70
  clear hsh_70
  refine im_new' (ci := 2) (fs := df0_Form) hx hb hts inC_Form tyC_Form tyC_Form_ok hown (hts _ wd_78) (hts _ wd_80) (hts _ wd_6) hK hH rfl hlo hz (dfC_Form lo) (Nat.le_of_ble_eq_true rfl) (Nat.le_of_ble_eq_true rfl) h145 d_Pairs_init_49 (fun H hH => ?_)
  have hz := im_z_al h145 hz
  refine lv_dup hx hb d_Pairs_init_52 rfl ?_
  refine lv_iconst (v := 3) hx hb d_Pairs_init_53 (by decide) ?_
  obtain ⟨w146, h147, hsh_72⟩ := im_bd hsh_71
  clear hsh_71
  obtain ⟨_, h148, hsh_73⟩ := im_bd hsh_72
  clear hsh_72
  refine im_sized (fun hsz => ?_)
  have hHz : H.size = lo + w144.1 := Nat.le_antisymm (Nat.le_trans hsz (Nat.le_of_eq hz)) (im_low hH hlo)
  refine im_afterC (va_runI (As := [.int (3 : Int32)]) (rest := [.ref (lo + n143), .int (6 : Int32), .ref (lo + f141)]) ⟨hx, hb, hml, hown, hts⟩ (metc_Form_init_3 h147) ⟨(callB_of 1 hts (im_good wd_83) rfl rfl rfl (hts _ wd_6) (hts _ wd_81) (by decide +kernel) ⟨Nat.le_of_ble_eq_true rfl, Nat.le_of_ble_eq_true rfl⟩), rfl, hts _ wd_82⟩ (im_preC im_NW_ok hK hN hAO hH hHz _) rfl rfl hl.1 rfl (lv_room (Nat.le_of_ble_eq_true rfl)) d_Pairs_init_54 ⟨Nat.le_of_ble_eq_true rfl, Nat.le_of_ble_eq_true rfl⟩) hH (fun H locs hH => ?_)
  have hz := im_z_k h148 hz
  obtain ⟨w149, h150, hsh_74⟩ := im_bd hsh_73
  clear hsh_73
  refine im_aast hx hb hK hH (ci := 2) (r := (RC_Form, TC_Form, 3)) (by decide) rfl rfl h150 d_Pairs_init_57 (fun H locs hH => ?_)
  have hz := im_z_s h150 hz
  refine lv_iinc (v := (7 : Int32)) (lv' := [(1, .int (7 : Int32)), (0, .ref (lo + x0))]) hx hb d_Pairs_init_58 hl (k := 0) rfl (by decide) (by decide) rfl (fun ls hl => ?_)
  refine lv_goto (tgt := 24) hx hb d_Pairs_init_61 (by decide) ?_
  refine lv_iload_n hx hb d_Pairs_init_24 rfl (lv_at hl 0 rfl) ?_
  refine lv_bipush (v := 10) hx hb d_Pairs_init_25 (by decide) ?_
  refine lv_icmp_ge (tgt := 64) hx hb d_Pairs_init_27 (by decide) (fun cc => absurd cc (by decide)) (fun cc => ?_)
  refine lv_aload_n hx hb d_Pairs_init_30 rfl (lv_at hl 1 rfl) ?_
  obtain ⟨f151, h152, hsh_75⟩ := im_bd hsh_74
  clear hsh_74
  refine im_getR hx hb hts inC_Pairs hown hK hH (ci := 4) rfl 0 (by decide) (hts _ wd_116) rfl h152 d_Pairs_init_31 ?_
  refine lv_iload_n hx hb d_Pairs_init_34 rfl (lv_at hl 0 rfl) ?_
  obtain ⟨n153, w154, h155, hsh_76⟩ := im_bd2 hsh_75
  clear hsh_75
  refine im_new' (ci := 2) (fs := df0_Form) hx hb hts inC_Form tyC_Form tyC_Form_ok hown (hts _ wd_78) (hts _ wd_80) (hts _ wd_6) hK hH rfl hlo hz (dfC_Form lo) (Nat.le_of_ble_eq_true rfl) (Nat.le_of_ble_eq_true rfl) h155 d_Pairs_init_35 (fun H hH => ?_)
  have hz := im_z_al h155 hz
  refine lv_dup hx hb d_Pairs_init_38 rfl ?_
  refine lv_iconst (v := 3) hx hb d_Pairs_init_39 (by decide) ?_
  obtain ⟨w156, h157, hsh_77⟩ := im_bd hsh_76
  clear hsh_76
  obtain ⟨_, h158, hsh_78⟩ := im_bd hsh_77
  clear hsh_77
  refine im_sized (fun hsz => ?_)
  have hHz : H.size = lo + w154.1 := Nat.le_antisymm (Nat.le_trans hsz (Nat.le_of_eq hz)) (im_low hH hlo)
  refine im_afterC (va_runI (As := [.int (3 : Int32)]) (rest := [.ref (lo + n153), .int (7 : Int32), .ref (lo + f151)]) ⟨hx, hb, hml, hown, hts⟩ (metc_Form_init_3 h157) ⟨(callB_of 1 hts (im_good wd_83) rfl rfl rfl (hts _ wd_6) (hts _ wd_81) (by decide +kernel) ⟨Nat.le_of_ble_eq_true rfl, Nat.le_of_ble_eq_true rfl⟩), rfl, hts _ wd_82⟩ (im_preC im_NW_ok hK hN hAO hH hHz _) rfl rfl hl.1 rfl (lv_room (Nat.le_of_ble_eq_true rfl)) d_Pairs_init_40 ⟨Nat.le_of_ble_eq_true rfl, Nat.le_of_ble_eq_true rfl⟩) hH (fun H locs hH => ?_)
  have hz := im_z_k h158 hz
  obtain ⟨w159, h160, hsh_79⟩ := im_bd hsh_78
  clear hsh_78
  refine im_aast hx hb hK hH (ci := 2) (r := (RC_Form, TC_Form, 3)) (by decide) rfl rfl h160 d_Pairs_init_43 (fun H locs hH => ?_)
  have hz := im_z_s h160 hz
  refine lv_aload_n hx hb d_Pairs_init_44 rfl (lv_at hl 1 rfl) ?_
  obtain ⟨f161, h162, hsh_80⟩ := im_bd hsh_79
  clear hsh_79
  refine im_getR hx hb hts inC_Pairs hown hK hH (ci := 4) rfl 1 (by decide) (hts _ wd_117) rfl h162 d_Pairs_init_45 ?_
  refine lv_iload_n hx hb d_Pairs_init_48 rfl (lv_at hl 0 rfl) ?_
  obtain ⟨n163, w164, h165, hsh_81⟩ := im_bd2 hsh_80
  clear hsh_80
  refine im_new' (ci := 2) (fs := df0_Form) hx hb hts inC_Form tyC_Form tyC_Form_ok hown (hts _ wd_78) (hts _ wd_80) (hts _ wd_6) hK hH rfl hlo hz (dfC_Form lo) (Nat.le_of_ble_eq_true rfl) (Nat.le_of_ble_eq_true rfl) h165 d_Pairs_init_49 (fun H hH => ?_)
  have hz := im_z_al h165 hz
  refine lv_dup hx hb d_Pairs_init_52 rfl ?_
  refine lv_iconst (v := 3) hx hb d_Pairs_init_53 (by decide) ?_
  obtain ⟨w166, h167, hsh_82⟩ := im_bd hsh_81
  clear hsh_81
  obtain ⟨_, h168, hsh_83⟩ := im_bd hsh_82
  clear hsh_82
  refine im_sized (fun hsz => ?_)
  have hHz : H.size = lo + w164.1 := Nat.le_antisymm (Nat.le_trans hsz (Nat.le_of_eq hz)) (im_low hH hlo)
  refine im_afterC (va_runI (As := [.int (3 : Int32)]) (rest := [.ref (lo + n163), .int (7 : Int32), .ref (lo + f161)]) ⟨hx, hb, hml, hown, hts⟩ (metc_Form_init_3 h167) ⟨(callB_of 1 hts (im_good wd_83) rfl rfl rfl (hts _ wd_6) (hts _ wd_81) (by decide +kernel) ⟨Nat.le_of_ble_eq_true rfl, Nat.le_of_ble_eq_true rfl⟩), rfl, hts _ wd_82⟩ (im_preC im_NW_ok hK hN hAO hH hHz _) rfl rfl hl.1 rfl (lv_room (Nat.le_of_ble_eq_true rfl)) d_Pairs_init_54 ⟨Nat.le_of_ble_eq_true rfl, Nat.le_of_ble_eq_true rfl⟩) hH (fun H locs hH => ?_)
  have hz := im_z_k h168 hz
  obtain ⟨w169, h170, hsh_84⟩ := im_bd hsh_83
  clear hsh_83
  refine im_aast hx hb hK hH (ci := 2) (r := (RC_Form, TC_Form, 3)) (by decide) rfl rfl h170 d_Pairs_init_57 (fun H locs hH => ?_)
  have hz := im_z_s h170 hz
  refine lv_iinc (v := (8 : Int32)) (lv' := [(1, .int (8 : Int32)), (0, .ref (lo + x0))]) hx hb d_Pairs_init_58 hl (k := 0) rfl (by decide) (by decide) rfl (fun ls hl => ?_)
  refine lv_goto (tgt := 24) hx hb d_Pairs_init_61 (by decide) ?_
  refine lv_iload_n hx hb d_Pairs_init_24 rfl (lv_at hl 0 rfl) ?_
  refine lv_bipush (v := 10) hx hb d_Pairs_init_25 (by decide) ?_
  refine lv_icmp_ge (tgt := 64) hx hb d_Pairs_init_27 (by decide) (fun cc => absurd cc (by decide)) (fun cc => ?_)
  refine lv_aload_n hx hb d_Pairs_init_30 rfl (lv_at hl 1 rfl) ?_
  obtain ⟨f171, h172, hsh_85⟩ := im_bd hsh_84
  clear hsh_84
  refine im_getR hx hb hts inC_Pairs hown hK hH (ci := 4) rfl 0 (by decide) (hts _ wd_116) rfl h172 d_Pairs_init_31 ?_
  refine lv_iload_n hx hb d_Pairs_init_34 rfl (lv_at hl 0 rfl) ?_
  obtain ⟨n173, w174, h175, hsh_86⟩ := im_bd2 hsh_85
  clear hsh_85
  refine im_new' (ci := 2) (fs := df0_Form) hx hb hts inC_Form tyC_Form tyC_Form_ok hown (hts _ wd_78) (hts _ wd_80) (hts _ wd_6) hK hH rfl hlo hz (dfC_Form lo) (Nat.le_of_ble_eq_true rfl) (Nat.le_of_ble_eq_true rfl) h175 d_Pairs_init_35 (fun H hH => ?_)
  have hz := im_z_al h175 hz
  refine lv_dup hx hb d_Pairs_init_38 rfl ?_
  refine lv_iconst (v := 3) hx hb d_Pairs_init_39 (by decide) ?_
  obtain ⟨w176, h177, hsh_87⟩ := im_bd hsh_86
  clear hsh_86
  obtain ⟨_, h178, hsh_88⟩ := im_bd hsh_87
  clear hsh_87
  refine im_sized (fun hsz => ?_)
  have hHz : H.size = lo + w174.1 := Nat.le_antisymm (Nat.le_trans hsz (Nat.le_of_eq hz)) (im_low hH hlo)
  refine im_afterC (va_runI (As := [.int (3 : Int32)]) (rest := [.ref (lo + n173), .int (8 : Int32), .ref (lo + f171)]) ⟨hx, hb, hml, hown, hts⟩ (metc_Form_init_3 h177) ⟨(callB_of 1 hts (im_good wd_83) rfl rfl rfl (hts _ wd_6) (hts _ wd_81) (by decide +kernel) ⟨Nat.le_of_ble_eq_true rfl, Nat.le_of_ble_eq_true rfl⟩), rfl, hts _ wd_82⟩ (im_preC im_NW_ok hK hN hAO hH hHz _) rfl rfl hl.1 rfl (lv_room (Nat.le_of_ble_eq_true rfl)) d_Pairs_init_40 ⟨Nat.le_of_ble_eq_true rfl, Nat.le_of_ble_eq_true rfl⟩) hH (fun H locs hH => ?_)
  have hz := im_z_k h178 hz
  obtain ⟨w179, h180, hsh_89⟩ := im_bd hsh_88
  clear hsh_88
  refine im_aast hx hb hK hH (ci := 2) (r := (RC_Form, TC_Form, 3)) (by decide) rfl rfl h180 d_Pairs_init_43 (fun H locs hH => ?_)
  have hz := im_z_s h180 hz
  refine lv_aload_n hx hb d_Pairs_init_44 rfl (lv_at hl 1 rfl) ?_
  obtain ⟨f181, h182, hsh_90⟩ := im_bd hsh_89
  clear hsh_89
  refine im_getR hx hb hts inC_Pairs hown hK hH (ci := 4) rfl 1 (by decide) (hts _ wd_117) rfl h182 d_Pairs_init_45 ?_
  refine lv_iload_n hx hb d_Pairs_init_48 rfl (lv_at hl 0 rfl) ?_
  obtain ⟨n183, w184, h185, hsh_91⟩ := im_bd2 hsh_90
  clear hsh_90
  refine im_new' (ci := 2) (fs := df0_Form) hx hb hts inC_Form tyC_Form tyC_Form_ok hown (hts _ wd_78) (hts _ wd_80) (hts _ wd_6) hK hH rfl hlo hz (dfC_Form lo) (Nat.le_of_ble_eq_true rfl) (Nat.le_of_ble_eq_true rfl) h185 d_Pairs_init_49 (fun H hH => ?_)
  have hz := im_z_al h185 hz
  refine lv_dup hx hb d_Pairs_init_52 rfl ?_
  refine lv_iconst (v := 3) hx hb d_Pairs_init_53 (by decide) ?_
  obtain ⟨w186, h187, hsh_92⟩ := im_bd hsh_91
  clear hsh_91
  obtain ⟨_, h188, hsh_93⟩ := im_bd hsh_92
  clear hsh_92
  refine im_sized (fun hsz => ?_)
  have hHz : H.size = lo + w184.1 := Nat.le_antisymm (Nat.le_trans hsz (Nat.le_of_eq hz)) (im_low hH hlo)
  refine im_afterC (va_runI (As := [.int (3 : Int32)]) (rest := [.ref (lo + n183), .int (8 : Int32), .ref (lo + f181)]) ⟨hx, hb, hml, hown, hts⟩ (metc_Form_init_3 h187) ⟨(callB_of 1 hts (im_good wd_83) rfl rfl rfl (hts _ wd_6) (hts _ wd_81) (by decide +kernel) ⟨Nat.le_of_ble_eq_true rfl, Nat.le_of_ble_eq_true rfl⟩), rfl, hts _ wd_82⟩ (im_preC im_NW_ok hK hN hAO hH hHz _) rfl rfl hl.1 rfl (lv_room (Nat.le_of_ble_eq_true rfl)) d_Pairs_init_54 ⟨Nat.le_of_ble_eq_true rfl, Nat.le_of_ble_eq_true rfl⟩) hH (fun H locs hH => ?_)
  have hz := im_z_k h188 hz
  obtain ⟨w189, h190, hsh_94⟩ := im_bd hsh_93
  clear hsh_93
  refine im_aast hx hb hK hH (ci := 2) (r := (RC_Form, TC_Form, 3)) (by decide) rfl rfl h190 d_Pairs_init_57 (fun H locs hH => ?_)
  have hz := im_z_s h190 hz
  refine lv_iinc (v := (9 : Int32)) (lv' := [(1, .int (9 : Int32)), (0, .ref (lo + x0))]) hx hb d_Pairs_init_58 hl (k := 0) rfl (by decide) (by decide) rfl (fun ls hl => ?_)
  refine lv_goto (tgt := 24) hx hb d_Pairs_init_61 (by decide) ?_
  refine lv_iload_n hx hb d_Pairs_init_24 rfl (lv_at hl 0 rfl) ?_
  refine lv_bipush (v := 10) hx hb d_Pairs_init_25 (by decide) ?_
  refine lv_icmp_ge (tgt := 64) hx hb d_Pairs_init_27 (by decide) (fun cc => absurd cc (by decide)) (fun cc => ?_)
  refine lv_aload_n hx hb d_Pairs_init_30 rfl (lv_at hl 1 rfl) ?_
  obtain ⟨f191, h192, hsh_95⟩ := im_bd hsh_94
  clear hsh_94
  refine im_getR hx hb hts inC_Pairs hown hK hH (ci := 4) rfl 0 (by decide) (hts _ wd_116) rfl h192 d_Pairs_init_31 ?_
  refine lv_iload_n hx hb d_Pairs_init_34 rfl (lv_at hl 0 rfl) ?_
  obtain ⟨n193, w194, h195, hsh_96⟩ := im_bd2 hsh_95
  clear hsh_95
  refine im_new' (ci := 2) (fs := df0_Form) hx hb hts inC_Form tyC_Form tyC_Form_ok hown (hts _ wd_78) (hts _ wd_80) (hts _ wd_6) hK hH rfl hlo hz (dfC_Form lo) (Nat.le_of_ble_eq_true rfl) (Nat.le_of_ble_eq_true rfl) h195 d_Pairs_init_35 (fun H hH => ?_)
  have hz := im_z_al h195 hz
  refine lv_dup hx hb d_Pairs_init_38 rfl ?_
  refine lv_iconst (v := 3) hx hb d_Pairs_init_39 (by decide) ?_
  obtain ⟨w196, h197, hsh_97⟩ := im_bd hsh_96
  clear hsh_96
  obtain ⟨_, h198, hsh_98⟩ := im_bd hsh_97
  clear hsh_97
  refine im_sized (fun hsz => ?_)
  have hHz : H.size = lo + w194.1 := Nat.le_antisymm (Nat.le_trans hsz (Nat.le_of_eq hz)) (im_low hH hlo)
  refine im_afterC (va_runI (As := [.int (3 : Int32)]) (rest := [.ref (lo + n193), .int (9 : Int32), .ref (lo + f191)]) ⟨hx, hb, hml, hown, hts⟩ (metc_Form_init_3 h197) ⟨(callB_of 1 hts (im_good wd_83) rfl rfl rfl (hts _ wd_6) (hts _ wd_81) (by decide +kernel) ⟨Nat.le_of_ble_eq_true rfl, Nat.le_of_ble_eq_true rfl⟩), rfl, hts _ wd_82⟩ (im_preC im_NW_ok hK hN hAO hH hHz _) rfl rfl hl.1 rfl (lv_room (Nat.le_of_ble_eq_true rfl)) d_Pairs_init_40 ⟨Nat.le_of_ble_eq_true rfl, Nat.le_of_ble_eq_true rfl⟩) hH (fun H locs hH => ?_)
  have hz := im_z_k h198 hz
  obtain ⟨w199, h200, hsh_99⟩ := im_bd hsh_98
  clear hsh_98
  refine im_aast hx hb hK hH (ci := 2) (r := (RC_Form, TC_Form, 3)) (by decide) rfl rfl h200 d_Pairs_init_43 (fun H locs hH => ?_)
  have hz := im_z_s h200 hz
  refine lv_aload_n hx hb d_Pairs_init_44 rfl (lv_at hl 1 rfl) ?_
  obtain ⟨f201, h202, hsh_100⟩ := im_bd hsh_99
  clear hsh_99
  refine im_getR hx hb hts inC_Pairs hown hK hH (ci := 4) rfl 1 (by decide) (hts _ wd_117) rfl h202 d_Pairs_init_45 ?_
  refine lv_iload_n hx hb d_Pairs_init_48 rfl (lv_at hl 0 rfl) ?_
  obtain ⟨n203, w204, h205, hsh_101⟩ := im_bd2 hsh_100
  clear hsh_100
  refine im_new' (ci := 2) (fs := df0_Form) hx hb hts inC_Form tyC_Form tyC_Form_ok hown (hts _ wd_78) (hts _ wd_80) (hts _ wd_6) hK hH rfl hlo hz (dfC_Form lo) (Nat.le_of_ble_eq_true rfl) (Nat.le_of_ble_eq_true rfl) h205 d_Pairs_init_49 (fun H hH => ?_)
  have hz := im_z_al h205 hz
  refine lv_dup hx hb d_Pairs_init_52 rfl ?_
  refine lv_iconst (v := 3) hx hb d_Pairs_init_53 (by decide) ?_
  obtain ⟨w206, h207, hsh_102⟩ := im_bd hsh_101
  clear hsh_101
  obtain ⟨_, h208, hsh_103⟩ := im_bd hsh_102
  clear hsh_102
  refine im_sized (fun hsz => ?_)
  have hHz : H.size = lo + w204.1 := Nat.le_antisymm (Nat.le_trans hsz (Nat.le_of_eq hz)) (im_low hH hlo)
  refine im_afterC (va_runI (As := [.int (3 : Int32)]) (rest := [.ref (lo + n203), .int (9 : Int32), .ref (lo + f201)]) ⟨hx, hb, hml, hown, hts⟩ (metc_Form_init_3 h207) ⟨(callB_of 1 hts (im_good wd_83) rfl rfl rfl (hts _ wd_6) (hts _ wd_81) (by decide +kernel) ⟨Nat.le_of_ble_eq_true rfl, Nat.le_of_ble_eq_true rfl⟩), rfl, hts _ wd_82⟩ (im_preC im_NW_ok hK hN hAO hH hHz _) rfl rfl hl.1 rfl (lv_room (Nat.le_of_ble_eq_true rfl)) d_Pairs_init_54 ⟨Nat.le_of_ble_eq_true rfl, Nat.le_of_ble_eq_true rfl⟩) hH (fun H locs hH => ?_)
  have hz := im_z_k h208 hz
  obtain ⟨w209, h210, hsh_104⟩ := im_bd hsh_103
  clear hsh_103
  refine im_aast hx hb hK hH (ci := 2) (r := (RC_Form, TC_Form, 3)) (by decide) rfl rfl h210 d_Pairs_init_57 (fun H locs hH => ?_)
  have hz := im_z_s h210 hz
  refine lv_iinc (v := (10 : Int32)) (lv' := [(1, .int (10 : Int32)), (0, .ref (lo + x0))]) hx hb d_Pairs_init_58 hl (k := 0) rfl (by decide) (by decide) rfl (fun ls hl => ?_)
  refine lv_goto (tgt := 24) hx hb d_Pairs_init_61 (by decide) ?_
  refine lv_iload_n hx hb d_Pairs_init_24 rfl (lv_at hl 0 rfl) ?_
  refine lv_bipush (v := 10) hx hb d_Pairs_init_25 (by decide) ?_
  refine lv_icmp_ge (tgt := 64) hx hb d_Pairs_init_27 (by decide) (fun cc => ?_) (fun cc => absurd cc (by decide))
  refine lv_aload_n hx hb d_Pairs_init_64 rfl (lv_at hl 1 rfl) ?_
  refine lv_iconst (v := 0) hx hb d_Pairs_init_65 (by decide) ?_
  obtain ⟨w211, h212, hsh_105⟩ := im_bd hsh_104
  clear hsh_104
  refine im_put (v := .int (0 : Int32)) hx hb hts inC_Pairs tyC_Pairs tyC_Pairs_ok nmC_Pairs hown hK hH (ci := 4) rfl 2 (by decide) (hts _ wd_118) rfl rfl rfl rfl h212 d_Pairs_init_66 (fun H locs hH => ?_)
  have hz := im_z_p h212 hz
  obtain rfl := Option.some.inj hsh_105
  refine W.widen (k := 62) (n := 200) (Nat.le_of_ble_eq_true rfl) (Nat.le_of_ble_eq_true rfl) ?_
  exact im_vret hx hb hr hlk hH d_Pairs_init_69
theorem wd_131 : (Jvm.Cond.methodLink "LanguageTags$Likely" (1 : Nat) ({ cls := "java/lang/Object", name := "<init>", desc := "()V" } : Jvm.MethodName)) ∈ im_T := im_memT (i := 131) (by decide +kernel) (by decide +kernel)
theorem wd_132 : (Jvm.Cond.classLink "LanguageTags$Likely" (13 : Nat) "LanguageTags$Core") ∈ im_T := im_memT (i := 132) (by decide +kernel) (by decide +kernel)
theorem wd_133 : (Jvm.Cond.methodLink "LanguageTags$Likely" (15 : Nat) ({ cls := "LanguageTags$Core", name := "<init>", desc := "()V" } : Jvm.MethodName)) ∈ im_T := im_memT (i := 133) (by decide +kernel) (by decide +kernel)
theorem d_Likely_init_0 : decode c_Likely_init 0 = .ok (.aload_n 0, 1) := by decide +kernel
theorem d_Likely_init_1 : decode c_Likely_init 1 = .ok (.invokespecial 1, 3) := by decide +kernel
theorem d_Likely_init_4 : decode c_Likely_init 4 = .ok (.aload_n 0, 1) := by decide +kernel
theorem d_Likely_init_5 : decode c_Likely_init 5 = .ok (.aload_n 1, 1) := by decide +kernel
theorem d_Likely_init_6 : decode c_Likely_init 6 = .ok (.putfield 7, 3) := by decide +kernel
theorem d_Likely_init_9 : decode c_Likely_init 9 = .ok (.aload_n 0, 1) := by decide +kernel
theorem d_Likely_init_10 : decode c_Likely_init 10 = .ok (.new 13, 3) := by decide +kernel
theorem d_Likely_init_13 : decode c_Likely_init 13 = .ok (.dup, 1) := by decide +kernel
theorem d_Likely_init_14 : decode c_Likely_init 14 = .ok (.invokespecial 15, 3) := by decide +kernel
theorem d_Likely_init_17 : decode c_Likely_init 17 = .ok (.putfield 16, 3) := by decide +kernel
theorem d_Likely_init_20 : decode c_Likely_init 20 = .ok (.aload_n 0, 1) := by decide +kernel
theorem d_Likely_init_21 : decode c_Likely_init 21 = .ok (.new 13, 3) := by decide +kernel
theorem d_Likely_init_24 : decode c_Likely_init 24 = .ok (.dup, 1) := by decide +kernel
theorem d_Likely_init_25 : decode c_Likely_init 25 = .ok (.invokespecial 15, 3) := by decide +kernel
theorem d_Likely_init_28 : decode c_Likely_init 28 = .ok (.putfield 20, 3) := by decide +kernel
theorem d_Likely_init_31 : decode c_Likely_init 31 = .ok (.aload_n 0, 1) := by decide +kernel
theorem d_Likely_init_32 : decode c_Likely_init 32 = .ok (.new 13, 3) := by decide +kernel
theorem d_Likely_init_35 : decode c_Likely_init 35 = .ok (.dup, 1) := by decide +kernel
theorem d_Likely_init_36 : decode c_Likely_init 36 = .ok (.invokespecial 15, 3) := by decide +kernel
theorem d_Likely_init_39 : decode c_Likely_init 39 = .ok (.putfield 23, 3) := by decide +kernel
theorem d_Likely_init_42 : decode c_Likely_init 42 = .ok (.return_, 1) := by decide +kernel
def sh_Likely_init (F : Nat) (x0 : Nat) (x1 : Nat) (w : im_W) : Option im_W :=
  (im_pV w 3 x0 0 (.ref x1)).bind fun w1 => im_b2 (im_al w1 (.inr (1, df0_Core))) fun n3 w4 => (sh_Core_init F n3 w4).bind fun w6 => (im_sz w6 (w4.1 + 0)).bind fun _ => (im_pV w6 3 x0 1 (.ref n3)).bind fun w9 => im_b2 (im_al w9 (.inr (1, df0_Core))) fun n11 w12 => (sh_Core_init F n11 w12).bind fun w14 => (im_sz w14 (w12.1 + 0)).bind fun _ => (im_pV w14 3 x0 2 (.ref n11)).bind fun w17 => im_b2 (im_al w17 (.inr (1, df0_Core))) fun n19 w20 => (sh_Core_init F n19 w20).bind fun w22 => (im_sz w22 (w20.1 + 0)).bind fun _ => (im_pV w22 3 x0 3 (.ref n19)).bind fun w25 => some w25
set_option maxHeartbeats 4000000 in
set_option maxRecDepth 100000 in
theorem metc_Likely_init {F : Nat} {x0 : Nat} {x1 : Nat} {w : im_W} {r : im_W} (hsh : sh_Likely_init F x0 x1 w = some r) : Met l y_Likely_init (Cond.code y_Likely_init c_Likely_init 2 none :: im_T) (im_rmc 2 32 3 9) (im_PreC D vwCl tA lo im_NW [.ref (lo + x0), .ref (lo + x1)] w) (im_Post D vwCl tA lo none r) 3 9 (fun q => lo ≤ q) := by
  refine im_ofWC (cc := c_Likely_init) (nL := 2) (by decide) rfl (Nat.le_of_ble_eq_true rfl) ?_
  intro p e s m args below meth c X hin hlo hz hAO H locs ls hH hl
  obtain ⟨hx, hb, hr, hts, hown, hlk, hml, hK, hN⟩ := id X
  have hl : lv_has ls 2 [(0, .ref (lo + x0)), (1, .ref (lo + x1))] := hl
  unfold sh_Likely_init at hsh
  refine lv_aload_n hx hb d_Likely_init_0 rfl (lv_at hl 0 rfl) ?_
  refine W.objInit hx hb hown (hts _ wd_131) (hts _ wd_18) (hts _ wd_objcode) rfl (by rw [hml]; exact hl.1) rfl d_Likely_init_1 (Nat.le_of_ble_eq_true rfl) (Nat.le_of_ble_eq_true rfl) ?_
  refine W.eq (g2 := F0 m 4 ls []) rfl ?_
  refine lv_aload_n hx hb d_Likely_init_4 rfl (lv_at hl 0 rfl) ?_
  refine lv_aload_n hx hb d_Likely_init_5 rfl (lv_at hl 1 rfl) ?_
  obtain ⟨w1, h2, hsh_1⟩ := im_bd hsh
  clear hsh
  refine im_putF (v := .ref x1) hx hb hts inC_Likely tyC_Likely tyC_Likely_ok nmC_Likely hown hK hH (ci := 3) rfl 0 (by decide) (hts _ wd_134) rfl rfl hin rfl rfl rfl h2 d_Likely_init_6 (fun H locs hH => ?_)
  have hz := im_z_p h2 hz
  refine lv_aload_n hx hb d_Likely_init_9 rfl (lv_at hl 0 rfl) ?_
  obtain ⟨n3, w4, h5, hsh_2⟩ := im_bd2 hsh_1
  clear hsh_1
  refine im_new' (ci := 1) (fs := df0_Core) hx hb hts inC_Core tyC_Core tyC_Core_ok hown (hts _ wd_132) (hts _ wd_86) (hts _ wd_7) hK hH rfl hlo hz (dfC_Core lo) (Nat.le_of_ble_eq_true rfl) (Nat.le_of_ble_eq_true rfl) h5 d_Likely_init_10 (fun H hH => ?_)
  have hz := im_z_al h5 hz
  refine lv_dup hx hb d_Likely_init_13 rfl ?_
  obtain ⟨w6, h7, hsh_3⟩ := im_bd hsh_2
  clear hsh_2
  obtain ⟨_, h8, hsh_4⟩ := im_bd hsh_3
  clear hsh_3
  refine im_sized (fun hsz => ?_)
  have hHz : H.size = lo + w4.1 := Nat.le_antisymm (Nat.le_trans hsz (Nat.le_of_eq hz)) (im_low hH hlo)
  refine im_afterC (va_runI (As := []) (rest := [.ref (lo + n3), .ref (lo + x0)]) ⟨hx, hb, hml, hown, hts⟩ (metc_Core_init h7) ⟨(callB_of 0 hts (im_good wd_89) rfl rfl rfl (hts _ wd_7) (hts _ wd_133) (by decide +kernel) ⟨Nat.le_of_ble_eq_true rfl, Nat.le_of_ble_eq_true rfl⟩), rfl, hts _ wd_88⟩ (im_preC im_NW_ok hK hN hAO hH hHz _) rfl rfl hl.1 rfl (lv_room (Nat.le_of_ble_eq_true rfl)) d_Likely_init_14 ⟨Nat.le_of_ble_eq_true rfl, Nat.le_of_ble_eq_true rfl⟩) hH (fun H locs hH => ?_)
  have hz := im_z_k h8 hz
  obtain ⟨w9, h10, hsh_5⟩ := im_bd hsh_4
  clear hsh_4
  refine im_putF (v := .ref n3) hx hb hts inC_Likely tyC_Likely tyC_Likely_ok nmC_Likely hown hK hH (ci := 3) rfl 1 (by decide) (hts _ wd_135) rfl rfl hin rfl rfl rfl h10 d_Likely_init_17 (fun H locs hH => ?_)
  have hz := im_z_p h10 hz
  refine lv_aload_n hx hb d_Likely_init_20 rfl (lv_at hl 0 rfl) ?_
  obtain ⟨n11, w12, h13, hsh_6⟩ := im_bd2 hsh_5
  clear hsh_5
  refine im_new' (ci := 1) (fs := df0_Core) hx hb hts inC_Core tyC_Core tyC_Core_ok hown (hts _ wd_132) (hts _ wd_86) (hts _ wd_7) hK hH rfl hlo hz (dfC_Core lo) (Nat.le_of_ble_eq_true rfl) (Nat.le_of_ble_eq_true rfl) h13 d_Likely_init_21 (fun H hH => ?_)
  have hz := im_z_al h13 hz
  refine lv_dup hx hb d_Likely_init_24 rfl ?_
  obtain ⟨w14, h15, hsh_7⟩ := im_bd hsh_6
  clear hsh_6
  obtain ⟨_, h16, hsh_8⟩ := im_bd hsh_7
  clear hsh_7
  refine im_sized (fun hsz => ?_)
  have hHz : H.size = lo + w12.1 := Nat.le_antisymm (Nat.le_trans hsz (Nat.le_of_eq hz)) (im_low hH hlo)
  refine im_afterC (va_runI (As := []) (rest := [.ref (lo + n11), .ref (lo + x0)]) ⟨hx, hb, hml, hown, hts⟩ (metc_Core_init h15) ⟨(callB_of 0 hts (im_good wd_89) rfl rfl rfl (hts _ wd_7) (hts _ wd_133) (by decide +kernel) ⟨Nat.le_of_ble_eq_true rfl, Nat.le_of_ble_eq_true rfl⟩), rfl, hts _ wd_88⟩ (im_preC im_NW_ok hK hN hAO hH hHz _) rfl rfl hl.1 rfl (lv_room (Nat.le_of_ble_eq_true rfl)) d_Likely_init_25 ⟨Nat.le_of_ble_eq_true rfl, Nat.le_of_ble_eq_true rfl⟩) hH (fun H locs hH => ?_)
  have hz := im_z_k h16 hz
  obtain ⟨w17, h18, hsh_9⟩ := im_bd hsh_8
  clear hsh_8
  refine im_putF (v := .ref n11) hx hb hts inC_Likely tyC_Likely tyC_Likely_ok nmC_Likely hown hK hH (ci := 3) rfl 2 (by decide) (hts _ wd_136) rfl rfl hin rfl rfl rfl h18 d_Likely_init_28 (fun H locs hH => ?_)
  have hz := im_z_p h18 hz
  refine lv_aload_n hx hb d_Likely_init_31 rfl (lv_at hl 0 rfl) ?_
  obtain ⟨n19, w20, h21, hsh_10⟩ := im_bd2 hsh_9
  clear hsh_9
  refine im_new' (ci := 1) (fs := df0_Core) hx hb hts inC_Core tyC_Core tyC_Core_ok hown (hts _ wd_132) (hts _ wd_86) (hts _ wd_7) hK hH rfl hlo hz (dfC_Core lo) (Nat.le_of_ble_eq_true rfl) (Nat.le_of_ble_eq_true rfl) h21 d_Likely_init_32 (fun H hH => ?_)
  have hz := im_z_al h21 hz
  refine lv_dup hx hb d_Likely_init_35 rfl ?_
  obtain ⟨w22, h23, hsh_11⟩ := im_bd hsh_10
  clear hsh_10
  obtain ⟨_, h24, hsh_12⟩ := im_bd hsh_11
  clear hsh_11
  refine im_sized (fun hsz => ?_)
  have hHz : H.size = lo + w20.1 := Nat.le_antisymm (Nat.le_trans hsz (Nat.le_of_eq hz)) (im_low hH hlo)
  refine im_afterC (va_runI (As := []) (rest := [.ref (lo + n19), .ref (lo + x0)]) ⟨hx, hb, hml, hown, hts⟩ (metc_Core_init h23) ⟨(callB_of 0 hts (im_good wd_89) rfl rfl rfl (hts _ wd_7) (hts _ wd_133) (by decide +kernel) ⟨Nat.le_of_ble_eq_true rfl, Nat.le_of_ble_eq_true rfl⟩), rfl, hts _ wd_88⟩ (im_preC im_NW_ok hK hN hAO hH hHz _) rfl rfl hl.1 rfl (lv_room (Nat.le_of_ble_eq_true rfl)) d_Likely_init_36 ⟨Nat.le_of_ble_eq_true rfl, Nat.le_of_ble_eq_true rfl⟩) hH (fun H locs hH => ?_)
  have hz := im_z_k h24 hz
  obtain ⟨w25, h26, hsh_13⟩ := im_bd hsh_12
  clear hsh_12
  refine im_putF (v := .ref n19) hx hb hts inC_Likely tyC_Likely tyC_Likely_ok nmC_Likely hown hK hH (ci := 3) rfl 3 (by decide) (hts _ wd_137) rfl rfl hin rfl rfl rfl h26 d_Likely_init_39 (fun H locs hH => ?_)
  have hz := im_z_p h26 hz
  obtain rfl := Option.some.inj hsh_13
  refine W.widen (k := 3) (n := 9) (Nat.le_of_ble_eq_true rfl) (Nat.le_of_ble_eq_true rfl) ?_
  exact im_vret hx hb hr hlk hH d_Likely_init_42
theorem wd_153 : (Jvm.Cond.methodLink "LanguageTags$Tag" (3 : Nat) ({ cls := "java/lang/Object", name := "<init>", desc := "()V" } : Jvm.MethodName)) ∈ im_T := im_memT (i := 153) (by decide +kernel) (by decide +kernel)
theorem wd_154 : (Jvm.Cond.classLink "LanguageTags$Tag" (9 : Nat) "LanguageTags$Form") ∈ im_T := im_memT (i := 154) (by decide +kernel) (by decide +kernel)
theorem wd_155 : (Jvm.Cond.methodLink "LanguageTags$Tag" (11 : Nat) ({ cls := "LanguageTags$Form", name := "<init>", desc := "(I)V" } : Jvm.MethodName)) ∈ im_T := im_memT (i := 155) (by decide +kernel) (by decide +kernel)
theorem wd_156 : (Jvm.Cond.fieldLink "LanguageTags$Tag" (14 : Nat) "LanguageTags$Tag" "form" "LLanguageTags$Form;") ∈ im_T := im_memT (i := 156) (by decide +kernel) (by decide +kernel)
theorem wd_160 : (Jvm.Cond.fieldLink "LanguageTags$Tag" (28 : Nat) "LanguageTags$Tag" "supported" "Z") ∈ im_T := im_memT (i := 160) (by decide +kernel) (by decide +kernel)
theorem d_Tag_init_0 : decode c_Tag_init 0 = .ok (.aload_n 0, 1) := by decide +kernel
theorem d_Tag_init_1 : decode c_Tag_init 1 = .ok (.invokespecial 3, 3) := by decide +kernel
theorem d_Tag_init_4 : decode c_Tag_init 4 = .ok (.aload_n 0, 1) := by decide +kernel
theorem d_Tag_init_5 : decode c_Tag_init 5 = .ok (.new 9, 3) := by decide +kernel
theorem d_Tag_init_8 : decode c_Tag_init 8 = .ok (.dup, 1) := by decide +kernel
theorem d_Tag_init_9 : decode c_Tag_init 9 = .ok (.bipush (30), 2) := by decide +kernel
theorem d_Tag_init_11 : decode c_Tag_init 11 = .ok (.invokespecial 11, 3) := by decide +kernel
theorem d_Tag_init_14 : decode c_Tag_init 14 = .ok (.putfield 14, 3) := by decide +kernel
theorem d_Tag_init_17 : decode c_Tag_init 17 = .ok (.aload_n 0, 1) := by decide +kernel
theorem d_Tag_init_18 : decode c_Tag_init 18 = .ok (.bipush (8), 2) := by decide +kernel
theorem d_Tag_init_20 : decode c_Tag_init 20 = .ok (.newarray .int, 2) := by decide +kernel
theorem d_Tag_init_22 : decode c_Tag_init 22 = .ok (.putfield 20, 3) := by decide +kernel
theorem d_Tag_init_25 : decode c_Tag_init 25 = .ok (.aload_n 0, 1) := by decide +kernel
theorem d_Tag_init_26 : decode c_Tag_init 26 = .ok (.bipush (8), 2) := by decide +kernel
theorem d_Tag_init_28 : decode c_Tag_init 28 = .ok (.newarray .boolean, 2) := by decide +kernel
theorem d_Tag_init_30 : decode c_Tag_init 30 = .ok (.putfield 24, 3) := by decide +kernel
theorem d_Tag_init_33 : decode c_Tag_init 33 = .ok (.aload_n 0, 1) := by decide +kernel
theorem d_Tag_init_34 : decode c_Tag_init 34 = .ok (.iconst 0, 1) := by decide +kernel
theorem d_Tag_init_35 : decode c_Tag_init 35 = .ok (.putfield 28, 3) := by decide +kernel
theorem d_Tag_init_38 : decode c_Tag_init 38 = .ok (.return_, 1) := by decide +kernel
def sh_Tag_init (F : Nat) (x0 : Nat) (w : im_W) : Option im_W :=
  im_b2 (im_al w (.inr (2, df0_Form))) fun n1 w2 => (sh_Form_init_30 F n1 w2).bind fun w4 => (im_sz w4 (w2.1 + 2)).bind fun _ => (im_pV w4 6 x0 0 (.ref n1)).bind fun w7 => im_b2 (im_al w7 (.inl (0, (8, .inl (fun _ => 0))))) fun n9 w10 => (im_pV w10 6 x0 1 (.ref n9)).bind fun w12 => im_b2 (im_al w12 (.inl (3, (8, .inl (fun _ => 0))))) fun n14 w15 => (im_pV w15 6 x0 2 (.ref n14)).bind fun w17 => (im_pV w17 6 x0 3 (.int (0 : Int32))).bind fun w19 => some w19
set_option maxHeartbeats 4000000 in
set_option maxRecDepth 100000 in
theorem metc_Tag_init {F : Nat} {x0 : Nat} {w : im_W} {r : im_W} (hsh : sh_Tag_init F x0 w = some r) : Met l y_Tag_init (Cond.code y_Tag_init c_Tag_init 1 none :: im_T) (im_rmc 3 53 5 52) (im_PreC D vwCl tA lo im_NW [.ref (lo + x0)] w) (im_Post D vwCl tA lo none r) 5 52 (fun q => lo ≤ q) := by
  refine im_ofWC (cc := c_Tag_init) (nL := 1) (by decide) rfl (Nat.le_of_ble_eq_true rfl) ?_
  intro p e s m args below meth c X hin hlo hz hAO H locs ls hH hl
  obtain ⟨hx, hb, hr, hts, hown, hlk, hml, hK, hN⟩ := id X
  have hl : lv_has ls 1 [(0, .ref (lo + x0))] := hl
  unfold sh_Tag_init at hsh
  refine lv_aload_n hx hb d_Tag_init_0 rfl (lv_at hl 0 rfl) ?_
  refine W.objInit hx hb hown (hts _ wd_153) (hts _ wd_18) (hts _ wd_objcode) rfl (by rw [hml]; exact hl.1) rfl d_Tag_init_1 (Nat.le_of_ble_eq_true rfl) (Nat.le_of_ble_eq_true rfl) ?_
  refine W.eq (g2 := F0 m 4 ls []) rfl ?_
  refine lv_aload_n hx hb d_Tag_init_4 rfl (lv_at hl 0 rfl) ?_
  obtain ⟨n1, w2, h3, hsh_1⟩ := im_bd2 hsh
  clear hsh
  refine im_new' (ci := 2) (fs := df0_Form) hx hb hts inC_Form tyC_Form tyC_Form_ok hown (hts _ wd_154) (hts _ wd_80) (hts _ wd_6) hK hH rfl hlo hz (dfC_Form lo) (Nat.le_of_ble_eq_true rfl) (Nat.le_of_ble_eq_true rfl) h3 d_Tag_init_5 (fun H hH => ?_)
  have hz := im_z_al h3 hz
  refine lv_dup hx hb d_Tag_init_8 rfl ?_
  refine lv_bipush (v := 30) hx hb d_Tag_init_9 (by decide) ?_
  obtain ⟨w4, h5, hsh_2⟩ := im_bd hsh_1
  clear hsh_1
  obtain ⟨_, h6, hsh_3⟩ := im_bd hsh_2
  clear hsh_2
  refine im_sized (fun hsz => ?_)
  have hHz : H.size = lo + w2.1 := Nat.le_antisymm (Nat.le_trans hsz (Nat.le_of_eq hz)) (im_low hH hlo)
  refine im_afterC (va_runI (As := [.int (30 : Int32)]) (rest := [.ref (lo + n1), .ref (lo + x0)]) ⟨hx, hb, hml, hown, hts⟩ (metc_Form_init_30 h5) ⟨(callB_of 1 hts (im_good wd_83) rfl rfl rfl (hts _ wd_6) (hts _ wd_155) (by decide +kernel) ⟨Nat.le_of_ble_eq_true rfl, Nat.le_of_ble_eq_true rfl⟩), rfl, hts _ wd_82⟩ (im_preC im_NW_ok hK hN hAO hH hHz _) rfl rfl hl.1 rfl (lv_room (Nat.le_of_ble_eq_true rfl)) d_Tag_init_11 ⟨Nat.le_of_ble_eq_true rfl, Nat.le_of_ble_eq_true rfl⟩) hH (fun H locs hH => ?_)
  have hz := im_z_k h6 hz
  obtain ⟨w7, h8, hsh_4⟩ := im_bd hsh_3
  clear hsh_3
  refine im_putF (v := .ref n1) hx hb hts inC_Tag tyC_Tag tyC_Tag_ok nmC_Tag hown hK hH (ci := 6) rfl 0 (by decide) (hts _ wd_156) rfl rfl hin rfl rfl rfl h8 d_Tag_init_14 (fun H locs hH => ?_)
  have hz := im_z_p h8 hz
  refine lv_aload_n hx hb d_Tag_init_17 rfl (lv_at hl 0 rfl) ?_
  refine lv_bipush (v := 8) hx hb d_Tag_init_18 (by decide) ?_
  obtain ⟨n9, w10, h11, hsh_5⟩ := im_bd2 hsh_4
  clear hsh_4
  refine im_newa' (atype := .int) (t := 0) (a0 := (8, .inl (fun _ => 0))) hx hb (hts _ wd_51) (by decide) rfl hK hH hlo hz (fun _ => rfl) (by decide) (N' := 8) (by decide) (by decide) (Nat.le_of_ble_eq_true rfl) (Nat.le_of_ble_eq_true rfl) h11 d_Tag_init_20 (fun H hH => ?_)
  have hz := im_z_al h11 hz
  obtain ⟨w12, h13, hsh_6⟩ := im_bd hsh_5
  clear hsh_5
  refine im_putF (v := .ref n9) hx hb hts inC_Tag tyC_Tag tyC_Tag_ok nmC_Tag hown hK hH (ci := 6) rfl 1 (by decide) (hts _ wd_158) rfl rfl hin rfl rfl rfl h13 d_Tag_init_22 (fun H locs hH => ?_)
  have hz := im_z_p h13 hz
  refine lv_aload_n hx hb d_Tag_init_25 rfl (lv_at hl 0 rfl) ?_
  refine lv_bipush (v := 8) hx hb d_Tag_init_26 (by decide) ?_
  obtain ⟨n14, w15, h16, hsh_7⟩ := im_bd2 hsh_6
  clear hsh_6
  refine im_newa' (atype := .boolean) (t := 3) (a0 := (8, .inl (fun _ => 0))) hx hb (hts _ wd_71) (by decide) rfl hK hH hlo hz (fun _ => rfl) (by decide) (N' := 8) (by decide) (by decide) (Nat.le_of_ble_eq_true rfl) (Nat.le_of_ble_eq_true rfl) h16 d_Tag_init_28 (fun H hH => ?_)
  have hz := im_z_al h16 hz
  obtain ⟨w17, h18, hsh_8⟩ := im_bd hsh_7
  clear hsh_7
  refine im_putF (v := .ref n14) hx hb hts inC_Tag tyC_Tag tyC_Tag_ok nmC_Tag hown hK hH (ci := 6) rfl 2 (by decide) (hts _ wd_159) rfl rfl hin rfl rfl rfl h18 d_Tag_init_30 (fun H locs hH => ?_)
  have hz := im_z_p h18 hz
  refine lv_aload_n hx hb d_Tag_init_33 rfl (lv_at hl 0 rfl) ?_
  refine lv_iconst (v := 0) hx hb d_Tag_init_34 (by decide) ?_
  obtain ⟨w19, h20, hsh_9⟩ := im_bd hsh_8
  clear hsh_8
  refine im_put (v := .int (0 : Int32)) hx hb hts inC_Tag tyC_Tag tyC_Tag_ok nmC_Tag hown hK hH (ci := 6) rfl 3 (by decide) (hts _ wd_160) rfl rfl rfl rfl h20 d_Tag_init_35 (fun H locs hH => ?_)
  have hz := im_z_p h20 hz
  obtain rfl := Option.some.inj hsh_9
  refine W.widen (k := 5) (n := 52) (Nat.le_of_ble_eq_true rfl) (Nat.le_of_ble_eq_true rfl) ?_
  exact im_vret hx hb hr hlk hH d_Tag_init_38
end GEN
