section GEN
variable {l : Launch} {D : va_G} {tA : Nat → ClassId} {lo : Nat} {p : Program} {e : Env} {s : State} {m : MethodId} {args : Array Value} {below : List Frame} {meth : Method} {c : Code}
theorem wd_134 : (Jvm.Cond.fieldLink "LanguageTags$Likely" (7 : Nat) "LanguageTags$Likely" "pairs" "LLanguageTags$Pairs;") ∈ im_T := im_memT (i := 134) (by decide +kernel) (by decide +kernel)
theorem wd_511 : (Jvm.Cond.methodLink "LanguageTags$Likely" (30 : Nat) ({ cls := "LanguageTags$Core", name := "hasScript", desc := "()Z" } : Jvm.MethodName)) ∈ im_T := im_memT (i := 511) (by decide +kernel) (by decide +kernel)
theorem wd_512 : (Jvm.Cond.methodLink "LanguageTags$Likely" (34 : Nat) ({ cls := "LanguageTags$Core", name := "hasRegion", desc := "()Z" } : Jvm.MethodName)) ∈ im_T := im_memT (i := 512) (by decide +kernel) (by decide +kernel)
theorem wd_522 : (Jvm.Cond.methodLink "LanguageTags$Likely" (75 : Nat) ({ cls := "LanguageTags$Pairs", name := "coreBehind", desc := "(JJJ)LLanguageTags$Core;" } : Jvm.MethodName)) ∈ im_T := im_memT (i := 522) (by decide +kernel) (by decide +kernel)
theorem wd_523 : (Jvm.Cond.instanceMethod ({ cls := "LanguageTags$Pairs", name := "coreBehind", desc := "(JJJ)LLanguageTags$Core;" } : Jvm.MethodName)) ∈ im_T := im_memT (i := 523) (by decide +kernel) (by decide +kernel)
theorem wd_524 : (Jvm.Cond.selects "LanguageTags$Pairs" ({ cls := "LanguageTags$Pairs", name := "coreBehind", desc := "(JJJ)LLanguageTags$Core;" } : Jvm.MethodName) ({ cls := "LanguageTags$Pairs", name := "coreBehind", desc := "(JJJ)LLanguageTags$Core;" } : Jvm.MethodName)) ∈ im_T := im_memT (i := 524) (by decide +kernel) (by decide +kernel)
theorem wd_525 : (Jvm.Cond.code ({ cls := "LanguageTags$Pairs", name := "coreBehind", desc := "(JJJ)LLanguageTags$Core;" } : Jvm.MethodName) prog_6_method_6_code (8 : Nat) (Option.some (Jvm.ClassFile.FieldType.object "LanguageTags$Core"))) ∈ im_T := im_memT (i := 525) (by decide +kernel) (by decide +kernel)
theorem wd_530 : (Jvm.Cond.constantLong "LanguageTags$Likely" (81 : Nat) (8461810701038518272 : Int64)) ∈ im_T := im_memT (i := 530) (by decide +kernel) (by decide +kernel)
theorem d_Likely_sourceFor_0 : decode c_Likely_sourceFor 0 = .ok (.aconst_null, 1) := by decide +kernel
theorem d_Likely_sourceFor_1 : decode c_Likely_sourceFor 1 = .ok (.astore_n 2, 1) := by decide +kernel
theorem d_Likely_sourceFor_2 : decode c_Likely_sourceFor 2 = .ok (.aload_n 1, 1) := by decide +kernel
theorem d_Likely_sourceFor_3 : decode c_Likely_sourceFor 3 = .ok (.invokevirtual 30, 3) := by decide +kernel
theorem d_Likely_sourceFor_6 : decode c_Likely_sourceFor 6 = .ok (.ifCond .eq (30), 3) := by decide +kernel
theorem d_Likely_sourceFor_9 : decode c_Likely_sourceFor 9 = .ok (.aload_n 1, 1) := by decide +kernel
theorem d_Likely_sourceFor_10 : decode c_Likely_sourceFor 10 = .ok (.invokevirtual 34, 3) := by decide +kernel
theorem d_Likely_sourceFor_13 : decode c_Likely_sourceFor 13 = .ok (.ifCond .eq (23), 3) := by decide +kernel
theorem d_Likely_sourceFor_16 : decode c_Likely_sourceFor 16 = .ok (.aload_n 0, 1) := by decide +kernel
theorem d_Likely_sourceFor_17 : decode c_Likely_sourceFor 17 = .ok (.getfield 7, 3) := by decide +kernel
theorem d_Likely_sourceFor_20 : decode c_Likely_sourceFor 20 = .ok (.aload_n 1, 1) := by decide +kernel
theorem d_Likely_sourceFor_21 : decode c_Likely_sourceFor 21 = .ok (.getfield 64, 3) := by decide +kernel
theorem d_Likely_sourceFor_24 : decode c_Likely_sourceFor 24 = .ok (.aload_n 1, 1) := by decide +kernel
theorem d_Likely_sourceFor_25 : decode c_Likely_sourceFor 25 = .ok (.getfield 61, 3) := by decide +kernel
theorem d_Likely_sourceFor_28 : decode c_Likely_sourceFor 28 = .ok (.aload_n 1, 1) := by decide +kernel
theorem d_Likely_sourceFor_29 : decode c_Likely_sourceFor 29 = .ok (.getfield 57, 3) := by decide +kernel
theorem d_Likely_sourceFor_32 : decode c_Likely_sourceFor 32 = .ok (.invokevirtual 75, 3) := by decide +kernel
theorem d_Likely_sourceFor_35 : decode c_Likely_sourceFor 35 = .ok (.astore_n 2, 1) := by decide +kernel
theorem d_Likely_sourceFor_36 : decode c_Likely_sourceFor 36 = .ok (.aload_n 2, 1) := by decide +kernel
theorem d_Likely_sourceFor_37 : decode c_Likely_sourceFor 37 = .ok (.ifnonnull (27), 3) := by decide +kernel
theorem d_Likely_sourceFor_40 : decode c_Likely_sourceFor 40 = .ok (.aload_n 1, 1) := by decide +kernel
theorem d_Likely_sourceFor_41 : decode c_Likely_sourceFor 41 = .ok (.invokevirtual 34, 3) := by decide +kernel
theorem d_Likely_sourceFor_44 : decode c_Likely_sourceFor 44 = .ok (.ifCond .eq (20), 3) := by decide +kernel
theorem d_Likely_sourceFor_47 : decode c_Likely_sourceFor 47 = .ok (.aload_n 0, 1) := by decide +kernel
theorem d_Likely_sourceFor_48 : decode c_Likely_sourceFor 48 = .ok (.getfield 7, 3) := by decide +kernel
theorem d_Likely_sourceFor_51 : decode c_Likely_sourceFor 51 = .ok (.aload_n 1, 1) := by decide +kernel
theorem d_Likely_sourceFor_52 : decode c_Likely_sourceFor 52 = .ok (.getfield 64, 3) := by decide +kernel
theorem d_Likely_sourceFor_55 : decode c_Likely_sourceFor 55 = .ok (.lconst 0, 1) := by decide +kernel
theorem d_Likely_sourceFor_56 : decode c_Likely_sourceFor 56 = .ok (.aload_n 1, 1) := by decide +kernel
theorem d_Likely_sourceFor_57 : decode c_Likely_sourceFor 57 = .ok (.getfield 57, 3) := by decide +kernel
theorem d_Likely_sourceFor_60 : decode c_Likely_sourceFor 60 = .ok (.invokevirtual 75, 3) := by decide +kernel
theorem d_Likely_sourceFor_63 : decode c_Likely_sourceFor 63 = .ok (.astore_n 2, 1) := by decide +kernel
theorem d_Likely_sourceFor_64 : decode c_Likely_sourceFor 64 = .ok (.aload_n 2, 1) := by decide +kernel
theorem d_Likely_sourceFor_65 : decode c_Likely_sourceFor 65 = .ok (.ifnonnull (27), 3) := by decide +kernel
theorem d_Likely_sourceFor_68 : decode c_Likely_sourceFor 68 = .ok (.aload_n 1, 1) := by decide +kernel
theorem d_Likely_sourceFor_69 : decode c_Likely_sourceFor 69 = .ok (.invokevirtual 30, 3) := by decide +kernel
theorem d_Likely_sourceFor_72 : decode c_Likely_sourceFor 72 = .ok (.ifCond .eq (20), 3) := by decide +kernel
theorem d_Likely_sourceFor_75 : decode c_Likely_sourceFor 75 = .ok (.aload_n 0, 1) := by decide +kernel
theorem d_Likely_sourceFor_76 : decode c_Likely_sourceFor 76 = .ok (.getfield 7, 3) := by decide +kernel
theorem d_Likely_sourceFor_79 : decode c_Likely_sourceFor 79 = .ok (.aload_n 1, 1) := by decide +kernel
theorem d_Likely_sourceFor_80 : decode c_Likely_sourceFor 80 = .ok (.getfield 64, 3) := by decide +kernel
theorem d_Likely_sourceFor_83 : decode c_Likely_sourceFor 83 = .ok (.aload_n 1, 1) := by decide +kernel
theorem d_Likely_sourceFor_84 : decode c_Likely_sourceFor 84 = .ok (.getfield 61, 3) := by decide +kernel
theorem d_Likely_sourceFor_87 : decode c_Likely_sourceFor 87 = .ok (.lconst 0, 1) := by decide +kernel
theorem d_Likely_sourceFor_88 : decode c_Likely_sourceFor 88 = .ok (.invokevirtual 75, 3) := by decide +kernel
theorem d_Likely_sourceFor_91 : decode c_Likely_sourceFor 91 = .ok (.astore_n 2, 1) := by decide +kernel
theorem d_Likely_sourceFor_92 : decode c_Likely_sourceFor 92 = .ok (.aload_n 2, 1) := by decide +kernel
theorem d_Likely_sourceFor_93 : decode c_Likely_sourceFor 93 = .ok (.ifnonnull (17), 3) := by decide +kernel
theorem d_Likely_sourceFor_96 : decode c_Likely_sourceFor 96 = .ok (.aload_n 0, 1) := by decide +kernel
theorem d_Likely_sourceFor_97 : decode c_Likely_sourceFor 97 = .ok (.getfield 7, 3) := by decide +kernel
theorem d_Likely_sourceFor_100 : decode c_Likely_sourceFor 100 = .ok (.aload_n 1, 1) := by decide +kernel
theorem d_Likely_sourceFor_101 : decode c_Likely_sourceFor 101 = .ok (.getfield 64, 3) := by decide +kernel
theorem d_Likely_sourceFor_104 : decode c_Likely_sourceFor 104 = .ok (.lconst 0, 1) := by decide +kernel
theorem d_Likely_sourceFor_105 : decode c_Likely_sourceFor 105 = .ok (.lconst 0, 1) := by decide +kernel
theorem d_Likely_sourceFor_106 : decode c_Likely_sourceFor 106 = .ok (.invokevirtual 75, 3) := by decide +kernel
theorem d_Likely_sourceFor_109 : decode c_Likely_sourceFor 109 = .ok (.astore_n 2, 1) := by decide +kernel
theorem d_Likely_sourceFor_110 : decode c_Likely_sourceFor 110 = .ok (.aload_n 2, 1) := by decide +kernel
theorem d_Likely_sourceFor_111 : decode c_Likely_sourceFor 111 = .ok (.ifnonnull (26), 3) := by decide +kernel
theorem d_Likely_sourceFor_114 : decode c_Likely_sourceFor 114 = .ok (.aload_n 1, 1) := by decide +kernel
theorem d_Likely_sourceFor_115 : decode c_Likely_sourceFor 115 = .ok (.invokevirtual 30, 3) := by decide +kernel
theorem d_Likely_sourceFor_118 : decode c_Likely_sourceFor 118 = .ok (.ifCond .eq (19), 3) := by decide +kernel
theorem d_Likely_sourceFor_121 : decode c_Likely_sourceFor 121 = .ok (.aload_n 0, 1) := by decide +kernel
theorem d_Likely_sourceFor_122 : decode c_Likely_sourceFor 122 = .ok (.getfield 7, 3) := by decide +kernel
theorem d_Likely_sourceFor_125 : decode c_Likely_sourceFor 125 = .ok (.ldc2_w 81, 3) := by decide +kernel
theorem d_Likely_sourceFor_128 : decode c_Likely_sourceFor 128 = .ok (.aload_n 1, 1) := by decide +kernel
theorem d_Likely_sourceFor_129 : decode c_Likely_sourceFor 129 = .ok (.getfield 61, 3) := by decide +kernel
theorem d_Likely_sourceFor_132 : decode c_Likely_sourceFor 132 = .ok (.lconst 0, 1) := by decide +kernel
theorem d_Likely_sourceFor_133 : decode c_Likely_sourceFor 133 = .ok (.invokevirtual 75, 3) := by decide +kernel
theorem d_Likely_sourceFor_136 : decode c_Likely_sourceFor 136 = .ok (.astore_n 2, 1) := by decide +kernel
theorem d_Likely_sourceFor_137 : decode c_Likely_sourceFor 137 = .ok (.aload_n 2, 1) := by decide +kernel
theorem d_Likely_sourceFor_138 : decode c_Likely_sourceFor 138 = .ok (.areturn, 1) := by decide +kernel
def sh_Likely_sourceFor_137 (F : Nat) (x2 : Option Nat) (w : im_W) : Option (Option Nat × im_W) :=
  some (x2, w)
set_option maxHeartbeats 4000000 in
set_option maxRecDepth 100000 in
theorem bk_Likely_sourceFor_137 {F : Nat} {r : Option Nat × im_W} (X : im_X D vwCl tA lo im_NW c_Likely_sourceFor 3 (some (.object "LanguageTags$Core")) RC_Likely im_T p s m args meth c) (x2 : Option Nat) (w : im_W) (hsh : sh_Likely_sourceFor_137 F x2 w = some r) : im_WW D vwCl tA lo 3 p l e (im_rm 2 53) s m args below meth c 0 0 (MQ below (im_Post D vwCl tA lo (some (im_rf lo r.1)) r.2) args s 0 0 (fun q => lo ≤ q)) 137 [(2, im_rf lo x2)] [] w := by
  obtain ⟨hx, hb, hr, hts, hown, hlk, hml, hK, hN⟩ := id X
  intro H locs ls hH hl
  unfold sh_Likely_sourceFor_137 at hsh
  refine im_aloadQ_n hx hb d_Likely_sourceFor_137 rfl (lv_at hl 0 rfl) ?_
  obtain rfl := Option.some.inj hsh
  exact im_aret (r := x2) hx hb hr hlk hH d_Likely_sourceFor_138
def sh_Likely_sourceFor_110 (F : Nat) (x0 : Nat) (x1 : Nat) (x2 : Option Nat) (w : im_W) : Option (Option Nat × im_W) :=
  (im_nul x2 ((im_is w 1 x1).bind fun u2 => im_b2 (sh_Core_hasScript F x1 w) fun v8 w6 => (if v8 = 0 then sh_Likely_sourceFor_137 F (none : Option Nat) w6 else (im_gR w6 3 x0 0).bind fun f9 => (im_gL w6 1 x1 1).bind fun f11 => (im_is w6 4 f9).bind fun u13 => im_b2 (sh_Pairs_coreBehind F f9 (8461810701038518272 : Int64) f11 (0 : Int64) w6) fun v19 w17 => sh_Likely_sourceFor_137 F v19 w17)) fun a1 => sh_Likely_sourceFor_137 F (some a1) w)
set_option maxHeartbeats 4000000 in
set_option maxRecDepth 100000 in
theorem bk_Likely_sourceFor_110 {F : Nat} {r : Option Nat × im_W} (X : im_X D vwCl tA lo im_NW c_Likely_sourceFor 3 (some (.object "LanguageTags$Core")) RC_Likely im_T p s m args meth c) (x0 : Nat) (x1 : Nat) (x2 : Option Nat) (w : im_W) (hsh : sh_Likely_sourceFor_110 F x0 x1 x2 w = some r) : im_WW D vwCl tA lo 3 p l e (im_rm 2 53) s m args below meth c 0 0 (MQ below (im_Post D vwCl tA lo (some (im_rf lo r.1)) r.2) args s 0 0 (fun q => lo ≤ q)) 110 [(0, .ref (lo + x0)), (1, .ref (lo + x1)), (2, im_rf lo x2)] [] w := by
  obtain ⟨hx, hb, hr, hts, hown, hlk, hml, hK, hN⟩ := id X
  intro H locs ls hH hl
  unfold sh_Likely_sourceFor_110 at hsh
  refine im_aloadQ_n hx hb d_Likely_sourceFor_110 rfl (lv_at hl 2 rfl) ?_
  cases x2 with
  | none =>
    have hsh := im_nul_n hsh
    refine lv_ifnonnullN hx hb d_Likely_sourceFor_111 ?_
    refine lv_aload_n hx hb d_Likely_sourceFor_114 rfl (lv_at hl 1 rfl) ?_
    obtain ⟨u2, h3, hsh⟩ := im_bd hsh
    obtain ⟨g4, h5⟩ := im_is_s h3
    obtain ⟨v8, w6, h7, hsh⟩ := im_bd2 hsh
    refine im_afterI (va_runV (As := []) (rest := []) (C := RC_Core) ⟨hx, hb, hml, hown, hts⟩ (met_Core_hasScript h7) ⟨(callB_of 0 hts (im_good wd_399) rfl rfl rfl (hts _ wd_7) (hts _ wd_511) (by decide +kernel) ⟨Nat.le_of_ble_eq_true rfl, Nat.le_of_ble_eq_true rfl⟩), hts _ wd_397, hts _ wd_398⟩ (im_preV im_NW_ok hK hN hH (ci := 1) rfl rfl h5 _) rfl rfl hl.1 rfl (lv_room (Nat.le_of_ble_eq_true rfl)) d_Likely_sourceFor_115 ⟨Nat.le_of_ble_eq_true rfl, Nat.le_of_ble_eq_true rfl⟩) hH (fun H locs hH => ?_)
    refine lv_if_eq (tgt := 137) hx hb d_Likely_sourceFor_118 (by decide) (fun cc => ?_) (fun cc => ?_)
    · have hsh := im_it hsh cc
      exact bk_Likely_sourceFor_137 X (none : Option Nat) w6 hsh H locs ls hH (lv_sub hl [2] rfl)
    · have hsh := im_if hsh cc
      refine lv_aload_n hx hb d_Likely_sourceFor_121 rfl (lv_at hl 0 rfl) ?_
      obtain ⟨f9, h10, hsh⟩ := im_bd hsh
      refine im_getR hx hb hts inC_Likely hown hK hH (ci := 3) rfl 0 (by decide) (hts _ wd_134) rfl h10 d_Likely_sourceFor_122 ?_
      refine lv_ldc2 (v := 8461810701038518272) hx hb hown (hts _ wd_530) d_Likely_sourceFor_125 ?_
      refine lv_aload_n hx hb d_Likely_sourceFor_128 rfl (lv_at hl 1 rfl) ?_
      obtain ⟨f11, h12, hsh⟩ := im_bd hsh
      refine im_getNL hx hb hts inC_Core hown hK hH (ci := 1) rfl 1 (by decide) (hN _ nw_94) rfl h12 d_Likely_sourceFor_129 ?_
      refine lv_lconst (v := 0) hx hb d_Likely_sourceFor_132 (by decide) ?_
      obtain ⟨u13, h14, hsh⟩ := im_bd hsh
      obtain ⟨g15, h16⟩ := im_is_s h14
      obtain ⟨v19, w17, h18, hsh⟩ := im_bd2 hsh
      refine im_afterQ (va_runV (As := [.long (8461810701038518272 : Int64), .long f11, .long (0 : Int64)]) (rest := []) (C := RC_Pairs) ⟨hx, hb, hml, hown, hts⟩ (met_Pairs_coreBehind h18) ⟨(callB_of 3 hts (im_good wd_525) rfl rfl rfl (hts _ wd_5) (hts _ wd_522) (by decide +kernel) ⟨Nat.le_of_ble_eq_true rfl, Nat.le_of_ble_eq_true rfl⟩), hts _ wd_523, hts _ wd_524⟩ (im_preV im_NW_ok hK hN hH (ci := 4) rfl rfl h16 _) rfl rfl hl.1 rfl (lv_room (Nat.le_of_ble_eq_true rfl)) d_Likely_sourceFor_133 ⟨Nat.le_of_ble_eq_true rfl, Nat.le_of_ble_eq_true rfl⟩) hH (fun H locs hH => ?_)
      refine im_astoreQ_n (lv' := [(2, im_rf lo v19), (0, .ref (lo + x0)), (1, .ref (lo + x1))]) hx hb d_Likely_sourceFor_136 rfl hl (by decide) rfl (fun ls hl => ?_)
      exact bk_Likely_sourceFor_137 X v19 w17 hsh H locs ls hH (lv_sub hl [0] rfl)
  | some a1 =>
    have hsh := im_nul_s hsh
    refine lv_ifnonnull hx hb d_Likely_sourceFor_111 (tgt := 137) (by decide) ?_
    exact bk_Likely_sourceFor_137 X (some a1) w hsh H locs ls hH (lv_sub hl [2] rfl)
def sh_Likely_sourceFor_92 (F : Nat) (x0 : Nat) (x1 : Nat) (x2 : Option Nat) (w : im_W) : Option (Option Nat × im_W) :=
  (im_nul x2 ((im_gR w 3 x0 0).bind fun f2 => (im_gL w 1 x1 0).bind fun f4 => (im_is w 4 f2).bind fun u6 => im_b2 (sh_Pairs_coreBehind F f2 f4 (0 : Int64) (0 : Int64) w) fun v12 w10 => sh_Likely_sourceFor_110 F x0 x1 v12 w10) fun a1 => sh_Likely_sourceFor_110 F x0 x1 (some a1) w)
set_option maxHeartbeats 4000000 in
set_option maxRecDepth 100000 in
theorem bk_Likely_sourceFor_92 {F : Nat} {r : Option Nat × im_W} (X : im_X D vwCl tA lo im_NW c_Likely_sourceFor 3 (some (.object "LanguageTags$Core")) RC_Likely im_T p s m args meth c) (x0 : Nat) (x1 : Nat) (x2 : Option Nat) (w : im_W) (hsh : sh_Likely_sourceFor_92 F x0 x1 x2 w = some r) : im_WW D vwCl tA lo 3 p l e (im_rm 2 53) s m args below meth c 0 0 (MQ below (im_Post D vwCl tA lo (some (im_rf lo r.1)) r.2) args s 0 0 (fun q => lo ≤ q)) 92 [(0, .ref (lo + x0)), (1, .ref (lo + x1)), (2, im_rf lo x2)] [] w := by
  obtain ⟨hx, hb, hr, hts, hown, hlk, hml, hK, hN⟩ := id X
  intro H locs ls hH hl
  unfold sh_Likely_sourceFor_92 at hsh
  refine im_aloadQ_n hx hb d_Likely_sourceFor_92 rfl (lv_at hl 2 rfl) ?_
  cases x2 with
  | none =>
    have hsh := im_nul_n hsh
    refine lv_ifnonnullN hx hb d_Likely_sourceFor_93 ?_
    refine lv_aload_n hx hb d_Likely_sourceFor_96 rfl (lv_at hl 0 rfl) ?_
    obtain ⟨f2, h3, hsh⟩ := im_bd hsh
    refine im_getR hx hb hts inC_Likely hown hK hH (ci := 3) rfl 0 (by decide) (hts _ wd_134) rfl h3 d_Likely_sourceFor_97 ?_
    refine lv_aload_n hx hb d_Likely_sourceFor_100 rfl (lv_at hl 1 rfl) ?_
    obtain ⟨f4, h5, hsh⟩ := im_bd hsh
    refine im_getNL hx hb hts inC_Core hown hK hH (ci := 1) rfl 0 (by decide) (hN _ nw_92) rfl h5 d_Likely_sourceFor_101 ?_
    refine lv_lconst (v := 0) hx hb d_Likely_sourceFor_104 (by decide) ?_
    refine lv_lconst (v := 0) hx hb d_Likely_sourceFor_105 (by decide) ?_
    obtain ⟨u6, h7, hsh⟩ := im_bd hsh
    obtain ⟨g8, h9⟩ := im_is_s h7
    obtain ⟨v12, w10, h11, hsh⟩ := im_bd2 hsh
    refine im_afterQ (va_runV (As := [.long f4, .long (0 : Int64), .long (0 : Int64)]) (rest := []) (C := RC_Pairs) ⟨hx, hb, hml, hown, hts⟩ (met_Pairs_coreBehind h11) ⟨(callB_of 3 hts (im_good wd_525) rfl rfl rfl (hts _ wd_5) (hts _ wd_522) (by decide +kernel) ⟨Nat.le_of_ble_eq_true rfl, Nat.le_of_ble_eq_true rfl⟩), hts _ wd_523, hts _ wd_524⟩ (im_preV im_NW_ok hK hN hH (ci := 4) rfl rfl h9 _) rfl rfl hl.1 rfl (lv_room (Nat.le_of_ble_eq_true rfl)) d_Likely_sourceFor_106 ⟨Nat.le_of_ble_eq_true rfl, Nat.le_of_ble_eq_true rfl⟩) hH (fun H locs hH => ?_)
    refine im_astoreQ_n (lv' := [(2, im_rf lo v12), (0, .ref (lo + x0)), (1, .ref (lo + x1))]) hx hb d_Likely_sourceFor_109 rfl hl (by decide) rfl (fun ls hl => ?_)
    exact bk_Likely_sourceFor_110 X x0 x1 v12 w10 hsh H locs ls hH (lv_sub hl [1, 2, 0] rfl)
  | some a1 =>
    have hsh := im_nul_s hsh
    refine lv_ifnonnull hx hb d_Likely_sourceFor_93 (tgt := 110) (by decide) ?_
    exact bk_Likely_sourceFor_110 X x0 x1 (some a1) w hsh H locs ls hH (lv_sub hl [0, 1, 2] rfl)
def sh_Likely_sourceFor_64 (F : Nat) (x0 : Nat) (x1 : Nat) (x2 : Option Nat) (w : im_W) : Option (Option Nat × im_W) :=
  (im_nul x2 ((im_is w 1 x1).bind fun u2 => im_b2 (sh_Core_hasScript F x1 w) fun v8 w6 => (if v8 = 0 then sh_Likely_sourceFor_92 F x0 x1 (none : Option Nat) w6 else (im_gR w6 3 x0 0).bind fun f9 => (im_gL w6 1 x1 0).bind fun f11 => (im_gL w6 1 x1 1).bind fun f13 => (im_is w6 4 f9).bind fun u15 => im_b2 (sh_Pairs_coreBehind F f9 f11 f13 (0 : Int64) w6) fun v21 w19 => sh_Likely_sourceFor_92 F x0 x1 v21 w19)) fun a1 => sh_Likely_sourceFor_92 F x0 x1 (some a1) w)
set_option maxHeartbeats 4000000 in
set_option maxRecDepth 100000 in
theorem bk_Likely_sourceFor_64 {F : Nat} {r : Option Nat × im_W} (X : im_X D vwCl tA lo im_NW c_Likely_sourceFor 3 (some (.object "LanguageTags$Core")) RC_Likely im_T p s m args meth c) (x0 : Nat) (x1 : Nat) (x2 : Option Nat) (w : im_W) (hsh : sh_Likely_sourceFor_64 F x0 x1 x2 w = some r) : im_WW D vwCl tA lo 3 p l e (im_rm 2 53) s m args below meth c 0 0 (MQ below (im_Post D vwCl tA lo (some (im_rf lo r.1)) r.2) args s 0 0 (fun q => lo ≤ q)) 64 [(0, .ref (lo + x0)), (1, .ref (lo + x1)), (2, im_rf lo x2)] [] w := by
  obtain ⟨hx, hb, hr, hts, hown, hlk, hml, hK, hN⟩ := id X
  intro H locs ls hH hl
  unfold sh_Likely_sourceFor_64 at hsh
  refine im_aloadQ_n hx hb d_Likely_sourceFor_64 rfl (lv_at hl 2 rfl) ?_
  cases x2 with
  | none =>
    have hsh := im_nul_n hsh
    refine lv_ifnonnullN hx hb d_Likely_sourceFor_65 ?_
    refine lv_aload_n hx hb d_Likely_sourceFor_68 rfl (lv_at hl 1 rfl) ?_
    obtain ⟨u2, h3, hsh⟩ := im_bd hsh
    obtain ⟨g4, h5⟩ := im_is_s h3
    obtain ⟨v8, w6, h7, hsh⟩ := im_bd2 hsh
    refine im_afterI (va_runV (As := []) (rest := []) (C := RC_Core) ⟨hx, hb, hml, hown, hts⟩ (met_Core_hasScript h7) ⟨(callB_of 0 hts (im_good wd_399) rfl rfl rfl (hts _ wd_7) (hts _ wd_511) (by decide +kernel) ⟨Nat.le_of_ble_eq_true rfl, Nat.le_of_ble_eq_true rfl⟩), hts _ wd_397, hts _ wd_398⟩ (im_preV im_NW_ok hK hN hH (ci := 1) rfl rfl h5 _) rfl rfl hl.1 rfl (lv_room (Nat.le_of_ble_eq_true rfl)) d_Likely_sourceFor_69 ⟨Nat.le_of_ble_eq_true rfl, Nat.le_of_ble_eq_true rfl⟩) hH (fun H locs hH => ?_)
    refine lv_if_eq (tgt := 92) hx hb d_Likely_sourceFor_72 (by decide) (fun cc => ?_) (fun cc => ?_)
    · have hsh := im_it hsh cc
      exact bk_Likely_sourceFor_92 X x0 x1 (none : Option Nat) w6 hsh H locs ls hH (lv_sub hl [0, 1, 2] rfl)
    · have hsh := im_if hsh cc
      refine lv_aload_n hx hb d_Likely_sourceFor_75 rfl (lv_at hl 0 rfl) ?_
      obtain ⟨f9, h10, hsh⟩ := im_bd hsh
      refine im_getR hx hb hts inC_Likely hown hK hH (ci := 3) rfl 0 (by decide) (hts _ wd_134) rfl h10 d_Likely_sourceFor_76 ?_
      refine lv_aload_n hx hb d_Likely_sourceFor_79 rfl (lv_at hl 1 rfl) ?_
      obtain ⟨f11, h12, hsh⟩ := im_bd hsh
      refine im_getNL hx hb hts inC_Core hown hK hH (ci := 1) rfl 0 (by decide) (hN _ nw_92) rfl h12 d_Likely_sourceFor_80 ?_
      refine lv_aload_n hx hb d_Likely_sourceFor_83 rfl (lv_at hl 1 rfl) ?_
      obtain ⟨f13, h14, hsh⟩ := im_bd hsh
      refine im_getNL hx hb hts inC_Core hown hK hH (ci := 1) rfl 1 (by decide) (hN _ nw_94) rfl h14 d_Likely_sourceFor_84 ?_
      refine lv_lconst (v := 0) hx hb d_Likely_sourceFor_87 (by decide) ?_
      obtain ⟨u15, h16, hsh⟩ := im_bd hsh
      obtain ⟨g17, h18⟩ := im_is_s h16
      obtain ⟨v21, w19, h20, hsh⟩ := im_bd2 hsh
      refine im_afterQ (va_runV (As := [.long f11, .long f13, .long (0 : Int64)]) (rest := []) (C := RC_Pairs) ⟨hx, hb, hml, hown, hts⟩ (met_Pairs_coreBehind h20) ⟨(callB_of 3 hts (im_good wd_525) rfl rfl rfl (hts _ wd_5) (hts _ wd_522) (by decide +kernel) ⟨Nat.le_of_ble_eq_true rfl, Nat.le_of_ble_eq_true rfl⟩), hts _ wd_523, hts _ wd_524⟩ (im_preV im_NW_ok hK hN hH (ci := 4) rfl rfl h18 _) rfl rfl hl.1 rfl (lv_room (Nat.le_of_ble_eq_true rfl)) d_Likely_sourceFor_88 ⟨Nat.le_of_ble_eq_true rfl, Nat.le_of_ble_eq_true rfl⟩) hH (fun H locs hH => ?_)
      refine im_astoreQ_n (lv' := [(2, im_rf lo v21), (0, .ref (lo + x0)), (1, .ref (lo + x1))]) hx hb d_Likely_sourceFor_91 rfl hl (by decide) rfl (fun ls hl => ?_)
      exact bk_Likely_sourceFor_92 X x0 x1 v21 w19 hsh H locs ls hH (lv_sub hl [1, 2, 0] rfl)
  | some a1 =>
    have hsh := im_nul_s hsh
    refine lv_ifnonnull hx hb d_Likely_sourceFor_65 (tgt := 92) (by decide) ?_
    exact bk_Likely_sourceFor_92 X x0 x1 (some a1) w hsh H locs ls hH (lv_sub hl [0, 1, 2] rfl)
def sh_Likely_sourceFor_36 (F : Nat) (x0 : Nat) (x1 : Nat) (x2 : Option Nat) (w : im_W) : Option (Option Nat × im_W) :=
  (im_nul x2 ((im_is w 1 x1).bind fun u2 => im_b2 (sh_Core_hasRegion F x1 w) fun v8 w6 => (if v8 = 0 then sh_Likely_sourceFor_64 F x0 x1 (none : Option Nat) w6 else (im_gR w6 3 x0 0).bind fun f9 => (im_gL w6 1 x1 0).bind fun f11 => (im_gL w6 1 x1 2).bind fun f13 => (im_is w6 4 f9).bind fun u15 => im_b2 (sh_Pairs_coreBehind F f9 f11 (0 : Int64) f13 w6) fun v21 w19 => sh_Likely_sourceFor_64 F x0 x1 v21 w19)) fun a1 => sh_Likely_sourceFor_64 F x0 x1 (some a1) w)
set_option maxHeartbeats 4000000 in
set_option maxRecDepth 100000 in
theorem bk_Likely_sourceFor_36 {F : Nat} {r : Option Nat × im_W} (X : im_X D vwCl tA lo im_NW c_Likely_sourceFor 3 (some (.object "LanguageTags$Core")) RC_Likely im_T p s m args meth c) (x0 : Nat) (x1 : Nat) (x2 : Option Nat) (w : im_W) (hsh : sh_Likely_sourceFor_36 F x0 x1 x2 w = some r) : im_WW D vwCl tA lo 3 p l e (im_rm 2 53) s m args below meth c 0 0 (MQ below (im_Post D vwCl tA lo (some (im_rf lo r.1)) r.2) args s 0 0 (fun q => lo ≤ q)) 36 [(0, .ref (lo + x0)), (1, .ref (lo + x1)), (2, im_rf lo x2)] [] w := by
  obtain ⟨hx, hb, hr, hts, hown, hlk, hml, hK, hN⟩ := id X
  intro H locs ls hH hl
  unfold sh_Likely_sourceFor_36 at hsh
  refine im_aloadQ_n hx hb d_Likely_sourceFor_36 rfl (lv_at hl 2 rfl) ?_
  cases x2 with
  | none =>
    have hsh := im_nul_n hsh
    refine lv_ifnonnullN hx hb d_Likely_sourceFor_37 ?_
    refine lv_aload_n hx hb d_Likely_sourceFor_40 rfl (lv_at hl 1 rfl) ?_
    obtain ⟨u2, h3, hsh⟩ := im_bd hsh
    obtain ⟨g4, h5⟩ := im_is_s h3
    obtain ⟨v8, w6, h7, hsh⟩ := im_bd2 hsh
    refine im_afterI (va_runV (As := []) (rest := []) (C := RC_Core) ⟨hx, hb, hml, hown, hts⟩ (met_Core_hasRegion h7) ⟨(callB_of 0 hts (im_good wd_403) rfl rfl rfl (hts _ wd_7) (hts _ wd_512) (by decide +kernel) ⟨Nat.le_of_ble_eq_true rfl, Nat.le_of_ble_eq_true rfl⟩), hts _ wd_401, hts _ wd_402⟩ (im_preV im_NW_ok hK hN hH (ci := 1) rfl rfl h5 _) rfl rfl hl.1 rfl (lv_room (Nat.le_of_ble_eq_true rfl)) d_Likely_sourceFor_41 ⟨Nat.le_of_ble_eq_true rfl, Nat.le_of_ble_eq_true rfl⟩) hH (fun H locs hH => ?_)
    refine lv_if_eq (tgt := 64) hx hb d_Likely_sourceFor_44 (by decide) (fun cc => ?_) (fun cc => ?_)
    · have hsh := im_it hsh cc
      exact bk_Likely_sourceFor_64 X x0 x1 (none : Option Nat) w6 hsh H locs ls hH (lv_sub hl [0, 1, 2] rfl)
    · have hsh := im_if hsh cc
      refine lv_aload_n hx hb d_Likely_sourceFor_47 rfl (lv_at hl 0 rfl) ?_
      obtain ⟨f9, h10, hsh⟩ := im_bd hsh
      refine im_getR hx hb hts inC_Likely hown hK hH (ci := 3) rfl 0 (by decide) (hts _ wd_134) rfl h10 d_Likely_sourceFor_48 ?_
      refine lv_aload_n hx hb d_Likely_sourceFor_51 rfl (lv_at hl 1 rfl) ?_
      obtain ⟨f11, h12, hsh⟩ := im_bd hsh
      refine im_getNL hx hb hts inC_Core hown hK hH (ci := 1) rfl 0 (by decide) (hN _ nw_92) rfl h12 d_Likely_sourceFor_52 ?_
      refine lv_lconst (v := 0) hx hb d_Likely_sourceFor_55 (by decide) ?_
      refine lv_aload_n hx hb d_Likely_sourceFor_56 rfl (lv_at hl 1 rfl) ?_
      obtain ⟨f13, h14, hsh⟩ := im_bd hsh
      refine im_getNL hx hb hts inC_Core hown hK hH (ci := 1) rfl 2 (by decide) (hN _ nw_96) rfl h14 d_Likely_sourceFor_57 ?_
      obtain ⟨u15, h16, hsh⟩ := im_bd hsh
      obtain ⟨g17, h18⟩ := im_is_s h16
      obtain ⟨v21, w19, h20, hsh⟩ := im_bd2 hsh
      refine im_afterQ (va_runV (As := [.long f11, .long (0 : Int64), .long f13]) (rest := []) (C := RC_Pairs) ⟨hx, hb, hml, hown, hts⟩ (met_Pairs_coreBehind h20) ⟨(callB_of 3 hts (im_good wd_525) rfl rfl rfl (hts _ wd_5) (hts _ wd_522) (by decide +kernel) ⟨Nat.le_of_ble_eq_true rfl, Nat.le_of_ble_eq_true rfl⟩), hts _ wd_523, hts _ wd_524⟩ (im_preV im_NW_ok hK hN hH (ci := 4) rfl rfl h18 _) rfl rfl hl.1 rfl (lv_room (Nat.le_of_ble_eq_true rfl)) d_Likely_sourceFor_60 ⟨Nat.le_of_ble_eq_true rfl, Nat.le_of_ble_eq_true rfl⟩) hH (fun H locs hH => ?_)
      refine im_astoreQ_n (lv' := [(2, im_rf lo v21), (0, .ref (lo + x0)), (1, .ref (lo + x1))]) hx hb d_Likely_sourceFor_63 rfl hl (by decide) rfl (fun ls hl => ?_)
      exact bk_Likely_sourceFor_64 X x0 x1 v21 w19 hsh H locs ls hH (lv_sub hl [1, 2, 0] rfl)
  | some a1 =>
    have hsh := im_nul_s hsh
    refine lv_ifnonnull hx hb d_Likely_sourceFor_37 (tgt := 64) (by decide) ?_
    exact bk_Likely_sourceFor_64 X x0 x1 (some a1) w hsh H locs ls hH (lv_sub hl [0, 1, 2] rfl)
def sh_Likely_sourceFor (F : Nat) (x0 : Nat) (x1 : Nat) (w : im_W) : Option (Option Nat × im_W) :=
  (im_is w 1 x1).bind fun u1 => im_b2 (sh_Core_hasScript F x1 w) fun v7 w5 => (if v7 = 0 then sh_Likely_sourceFor_36 F x0 x1 (none : Option Nat) w5 else (im_is w5 1 x1).bind fun u8 => im_b2 (sh_Core_hasRegion F x1 w5) fun v14 w12 => (if v14 = 0 then sh_Likely_sourceFor_36 F x0 x1 (none : Option Nat) w12 else (im_gR w12 3 x0 0).bind fun f15 => (im_gL w12 1 x1 0).bind fun f17 => (im_gL w12 1 x1 1).bind fun f19 => (im_gL w12 1 x1 2).bind fun f21 => (im_is w12 4 f15).bind fun u23 => im_b2 (sh_Pairs_coreBehind F f15 f17 f19 f21 w12) fun v29 w27 => sh_Likely_sourceFor_36 F x0 x1 v29 w27))
set_option maxHeartbeats 4000000 in
set_option maxRecDepth 100000 in
theorem met_Likely_sourceFor {F : Nat} {x0 : Nat} {x1 : Nat} {w : im_W} {r : Option Nat × im_W} (hsh : sh_Likely_sourceFor F x0 x1 w = some r) : Met l y_Likely_sourceFor (Cond.code y_Likely_sourceFor c_Likely_sourceFor 3 (some (.object "LanguageTags$Core")) :: im_T) (im_rm 2 53) (im_Pre D vwCl tA lo im_NW [.ref (lo + x0), .ref (lo + x1)] w) (im_Post D vwCl tA lo (some (im_rf lo r.1)) r.2) 0 0 (fun q => lo ≤ q) := by
  refine im_ofW (cc := c_Likely_sourceFor) (nL := 3) (ret := (some (.object "LanguageTags$Core"))) (by decide) (Nat.le_of_ble_eq_true rfl) ?_
  intro p e s m args below meth c X H locs ls hH hl
  obtain ⟨hx, hb, hr, hts, hown, hlk, hml, hK, hN⟩ := id X
  have hl : lv_has ls 3 [(0, .ref (lo + x0)), (1, .ref (lo + x1))] := hl
  unfold sh_Likely_sourceFor at hsh
  refine im_null (lo := lo) hx hb d_Likely_sourceFor_0 ?_
  refine im_astoreQ_n (lv' := [(2, im_rf lo none), (0, .ref (lo + x0)), (1, .ref (lo + x1))]) hx hb d_Likely_sourceFor_1 rfl hl (by decide) rfl (fun ls hl => ?_)
  refine lv_aload_n hx hb d_Likely_sourceFor_2 rfl (lv_at hl 2 rfl) ?_
  obtain ⟨u1, h2, hsh⟩ := im_bd hsh
  obtain ⟨g3, h4⟩ := im_is_s h2
  obtain ⟨v7, w5, h6, hsh⟩ := im_bd2 hsh
  refine im_afterI (va_runV (As := []) (rest := []) (C := RC_Core) ⟨hx, hb, hml, hown, hts⟩ (met_Core_hasScript h6) ⟨(callB_of 0 hts (im_good wd_399) rfl rfl rfl (hts _ wd_7) (hts _ wd_511) (by decide +kernel) ⟨Nat.le_of_ble_eq_true rfl, Nat.le_of_ble_eq_true rfl⟩), hts _ wd_397, hts _ wd_398⟩ (im_preV im_NW_ok hK hN hH (ci := 1) rfl rfl h4 _) rfl rfl hl.1 rfl (lv_room (Nat.le_of_ble_eq_true rfl)) d_Likely_sourceFor_3 ⟨Nat.le_of_ble_eq_true rfl, Nat.le_of_ble_eq_true rfl⟩) hH (fun H locs hH => ?_)
  refine lv_if_eq (tgt := 36) hx hb d_Likely_sourceFor_6 (by decide) (fun cc => ?_) (fun cc => ?_)
  · have hsh := im_it hsh cc
    exact bk_Likely_sourceFor_36 X x0 x1 (none : Option Nat) w5 hsh H locs ls hH (lv_sub hl [1, 2, 0] rfl)
  · have hsh := im_if hsh cc
    refine lv_aload_n hx hb d_Likely_sourceFor_9 rfl (lv_at hl 2 rfl) ?_
    obtain ⟨u8, h9, hsh⟩ := im_bd hsh
    obtain ⟨g10, h11⟩ := im_is_s h9
    obtain ⟨v14, w12, h13, hsh⟩ := im_bd2 hsh
    refine im_afterI (va_runV (As := []) (rest := []) (C := RC_Core) ⟨hx, hb, hml, hown, hts⟩ (met_Core_hasRegion h13) ⟨(callB_of 0 hts (im_good wd_403) rfl rfl rfl (hts _ wd_7) (hts _ wd_512) (by decide +kernel) ⟨Nat.le_of_ble_eq_true rfl, Nat.le_of_ble_eq_true rfl⟩), hts _ wd_401, hts _ wd_402⟩ (im_preV im_NW_ok hK hN hH (ci := 1) rfl rfl h11 _) rfl rfl hl.1 rfl (lv_room (Nat.le_of_ble_eq_true rfl)) d_Likely_sourceFor_10 ⟨Nat.le_of_ble_eq_true rfl, Nat.le_of_ble_eq_true rfl⟩) hH (fun H locs hH => ?_)
    refine lv_if_eq (tgt := 36) hx hb d_Likely_sourceFor_13 (by decide) (fun cc => ?_) (fun cc => ?_)
    · have hsh := im_it hsh cc
      exact bk_Likely_sourceFor_36 X x0 x1 (none : Option Nat) w12 hsh H locs ls hH (lv_sub hl [1, 2, 0] rfl)
    · have hsh := im_if hsh cc
      refine lv_aload_n hx hb d_Likely_sourceFor_16 rfl (lv_at hl 1 rfl) ?_
      obtain ⟨f15, h16, hsh⟩ := im_bd hsh
      refine im_getR hx hb hts inC_Likely hown hK hH (ci := 3) rfl 0 (by decide) (hts _ wd_134) rfl h16 d_Likely_sourceFor_17 ?_
      refine lv_aload_n hx hb d_Likely_sourceFor_20 rfl (lv_at hl 2 rfl) ?_
      obtain ⟨f17, h18, hsh⟩ := im_bd hsh
      refine im_getNL hx hb hts inC_Core hown hK hH (ci := 1) rfl 0 (by decide) (hN _ nw_92) rfl h18 d_Likely_sourceFor_21 ?_
      refine lv_aload_n hx hb d_Likely_sourceFor_24 rfl (lv_at hl 2 rfl) ?_
      obtain ⟨f19, h20, hsh⟩ := im_bd hsh
      refine im_getNL hx hb hts inC_Core hown hK hH (ci := 1) rfl 1 (by decide) (hN _ nw_94) rfl h20 d_Likely_sourceFor_25 ?_
      refine lv_aload_n hx hb d_Likely_sourceFor_28 rfl (lv_at hl 2 rfl) ?_
      obtain ⟨f21, h22, hsh⟩ := im_bd hsh
      refine im_getNL hx hb hts inC_Core hown hK hH (ci := 1) rfl 2 (by decide) (hN _ nw_96) rfl h22 d_Likely_sourceFor_29 ?_
      obtain ⟨u23, h24, hsh⟩ := im_bd hsh
      obtain ⟨g25, h26⟩ := im_is_s h24
      obtain ⟨v29, w27, h28, hsh⟩ := im_bd2 hsh
      refine im_afterQ (va_runV (As := [.long f17, .long f19, .long f21]) (rest := []) (C := RC_Pairs) ⟨hx, hb, hml, hown, hts⟩ (met_Pairs_coreBehind h28) ⟨(callB_of 3 hts (im_good wd_525) rfl rfl rfl (hts _ wd_5) (hts _ wd_522) (by decide +kernel) ⟨Nat.le_of_ble_eq_true rfl, Nat.le_of_ble_eq_true rfl⟩), hts _ wd_523, hts _ wd_524⟩ (im_preV im_NW_ok hK hN hH (ci := 4) rfl rfl h26 _) rfl rfl hl.1 rfl (lv_room (Nat.le_of_ble_eq_true rfl)) d_Likely_sourceFor_32 ⟨Nat.le_of_ble_eq_true rfl, Nat.le_of_ble_eq_true rfl⟩) hH (fun H locs hH => ?_)
      refine im_astoreQ_n (lv' := [(2, im_rf lo v29), (0, .ref (lo + x0)), (1, .ref (lo + x1))]) hx hb d_Likely_sourceFor_35 rfl hl (by decide) rfl (fun ls hl => ?_)
      exact bk_Likely_sourceFor_36 X x0 x1 v29 w27 hsh H locs ls hH (lv_sub hl [1, 2, 0] rfl)
theorem wd_8 : (Jvm.Cond.initialized "LanguageTags$Likely") ∈ im_T := im_memT (i := 8) (by decide +kernel) (by decide +kernel)
theorem wd_510 : (Jvm.Cond.methodLink "LanguageTags$Likely" (26 : Nat) ({ cls := "LanguageTags$Core", name := "copyFrom", desc := "(LLanguageTags$Core;)V" } : Jvm.MethodName)) ∈ im_T := im_memT (i := 510) (by decide +kernel) (by decide +kernel)
theorem wd_513 : (Jvm.Cond.methodLink "LanguageTags$Likely" (37 : Nat) ({ cls := "LanguageTags$Core", name := "isUnd", desc := "()Z" } : Jvm.MethodName)) ∈ im_T := im_memT (i := 513) (by decide +kernel) (by decide +kernel)
theorem wd_518 : (Jvm.Cond.methodLink "LanguageTags$Likely" (40 : Nat) ({ cls := "LanguageTags$Likely", name := "sourceFor", desc := "(LLanguageTags$Core;)LLanguageTags$Core;" } : Jvm.MethodName)) ∈ im_T := im_memT (i := 518) (by decide +kernel) (by decide +kernel)
theorem wd_520 : (Jvm.Cond.instanceMethod ({ cls := "LanguageTags$Likely", name := "sourceFor", desc := "(LLanguageTags$Core;)LLanguageTags$Core;" } : Jvm.MethodName)) ∈ im_T := im_memT (i := 520) (by decide +kernel) (by decide +kernel)
theorem wd_521 : (Jvm.Cond.code ({ cls := "LanguageTags$Likely", name := "sourceFor", desc := "(LLanguageTags$Core;)LLanguageTags$Core;" } : Jvm.MethodName) prog_5_method_5_code (3 : Nat) (Option.some (Jvm.ClassFile.FieldType.object "LanguageTags$Core"))) ∈ im_T := im_memT (i := 521) (by decide +kernel) (by decide +kernel)
theorem wd_531 : (Jvm.Cond.methodLink "LanguageTags$Likely" (44 : Nat) ({ cls := "LanguageTags$Core", name := "fillFrom", desc := "(LLanguageTags$Core;)V" } : Jvm.MethodName)) ∈ im_T := im_memT (i := 531) (by decide +kernel) (by decide +kernel)
theorem wd_532 : (Jvm.Cond.instanceMethod ({ cls := "LanguageTags$Core", name := "fillFrom", desc := "(LLanguageTags$Core;)V" } : Jvm.MethodName)) ∈ im_T := im_memT (i := 532) (by decide +kernel) (by decide +kernel)
theorem wd_533 : (Jvm.Cond.selects "LanguageTags$Core" ({ cls := "LanguageTags$Core", name := "fillFrom", desc := "(LLanguageTags$Core;)V" } : Jvm.MethodName) ({ cls := "LanguageTags$Core", name := "fillFrom", desc := "(LLanguageTags$Core;)V" } : Jvm.MethodName)) ∈ im_T := im_memT (i := 533) (by decide +kernel) (by decide +kernel)
theorem wd_534 : (Jvm.Cond.code ({ cls := "LanguageTags$Core", name := "fillFrom", desc := "(LLanguageTags$Core;)V" } : Jvm.MethodName) prog_3_method_10_code (2 : Nat) (Option.none : Option Jvm.ClassFile.FieldType)) ∈ im_T := im_memT (i := 534) (by decide +kernel) (by decide +kernel)
theorem d_Likely_maximise_0 : decode c_Likely_maximise 0 = .ok (.aload_n 2, 1) := by decide +kernel
theorem d_Likely_maximise_1 : decode c_Likely_maximise 1 = .ok (.aload_n 1, 1) := by decide +kernel
theorem d_Likely_maximise_2 : decode c_Likely_maximise 2 = .ok (.invokevirtual 26, 3) := by decide +kernel
theorem d_Likely_maximise_5 : decode c_Likely_maximise 5 = .ok (.aload_n 1, 1) := by decide +kernel
theorem d_Likely_maximise_6 : decode c_Likely_maximise 6 = .ok (.invokevirtual 30, 3) := by decide +kernel
theorem d_Likely_maximise_9 : decode c_Likely_maximise 9 = .ok (.ifCond .eq (18), 3) := by decide +kernel
theorem d_Likely_maximise_12 : decode c_Likely_maximise 12 = .ok (.aload_n 1, 1) := by decide +kernel
theorem d_Likely_maximise_13 : decode c_Likely_maximise 13 = .ok (.invokevirtual 34, 3) := by decide +kernel
theorem d_Likely_maximise_16 : decode c_Likely_maximise 16 = .ok (.ifCond .eq (11), 3) := by decide +kernel
theorem d_Likely_maximise_19 : decode c_Likely_maximise 19 = .ok (.aload_n 1, 1) := by decide +kernel
theorem d_Likely_maximise_20 : decode c_Likely_maximise 20 = .ok (.invokevirtual 37, 3) := by decide +kernel
theorem d_Likely_maximise_23 : decode c_Likely_maximise 23 = .ok (.ifCond .ne (4), 3) := by decide +kernel
theorem d_Likely_maximise_26 : decode c_Likely_maximise 26 = .ok (.return_, 1) := by decide +kernel
theorem d_Likely_maximise_27 : decode c_Likely_maximise 27 = .ok (.aload_n 0, 1) := by decide +kernel
theorem d_Likely_maximise_28 : decode c_Likely_maximise 28 = .ok (.aload_n 1, 1) := by decide +kernel
theorem d_Likely_maximise_29 : decode c_Likely_maximise 29 = .ok (.invokevirtual 40, 3) := by decide +kernel
theorem d_Likely_maximise_32 : decode c_Likely_maximise 32 = .ok (.astore_n 3, 1) := by decide +kernel
theorem d_Likely_maximise_33 : decode c_Likely_maximise 33 = .ok (.aload_n 3, 1) := by decide +kernel
theorem d_Likely_maximise_34 : decode c_Likely_maximise 34 = .ok (.ifnull (8), 3) := by decide +kernel
theorem d_Likely_maximise_37 : decode c_Likely_maximise 37 = .ok (.aload_n 2, 1) := by decide +kernel
theorem d_Likely_maximise_38 : decode c_Likely_maximise 38 = .ok (.aload_n 3, 1) := by decide +kernel
theorem d_Likely_maximise_39 : decode c_Likely_maximise 39 = .ok (.invokevirtual 44, 3) := by decide +kernel
theorem d_Likely_maximise_42 : decode c_Likely_maximise 42 = .ok (.return_, 1) := by decide +kernel
def sh_Likely_maximise_42 (F : Nat)  (w : im_W) : Option (im_W) :=
  some w
set_option maxHeartbeats 4000000 in
set_option maxRecDepth 100000 in
theorem bk_Likely_maximise_42 {F : Nat} {r : im_W} (X : im_X D vwCl tA lo im_NW c_Likely_maximise 4 none RC_Likely im_T p s m args meth c)  (w : im_W) (hsh : sh_Likely_maximise_42 F w = some r) : im_WW D vwCl tA lo 4 p l e (im_rm 3 75) s m args below meth c 0 0 (MQ below (im_Post D vwCl tA lo none r) args s 0 0 (fun q => lo ≤ q)) 42 [] [] w := by
  obtain ⟨hx, hb, hr, hts, hown, hlk, hml, hK, hN⟩ := id X
  intro H locs ls hH hl
  unfold sh_Likely_maximise_42 at hsh
  obtain rfl := Option.some.inj hsh
  exact im_vret hx hb hr hlk hH d_Likely_maximise_42
def sh_Likely_maximise_27 (F : Nat) (x0 : Nat) (x1 : Nat) (x2 : Nat) (w : im_W) : Option (im_W) :=
  (im_is w 3 x0).bind fun u1 => im_b2 (sh_Likely_sourceFor F x0 x1 w) fun v7 w5 => (im_nul v7 (sh_Likely_maximise_42 F w5) fun a8 => (im_is w5 1 x2).bind fun u9 => (sh_Core_fillFrom F x2 a8 w5).bind fun w13 => sh_Likely_maximise_42 F w13)
set_option maxHeartbeats 4000000 in
set_option maxRecDepth 100000 in
theorem bk_Likely_maximise_27 {F : Nat} {r : im_W} (X : im_X D vwCl tA lo im_NW c_Likely_maximise 4 none RC_Likely im_T p s m args meth c) (x0 : Nat) (x1 : Nat) (x2 : Nat) (w : im_W) (hsh : sh_Likely_maximise_27 F x0 x1 x2 w = some r) : im_WW D vwCl tA lo 4 p l e (im_rm 3 75) s m args below meth c 0 0 (MQ below (im_Post D vwCl tA lo none r) args s 0 0 (fun q => lo ≤ q)) 27 [(0, .ref (lo + x0)), (1, .ref (lo + x1)), (2, .ref (lo + x2))] [] w := by
  obtain ⟨hx, hb, hr, hts, hown, hlk, hml, hK, hN⟩ := id X
  intro H locs ls hH hl
  unfold sh_Likely_maximise_27 at hsh
  refine lv_aload_n hx hb d_Likely_maximise_27 rfl (lv_at hl 0 rfl) ?_
  refine lv_aload_n hx hb d_Likely_maximise_28 rfl (lv_at hl 1 rfl) ?_
  obtain ⟨u1, h2, hsh⟩ := im_bd hsh
  obtain ⟨g3, h4⟩ := im_is_s h2
  obtain ⟨v7, w5, h6, hsh⟩ := im_bd2 hsh
  refine im_afterQ (va_runV (As := [.ref (lo + x1)]) (rest := []) (C := RC_Likely) ⟨hx, hb, hml, hown, hts⟩ (met_Likely_sourceFor h6) ⟨(callB_of 1 hts (im_good wd_521) rfl rfl rfl (hts _ wd_8) (hts _ wd_518) (by decide +kernel) ⟨Nat.le_of_ble_eq_true rfl, Nat.le_of_ble_eq_true rfl⟩), hts _ wd_520, hts _ sl_Likely_sourceFor⟩ (im_preV im_NW_ok hK hN hH (ci := 3) rfl rfl h4 _) rfl rfl hl.1 rfl (lv_room (Nat.le_of_ble_eq_true rfl)) d_Likely_maximise_29 ⟨Nat.le_of_ble_eq_true rfl, Nat.le_of_ble_eq_true rfl⟩) hH (fun H locs hH => ?_)
  refine im_astoreQ_n (lv' := [(3, im_rf lo v7), (0, .ref (lo + x0)), (1, .ref (lo + x1)), (2, .ref (lo + x2))]) hx hb d_Likely_maximise_32 rfl hl (by decide) rfl (fun ls hl => ?_)
  refine im_aloadQ_n hx hb d_Likely_maximise_33 rfl (lv_at hl 0 rfl) ?_
  cases v7 with
  | none =>
    have hsh := im_nul_n hsh
    refine lv_ifnullN hx hb d_Likely_maximise_34 (tgt := 42) (by decide) ?_
    exact bk_Likely_maximise_42 X w5 hsh H locs ls hH (lv_sub hl [] rfl)
  | some a8 =>
    have hsh := im_nul_s hsh
    refine lv_ifnull hx hb d_Likely_maximise_34 ?_
    refine lv_aload_n hx hb d_Likely_maximise_37 rfl (lv_at hl 3 rfl) ?_
    refine lv_aload_n hx hb d_Likely_maximise_38 rfl (lv_at hl 0 rfl) ?_
    obtain ⟨u9, h10, hsh⟩ := im_bd hsh
    obtain ⟨g11, h12⟩ := im_is_s h10
    obtain ⟨w13, h14, hsh⟩ := im_bd hsh
    refine im_afterV (va_runV (As := [.ref (lo + a8)]) (rest := []) (C := RC_Core) ⟨hx, hb, hml, hown, hts⟩ (met_Core_fillFrom h14) ⟨(callB_of 1 hts (im_good wd_534) rfl rfl rfl (hts _ wd_7) (hts _ wd_531) (by decide +kernel) ⟨Nat.le_of_ble_eq_true rfl, Nat.le_of_ble_eq_true rfl⟩), hts _ wd_532, hts _ wd_533⟩ (im_preV im_NW_ok hK hN hH (ci := 1) rfl rfl h12 _) rfl rfl hl.1 rfl (lv_room (Nat.le_of_ble_eq_true rfl)) d_Likely_maximise_39 ⟨Nat.le_of_ble_eq_true rfl, Nat.le_of_ble_eq_true rfl⟩) hH (fun H locs hH => ?_)
    exact bk_Likely_maximise_42 X w13 hsh H locs ls hH (lv_sub hl [] rfl)
def sh_Likely_maximise (F : Nat) (x0 : Nat) (x1 : Nat) (x2 : Nat) (w : im_W) : Option (im_W) :=
  (im_is w 1 x2).bind fun u1 => (sh_Core_copyFrom F x2 x1 w).bind fun w5 => (im_is w5 1 x1).bind fun u7 => im_b2 (sh_Core_hasScript F x1 w5) fun v13 w11 => (if v13 = 0 then sh_Likely_maximise_27 F x0 x1 x2 w11 else (im_is w11 1 x1).bind fun u14 => im_b2 (sh_Core_hasRegion F x1 w11) fun v20 w18 => (if v20 = 0 then sh_Likely_maximise_27 F x0 x1 x2 w18 else (im_is w18 1 x1).bind fun u21 => im_b2 (sh_Core_isUnd F x1 w18) fun v27 w25 => (if v27 = 0 then some w25 else sh_Likely_maximise_27 F x0 x1 x2 w25)))
set_option maxHeartbeats 4000000 in
set_option maxRecDepth 100000 in
theorem met_Likely_maximise {F : Nat} {x0 : Nat} {x1 : Nat} {x2 : Nat} {w : im_W} {r : im_W} (hsh : sh_Likely_maximise F x0 x1 x2 w = some r) : Met l y_Likely_maximise (Cond.code y_Likely_maximise c_Likely_maximise 4 none :: im_T) (im_rm 3 75) (im_Pre D vwCl tA lo im_NW [.ref (lo + x0), .ref (lo + x1), .ref (lo + x2)] w) (im_Post D vwCl tA lo none r) 0 0 (fun q => lo ≤ q) := by
  refine im_ofW (cc := c_Likely_maximise) (nL := 4) (ret := none) (by decide) (Nat.le_of_ble_eq_true rfl) ?_
  intro p e s m args below meth c X H locs ls hH hl
  obtain ⟨hx, hb, hr, hts, hown, hlk, hml, hK, hN⟩ := id X
  have hl : lv_has ls 4 [(0, .ref (lo + x0)), (1, .ref (lo + x1)), (2, .ref (lo + x2))] := hl
  unfold sh_Likely_maximise at hsh
  refine lv_aload_n hx hb d_Likely_maximise_0 rfl (lv_at hl 2 rfl) ?_
  refine lv_aload_n hx hb d_Likely_maximise_1 rfl (lv_at hl 1 rfl) ?_
  obtain ⟨u1, h2, hsh⟩ := im_bd hsh
  obtain ⟨g3, h4⟩ := im_is_s h2
  obtain ⟨w5, h6, hsh⟩ := im_bd hsh
  refine im_afterV (va_runV (As := [.ref (lo + x1)]) (rest := []) (C := RC_Core) ⟨hx, hb, hml, hown, hts⟩ (met_Core_copyFrom h6) ⟨(callB_of 1 hts (im_good wd_445) rfl rfl rfl (hts _ wd_7) (hts _ wd_510) (by decide +kernel) ⟨Nat.le_of_ble_eq_true rfl, Nat.le_of_ble_eq_true rfl⟩), hts _ wd_443, hts _ wd_444⟩ (im_preV im_NW_ok hK hN hH (ci := 1) rfl rfl h4 _) rfl rfl hl.1 rfl (lv_room (Nat.le_of_ble_eq_true rfl)) d_Likely_maximise_2 ⟨Nat.le_of_ble_eq_true rfl, Nat.le_of_ble_eq_true rfl⟩) hH (fun H locs hH => ?_)
  refine lv_aload_n hx hb d_Likely_maximise_5 rfl (lv_at hl 1 rfl) ?_
  obtain ⟨u7, h8, hsh⟩ := im_bd hsh
  obtain ⟨g9, h10⟩ := im_is_s h8
  obtain ⟨v13, w11, h12, hsh⟩ := im_bd2 hsh
  refine im_afterI (va_runV (As := []) (rest := []) (C := RC_Core) ⟨hx, hb, hml, hown, hts⟩ (met_Core_hasScript h12) ⟨(callB_of 0 hts (im_good wd_399) rfl rfl rfl (hts _ wd_7) (hts _ wd_511) (by decide +kernel) ⟨Nat.le_of_ble_eq_true rfl, Nat.le_of_ble_eq_true rfl⟩), hts _ wd_397, hts _ wd_398⟩ (im_preV im_NW_ok hK hN hH (ci := 1) rfl rfl h10 _) rfl rfl hl.1 rfl (lv_room (Nat.le_of_ble_eq_true rfl)) d_Likely_maximise_6 ⟨Nat.le_of_ble_eq_true rfl, Nat.le_of_ble_eq_true rfl⟩) hH (fun H locs hH => ?_)
  refine lv_if_eq (tgt := 27) hx hb d_Likely_maximise_9 (by decide) (fun cc => ?_) (fun cc => ?_)
  · have hsh := im_it hsh cc
    exact bk_Likely_maximise_27 X x0 x1 x2 w11 hsh H locs ls hH (lv_sub hl [0, 1, 2] rfl)
  · have hsh := im_if hsh cc
    refine lv_aload_n hx hb d_Likely_maximise_12 rfl (lv_at hl 1 rfl) ?_
    obtain ⟨u14, h15, hsh⟩ := im_bd hsh
    obtain ⟨g16, h17⟩ := im_is_s h15
    obtain ⟨v20, w18, h19, hsh⟩ := im_bd2 hsh
    refine im_afterI (va_runV (As := []) (rest := []) (C := RC_Core) ⟨hx, hb, hml, hown, hts⟩ (met_Core_hasRegion h19) ⟨(callB_of 0 hts (im_good wd_403) rfl rfl rfl (hts _ wd_7) (hts _ wd_512) (by decide +kernel) ⟨Nat.le_of_ble_eq_true rfl, Nat.le_of_ble_eq_true rfl⟩), hts _ wd_401, hts _ wd_402⟩ (im_preV im_NW_ok hK hN hH (ci := 1) rfl rfl h17 _) rfl rfl hl.1 rfl (lv_room (Nat.le_of_ble_eq_true rfl)) d_Likely_maximise_13 ⟨Nat.le_of_ble_eq_true rfl, Nat.le_of_ble_eq_true rfl⟩) hH (fun H locs hH => ?_)
    refine lv_if_eq (tgt := 27) hx hb d_Likely_maximise_16 (by decide) (fun cc => ?_) (fun cc => ?_)
    · have hsh := im_it hsh cc
      exact bk_Likely_maximise_27 X x0 x1 x2 w18 hsh H locs ls hH (lv_sub hl [0, 1, 2] rfl)
    · have hsh := im_if hsh cc
      refine lv_aload_n hx hb d_Likely_maximise_19 rfl (lv_at hl 1 rfl) ?_
      obtain ⟨u21, h22, hsh⟩ := im_bd hsh
      obtain ⟨g23, h24⟩ := im_is_s h22
      obtain ⟨v27, w25, h26, hsh⟩ := im_bd2 hsh
      refine im_afterI (va_runV (As := []) (rest := []) (C := RC_Core) ⟨hx, hb, hml, hown, hts⟩ (met_Core_isUnd h26) ⟨(callB_of 0 hts (im_good wd_516) rfl rfl rfl (hts _ wd_7) (hts _ wd_513) (by decide +kernel) ⟨Nat.le_of_ble_eq_true rfl, Nat.le_of_ble_eq_true rfl⟩), hts _ wd_514, hts _ wd_515⟩ (im_preV im_NW_ok hK hN hH (ci := 1) rfl rfl h24 _) rfl rfl hl.1 rfl (lv_room (Nat.le_of_ble_eq_true rfl)) d_Likely_maximise_20 ⟨Nat.le_of_ble_eq_true rfl, Nat.le_of_ble_eq_true rfl⟩) hH (fun H locs hH => ?_)
      refine lv_if_ne (tgt := 27) hx hb d_Likely_maximise_23 (by decide) (fun cc => ?_) (fun cc => ?_)
      · have hsh := im_if hsh cc
        exact bk_Likely_maximise_27 X x0 x1 x2 w25 hsh H locs ls hH (lv_sub hl [0, 1, 2] rfl)
      · have hsh := im_it hsh cc
        obtain rfl := Option.some.inj hsh
        exact im_vret hx hb hr hlk hH d_Likely_maximise_26
theorem wd_135 : (Jvm.Cond.fieldLink "LanguageTags$Likely" (16 : Nat) "LanguageTags$Likely" "whole" "LLanguageTags$Core;") ∈ im_T := im_memT (i := 135) (by decide +kernel) (by decide +kernel)
theorem wd_136 : (Jvm.Cond.fieldLink "LanguageTags$Likely" (20 : Nat) "LanguageTags$Likely" "trial" "LLanguageTags$Core;") ∈ im_T := im_memT (i := 136) (by decide +kernel) (by decide +kernel)
theorem wd_137 : (Jvm.Cond.fieldLink "LanguageTags$Likely" (23 : Nat) "LanguageTags$Likely" "trialWhole" "LLanguageTags$Core;") ∈ im_T := im_memT (i := 137) (by decide +kernel) (by decide +kernel)
theorem wd_507 : (Jvm.Cond.instanceMethod ({ cls := "LanguageTags$Likely", name := "maximise", desc := "(LLanguageTags$Core;LLanguageTags$Core;)V" } : Jvm.MethodName)) ∈ im_T := im_memT (i := 507) (by decide +kernel) (by decide +kernel)
theorem wd_508 : (Jvm.Cond.selects "LanguageTags$Likely" ({ cls := "LanguageTags$Likely", name := "maximise", desc := "(LLanguageTags$Core;LLanguageTags$Core;)V" } : Jvm.MethodName) ({ cls := "LanguageTags$Likely", name := "maximise", desc := "(LLanguageTags$Core;LLanguageTags$Core;)V" } : Jvm.MethodName)) ∈ im_T := im_memT (i := 508) (by decide +kernel) (by decide +kernel)
theorem wd_509 : (Jvm.Cond.code ({ cls := "LanguageTags$Likely", name := "maximise", desc := "(LLanguageTags$Core;LLanguageTags$Core;)V" } : Jvm.MethodName) prog_5_method_2_code (4 : Nat) (Option.none : Option Jvm.ClassFile.FieldType)) ∈ im_T := im_memT (i := 509) (by decide +kernel) (by decide +kernel)
theorem wd_540 : (Jvm.Cond.methodLink "LanguageTags$Likely" (47 : Nat) ({ cls := "LanguageTags$Likely", name := "maximise", desc := "(LLanguageTags$Core;LLanguageTags$Core;)V" } : Jvm.MethodName)) ∈ im_T := im_memT (i := 540) (by decide +kernel) (by decide +kernel)
theorem wd_545 : (Jvm.Cond.methodLink "LanguageTags$Likely" (67 : Nat) ({ cls := "LanguageTags$Core", name := "assign", desc := "(JJJ)V" } : Jvm.MethodName)) ∈ im_T := im_memT (i := 545) (by decide +kernel) (by decide +kernel)
theorem wd_546 : (Jvm.Cond.methodLink "LanguageTags$Likely" (71 : Nat) ({ cls := "LanguageTags$Core", name := "isSame", desc := "(LLanguageTags$Core;)Z" } : Jvm.MethodName)) ∈ im_T := im_memT (i := 546) (by decide +kernel) (by decide +kernel)
theorem wd_547 : (Jvm.Cond.instanceMethod ({ cls := "LanguageTags$Core", name := "isSame", desc := "(LLanguageTags$Core;)Z" } : Jvm.MethodName)) ∈ im_T := im_memT (i := 547) (by decide +kernel) (by decide +kernel)
theorem wd_548 : (Jvm.Cond.selects "LanguageTags$Core" ({ cls := "LanguageTags$Core", name := "isSame", desc := "(LLanguageTags$Core;)Z" } : Jvm.MethodName) ({ cls := "LanguageTags$Core", name := "isSame", desc := "(LLanguageTags$Core;)Z" } : Jvm.MethodName)) ∈ im_T := im_memT (i := 548) (by decide +kernel) (by decide +kernel)
theorem wd_549 : (Jvm.Cond.code ({ cls := "LanguageTags$Core", name := "isSame", desc := "(LLanguageTags$Core;)Z" } : Jvm.MethodName) prog_3_method_9_code (2 : Nat) (Option.some Jvm.ClassFile.FieldType.boolean)) ∈ im_T := im_memT (i := 549) (by decide +kernel) (by decide +kernel)
theorem d_Likely_isEnough_0 : decode c_Likely_isEnough 0 = .ok (.aload_n 0, 1) := by decide +kernel
theorem d_Likely_isEnough_1 : decode c_Likely_isEnough 1 = .ok (.getfield 20, 3) := by decide +kernel
theorem d_Likely_isEnough_4 : decode c_Likely_isEnough 4 = .ok (.aload_n 0, 1) := by decide +kernel
theorem d_Likely_isEnough_5 : decode c_Likely_isEnough 5 = .ok (.getfield 16, 3) := by decide +kernel
theorem d_Likely_isEnough_8 : decode c_Likely_isEnough 8 = .ok (.getfield 64, 3) := by decide +kernel
theorem d_Likely_isEnough_11 : decode c_Likely_isEnough 11 = .ok (.lload_n 1, 1) := by decide +kernel
theorem d_Likely_isEnough_12 : decode c_Likely_isEnough 12 = .ok (.lload_n 3, 1) := by decide +kernel
theorem d_Likely_isEnough_13 : decode c_Likely_isEnough 13 = .ok (.invokevirtual 67, 3) := by decide +kernel
theorem d_Likely_isEnough_16 : decode c_Likely_isEnough 16 = .ok (.aload_n 0, 1) := by decide +kernel
theorem d_Likely_isEnough_17 : decode c_Likely_isEnough 17 = .ok (.aload_n 0, 1) := by decide +kernel
theorem d_Likely_isEnough_18 : decode c_Likely_isEnough 18 = .ok (.getfield 20, 3) := by decide +kernel
theorem d_Likely_isEnough_21 : decode c_Likely_isEnough 21 = .ok (.aload_n 0, 1) := by decide +kernel
theorem d_Likely_isEnough_22 : decode c_Likely_isEnough 22 = .ok (.getfield 23, 3) := by decide +kernel
theorem d_Likely_isEnough_25 : decode c_Likely_isEnough 25 = .ok (.invokevirtual 47, 3) := by decide +kernel
theorem d_Likely_isEnough_28 : decode c_Likely_isEnough 28 = .ok (.aload_n 0, 1) := by decide +kernel
theorem d_Likely_isEnough_29 : decode c_Likely_isEnough 29 = .ok (.getfield 23, 3) := by decide +kernel
theorem d_Likely_isEnough_32 : decode c_Likely_isEnough 32 = .ok (.aload_n 0, 1) := by decide +kernel
theorem d_Likely_isEnough_33 : decode c_Likely_isEnough 33 = .ok (.getfield 16, 3) := by decide +kernel
theorem d_Likely_isEnough_36 : decode c_Likely_isEnough 36 = .ok (.invokevirtual 71, 3) := by decide +kernel
theorem d_Likely_isEnough_39 : decode c_Likely_isEnough 39 = .ok (.ireturn, 1) := by decide +kernel
def sh_Likely_isEnough (F : Nat) (x0 : Nat) (x1 : Int64) (x3 : Int64) (w : im_W) : Option (Int32 × im_W) :=
  (im_gR w 3 x0 2).bind fun f1 => (im_gR w 3 x0 1).bind fun f3 => (im_gL w 1 f3 0).bind fun f5 => (im_is w 1 f1).bind fun u7 => (sh_Core_assign F f1 f5 x1 x3 w).bind fun w11 => (im_gR w11 3 x0 2).bind fun f13 => (im_gR w11 3 x0 3).bind fun f15 => (im_is w11 3 x0).bind fun u17 => (sh_Likely_maximise F x0 f13 f15 w11).bind fun w21 => (im_gR w21 3 x0 3).bind fun f23 => (im_gR w21 3 x0 1).bind fun f25 => (im_is w21 1 f23).bind fun u27 => im_b2 (sh_Core_isSame F f23 f25 w21) fun v33 w31 => im_rz v33 w31
set_option maxHeartbeats 4000000 in
set_option maxRecDepth 100000 in
theorem met_Likely_isEnough {F : Nat} {x0 : Nat} {x1 : Int64} {x3 : Int64} {w : im_W} {r : Int32 × im_W} (hsh : sh_Likely_isEnough F x0 x1 x3 w = some r) : Met l y_Likely_isEnough (Cond.code y_Likely_isEnough c_Likely_isEnough 5 (some .boolean) :: im_T) (im_rm 4 98) (im_Pre D vwCl tA lo im_NW [.ref (lo + x0), .long x1, .long x3] w) (im_Post D vwCl tA lo (some (.int r.1)) r.2) 0 0 (fun q => lo ≤ q) := by
  refine im_ofW (cc := c_Likely_isEnough) (nL := 5) (ret := (some .boolean)) (by decide) (Nat.le_of_ble_eq_true rfl) ?_
  intro p e s m args below meth c X H locs ls hH hl
  obtain ⟨hx, hb, hr, hts, hown, hlk, hml, hK, hN⟩ := id X
  have hl : lv_has ls 5 [(0, .ref (lo + x0)), (1, .long x1), (3, .long x3)] := hl
  unfold sh_Likely_isEnough at hsh
  refine lv_aload_n hx hb d_Likely_isEnough_0 rfl (lv_at hl 0 rfl) ?_
  obtain ⟨f1, h2, hsh⟩ := im_bd hsh
  refine im_getR hx hb hts inC_Likely hown hK hH (ci := 3) rfl 2 (by decide) (hts _ wd_136) rfl h2 d_Likely_isEnough_1 ?_
  refine lv_aload_n hx hb d_Likely_isEnough_4 rfl (lv_at hl 0 rfl) ?_
  obtain ⟨f3, h4, hsh⟩ := im_bd hsh
  refine im_getR hx hb hts inC_Likely hown hK hH (ci := 3) rfl 1 (by decide) (hts _ wd_135) rfl h4 d_Likely_isEnough_5 ?_
  obtain ⟨f5, h6, hsh⟩ := im_bd hsh
  refine im_getNL hx hb hts inC_Core hown hK hH (ci := 1) rfl 0 (by decide) (hN _ nw_92) rfl h6 d_Likely_isEnough_8 ?_
  refine lv_lload_n hx hb d_Likely_isEnough_11 rfl (lv_at hl 1 rfl) ?_
  refine lv_lload_n hx hb d_Likely_isEnough_12 rfl (lv_at hl 2 rfl) ?_
  obtain ⟨u7, h8, hsh⟩ := im_bd hsh
  obtain ⟨g9, h10⟩ := im_is_s h8
  obtain ⟨w11, h12, hsh⟩ := im_bd hsh
  refine im_afterV (va_runV (As := [.long f5, .long x1, .long x3]) (rest := []) (C := RC_Core) ⟨hx, hb, hml, hown, hts⟩ (met_Core_assign h12) ⟨(callB_of 3 hts (im_good wd_391) rfl rfl rfl (hts _ wd_7) (hts _ wd_545) (by decide +kernel) ⟨Nat.le_of_ble_eq_true rfl, Nat.le_of_ble_eq_true rfl⟩), hts _ wd_389, hts _ wd_390⟩ (im_preV im_NW_ok hK hN hH (ci := 1) rfl rfl h10 _) rfl rfl hl.1 rfl (lv_room (Nat.le_of_ble_eq_true rfl)) d_Likely_isEnough_13 ⟨Nat.le_of_ble_eq_true rfl, Nat.le_of_ble_eq_true rfl⟩) hH (fun H locs hH => ?_)
  refine lv_aload_n hx hb d_Likely_isEnough_16 rfl (lv_at hl 0 rfl) ?_
  refine lv_aload_n hx hb d_Likely_isEnough_17 rfl (lv_at hl 0 rfl) ?_
  obtain ⟨f13, h14, hsh⟩ := im_bd hsh
  refine im_getR hx hb hts inC_Likely hown hK hH (ci := 3) rfl 2 (by decide) (hts _ wd_136) rfl h14 d_Likely_isEnough_18 ?_
  refine lv_aload_n hx hb d_Likely_isEnough_21 rfl (lv_at hl 0 rfl) ?_
  obtain ⟨f15, h16, hsh⟩ := im_bd hsh
  refine im_getR hx hb hts inC_Likely hown hK hH (ci := 3) rfl 3 (by decide) (hts _ wd_137) rfl h16 d_Likely_isEnough_22 ?_
  obtain ⟨u17, h18, hsh⟩ := im_bd hsh
  obtain ⟨g19, h20⟩ := im_is_s h18
  obtain ⟨w21, h22, hsh⟩ := im_bd hsh
  refine im_afterV (va_runV (As := [.ref (lo + f13), .ref (lo + f15)]) (rest := []) (C := RC_Likely) ⟨hx, hb, hml, hown, hts⟩ (met_Likely_maximise h22) ⟨(callB_of 2 hts (im_good wd_509) rfl rfl rfl (hts _ wd_8) (hts _ wd_540) (by decide +kernel) ⟨Nat.le_of_ble_eq_true rfl, Nat.le_of_ble_eq_true rfl⟩), hts _ wd_507, hts _ wd_508⟩ (im_preV im_NW_ok hK hN hH (ci := 3) rfl rfl h20 _) rfl rfl hl.1 rfl (lv_room (Nat.le_of_ble_eq_true rfl)) d_Likely_isEnough_25 ⟨Nat.le_of_ble_eq_true rfl, Nat.le_of_ble_eq_true rfl⟩) hH (fun H locs hH => ?_)
  refine lv_aload_n hx hb d_Likely_isEnough_28 rfl (lv_at hl 0 rfl) ?_
  obtain ⟨f23, h24, hsh⟩ := im_bd hsh
  refine im_getR hx hb hts inC_Likely hown hK hH (ci := 3) rfl 3 (by decide) (hts _ wd_137) rfl h24 d_Likely_isEnough_29 ?_
  refine lv_aload_n hx hb d_Likely_isEnough_32 rfl (lv_at hl 0 rfl) ?_
  obtain ⟨f25, h26, hsh⟩ := im_bd hsh
  refine im_getR hx hb hts inC_Likely hown hK hH (ci := 3) rfl 1 (by decide) (hts _ wd_135) rfl h26 d_Likely_isEnough_33 ?_
  obtain ⟨u27, h28, hsh⟩ := im_bd hsh
  obtain ⟨g29, h30⟩ := im_is_s h28
  obtain ⟨v33, w31, h32, hsh⟩ := im_bd2 hsh
  refine im_afterI (va_runV (As := [.ref (lo + f25)]) (rest := []) (C := RC_Core) ⟨hx, hb, hml, hown, hts⟩ (met_Core_isSame h32) ⟨(callB_of 1 hts (im_good wd_549) rfl rfl rfl (hts _ wd_7) (hts _ wd_546) (by decide +kernel) ⟨Nat.le_of_ble_eq_true rfl, Nat.le_of_ble_eq_true rfl⟩), hts _ wd_547, hts _ wd_548⟩ (im_preV im_NW_ok hK hN hH (ci := 1) rfl rfl h30 _) rfl rfl hl.1 rfl (lv_room (Nat.le_of_ble_eq_true rfl)) d_Likely_isEnough_36 ⟨Nat.le_of_ble_eq_true rfl, Nat.le_of_ble_eq_true rfl⟩) hH (fun H locs hH => ?_)
  obtain ⟨rfl, hn⟩ := im_rz_s hsh
  exact im_zret hx hb hr hlk hn hH d_Likely_isEnough_39
theorem wd_541 : (Jvm.Cond.methodLink "LanguageTags$Likely" (53 : Nat) ({ cls := "LanguageTags$Likely", name := "isEnough", desc := "(JJ)Z" } : Jvm.MethodName)) ∈ im_T := im_memT (i := 541) (by decide +kernel) (by decide +kernel)
theorem wd_543 : (Jvm.Cond.instanceMethod ({ cls := "LanguageTags$Likely", name := "isEnough", desc := "(JJ)Z" } : Jvm.MethodName)) ∈ im_T := im_memT (i := 543) (by decide +kernel) (by decide +kernel)
theorem wd_544 : (Jvm.Cond.code ({ cls := "LanguageTags$Likely", name := "isEnough", desc := "(JJ)Z" } : Jvm.MethodName) prog_5_method_4_code (5 : Nat) (Option.some Jvm.ClassFile.FieldType.boolean)) ∈ im_T := im_memT (i := 544) (by decide +kernel) (by decide +kernel)
theorem d_Likely_minimise_0 : decode c_Likely_minimise 0 = .ok (.aload_n 0, 1) := by decide +kernel
theorem d_Likely_minimise_1 : decode c_Likely_minimise 1 = .ok (.aload_n 1, 1) := by decide +kernel
theorem d_Likely_minimise_2 : decode c_Likely_minimise 2 = .ok (.aload_n 0, 1) := by decide +kernel
theorem d_Likely_minimise_3 : decode c_Likely_minimise 3 = .ok (.getfield 16, 3) := by decide +kernel
theorem d_Likely_minimise_6 : decode c_Likely_minimise 6 = .ok (.invokevirtual 47, 3) := by decide +kernel
theorem d_Likely_minimise_9 : decode c_Likely_minimise 9 = .ok (.aload_n 2, 1) := by decide +kernel
theorem d_Likely_minimise_10 : decode c_Likely_minimise 10 = .ok (.aload_n 0, 1) := by decide +kernel
theorem d_Likely_minimise_11 : decode c_Likely_minimise 11 = .ok (.getfield 16, 3) := by decide +kernel
theorem d_Likely_minimise_14 : decode c_Likely_minimise 14 = .ok (.invokevirtual 26, 3) := by decide +kernel
theorem d_Likely_minimise_17 : decode c_Likely_minimise 17 = .ok (.aload_n 0, 1) := by decide +kernel
theorem d_Likely_minimise_18 : decode c_Likely_minimise 18 = .ok (.lconst 0, 1) := by decide +kernel
theorem d_Likely_minimise_19 : decode c_Likely_minimise 19 = .ok (.lconst 0, 1) := by decide +kernel
theorem d_Likely_minimise_20 : decode c_Likely_minimise 20 = .ok (.invokevirtual 53, 3) := by decide +kernel
theorem d_Likely_minimise_23 : decode c_Likely_minimise 23 = .ok (.ifCond .ne (53), 3) := by decide +kernel
theorem d_Likely_minimise_26 : decode c_Likely_minimise 26 = .ok (.aload_n 0, 1) := by decide +kernel
theorem d_Likely_minimise_27 : decode c_Likely_minimise 27 = .ok (.getfield 16, 3) := by decide +kernel
theorem d_Likely_minimise_30 : decode c_Likely_minimise 30 = .ok (.invokevirtual 34, 3) := by decide +kernel
theorem d_Likely_minimise_33 : decode c_Likely_minimise 33 = .ok (.ifCond .eq (18), 3) := by decide +kernel
theorem d_Likely_minimise_36 : decode c_Likely_minimise 36 = .ok (.aload_n 0, 1) := by decide +kernel
theorem d_Likely_minimise_37 : decode c_Likely_minimise 37 = .ok (.lconst 0, 1) := by decide +kernel
theorem d_Likely_minimise_38 : decode c_Likely_minimise 38 = .ok (.aload_n 0, 1) := by decide +kernel
theorem d_Likely_minimise_39 : decode c_Likely_minimise 39 = .ok (.getfield 16, 3) := by decide +kernel
theorem d_Likely_minimise_42 : decode c_Likely_minimise 42 = .ok (.getfield 57, 3) := by decide +kernel
theorem d_Likely_minimise_45 : decode c_Likely_minimise 45 = .ok (.invokevirtual 53, 3) := by decide +kernel
theorem d_Likely_minimise_48 : decode c_Likely_minimise 48 = .ok (.ifCond .ne (28), 3) := by decide +kernel
theorem d_Likely_minimise_51 : decode c_Likely_minimise 51 = .ok (.aload_n 0, 1) := by decide +kernel
theorem d_Likely_minimise_52 : decode c_Likely_minimise 52 = .ok (.getfield 16, 3) := by decide +kernel
theorem d_Likely_minimise_55 : decode c_Likely_minimise 55 = .ok (.invokevirtual 30, 3) := by decide +kernel
theorem d_Likely_minimise_58 : decode c_Likely_minimise 58 = .ok (.ifCond .eq (26), 3) := by decide +kernel
theorem d_Likely_minimise_61 : decode c_Likely_minimise 61 = .ok (.aload_n 0, 1) := by decide +kernel
theorem d_Likely_minimise_62 : decode c_Likely_minimise 62 = .ok (.aload_n 0, 1) := by decide +kernel
theorem d_Likely_minimise_63 : decode c_Likely_minimise 63 = .ok (.getfield 16, 3) := by decide +kernel
theorem d_Likely_minimise_66 : decode c_Likely_minimise 66 = .ok (.getfield 61, 3) := by decide +kernel
theorem d_Likely_minimise_69 : decode c_Likely_minimise 69 = .ok (.lconst 0, 1) := by decide +kernel
theorem d_Likely_minimise_70 : decode c_Likely_minimise 70 = .ok (.invokevirtual 53, 3) := by decide +kernel
theorem d_Likely_minimise_73 : decode c_Likely_minimise 73 = .ok (.ifCond .eq (11), 3) := by decide +kernel
theorem d_Likely_minimise_76 : decode c_Likely_minimise 76 = .ok (.aload_n 2, 1) := by decide +kernel
theorem d_Likely_minimise_77 : decode c_Likely_minimise 77 = .ok (.aload_n 0, 1) := by decide +kernel
theorem d_Likely_minimise_78 : decode c_Likely_minimise 78 = .ok (.getfield 20, 3) := by decide +kernel
theorem d_Likely_minimise_81 : decode c_Likely_minimise 81 = .ok (.invokevirtual 26, 3) := by decide +kernel
theorem d_Likely_minimise_84 : decode c_Likely_minimise 84 = .ok (.return_, 1) := by decide +kernel
def sh_Likely_minimise_84 (F : Nat)  (w : im_W) : Option (im_W) :=
  some w
set_option maxHeartbeats 4000000 in
set_option maxRecDepth 100000 in
theorem bk_Likely_minimise_84 {F : Nat} {r : im_W} (X : im_X D vwCl tA lo im_NW c_Likely_minimise 3 none RC_Likely im_T p s m args meth c)  (w : im_W) (hsh : sh_Likely_minimise_84 F w = some r) : im_WW D vwCl tA lo 3 p l e (im_rm 5 122) s m args below meth c 0 0 (MQ below (im_Post D vwCl tA lo none r) args s 0 0 (fun q => lo ≤ q)) 84 [] [] w := by
  obtain ⟨hx, hb, hr, hts, hown, hlk, hml, hK, hN⟩ := id X
  intro H locs ls hH hl
  unfold sh_Likely_minimise_84 at hsh
  obtain rfl := Option.some.inj hsh
  exact im_vret hx hb hr hlk hH d_Likely_minimise_84
def sh_Likely_minimise_76 (F : Nat) (x0 : Nat) (x2 : Nat) (w : im_W) : Option (im_W) :=
  (im_gR w 3 x0 2).bind fun f1 => (im_is w 1 x2).bind fun u3 => (sh_Core_copyFrom F x2 f1 w).bind fun w7 => sh_Likely_minimise_84 F w7
set_option maxHeartbeats 4000000 in
set_option maxRecDepth 100000 in
theorem bk_Likely_minimise_76 {F : Nat} {r : im_W} (X : im_X D vwCl tA lo im_NW c_Likely_minimise 3 none RC_Likely im_T p s m args meth c) (x0 : Nat) (x2 : Nat) (w : im_W) (hsh : sh_Likely_minimise_76 F x0 x2 w = some r) : im_WW D vwCl tA lo 3 p l e (im_rm 5 122) s m args below meth c 0 0 (MQ below (im_Post D vwCl tA lo none r) args s 0 0 (fun q => lo ≤ q)) 76 [(0, .ref (lo + x0)), (2, .ref (lo + x2))] [] w := by
  obtain ⟨hx, hb, hr, hts, hown, hlk, hml, hK, hN⟩ := id X
  intro H locs ls hH hl
  unfold sh_Likely_minimise_76 at hsh
  refine lv_aload_n hx hb d_Likely_minimise_76 rfl (lv_at hl 1 rfl) ?_
  refine lv_aload_n hx hb d_Likely_minimise_77 rfl (lv_at hl 0 rfl) ?_
  obtain ⟨f1, h2, hsh⟩ := im_bd hsh
  refine im_getR hx hb hts inC_Likely hown hK hH (ci := 3) rfl 2 (by decide) (hts _ wd_136) rfl h2 d_Likely_minimise_78 ?_
  obtain ⟨u3, h4, hsh⟩ := im_bd hsh
  obtain ⟨g5, h6⟩ := im_is_s h4
  obtain ⟨w7, h8, hsh⟩ := im_bd hsh
  refine im_afterV (va_runV (As := [.ref (lo + f1)]) (rest := []) (C := RC_Core) ⟨hx, hb, hml, hown, hts⟩ (met_Core_copyFrom h8) ⟨(callB_of 1 hts (im_good wd_445) rfl rfl rfl (hts _ wd_7) (hts _ wd_510) (by decide +kernel) ⟨Nat.le_of_ble_eq_true rfl, Nat.le_of_ble_eq_true rfl⟩), hts _ wd_443, hts _ wd_444⟩ (im_preV im_NW_ok hK hN hH (ci := 1) rfl rfl h6 _) rfl rfl hl.1 rfl (lv_room (Nat.le_of_ble_eq_true rfl)) d_Likely_minimise_81 ⟨Nat.le_of_ble_eq_true rfl, Nat.le_of_ble_eq_true rfl⟩) hH (fun H locs hH => ?_)
  exact bk_Likely_minimise_84 X w7 hsh H locs ls hH (lv_sub hl [] rfl)
def sh_Likely_minimise_51 (F : Nat) (x0 : Nat) (x2 : Nat) (w : im_W) : Option (im_W) :=
  (im_gR w 3 x0 1).bind fun f1 => (im_is w 1 f1).bind fun u3 => im_b2 (sh_Core_hasScript F f1 w) fun v9 w7 => (if v9 = 0 then sh_Likely_minimise_84 F w7 else (im_gR w7 3 x0 1).bind fun f10 => (im_gL w7 1 f10 1).bind fun f12 => (im_is w7 3 x0).bind fun u14 => im_b2 (sh_Likely_isEnough F x0 f12 (0 : Int64) w7) fun v20 w18 => (if v20 = 0 then sh_Likely_minimise_84 F w18 else sh_Likely_minimise_76 F x0 x2 w18))
set_option maxHeartbeats 4000000 in
set_option maxRecDepth 100000 in
theorem bk_Likely_minimise_51 {F : Nat} {r : im_W} (X : im_X D vwCl tA lo im_NW c_Likely_minimise 3 none RC_Likely im_T p s m args meth c) (x0 : Nat) (x2 : Nat) (w : im_W) (hsh : sh_Likely_minimise_51 F x0 x2 w = some r) : im_WW D vwCl tA lo 3 p l e (im_rm 5 122) s m args below meth c 0 0 (MQ below (im_Post D vwCl tA lo none r) args s 0 0 (fun q => lo ≤ q)) 51 [(0, .ref (lo + x0)), (2, .ref (lo + x2))] [] w := by
  obtain ⟨hx, hb, hr, hts, hown, hlk, hml, hK, hN⟩ := id X
  intro H locs ls hH hl
  unfold sh_Likely_minimise_51 at hsh
  refine lv_aload_n hx hb d_Likely_minimise_51 rfl (lv_at hl 0 rfl) ?_
  obtain ⟨f1, h2, hsh⟩ := im_bd hsh
  refine im_getR hx hb hts inC_Likely hown hK hH (ci := 3) rfl 1 (by decide) (hts _ wd_135) rfl h2 d_Likely_minimise_52 ?_
  obtain ⟨u3, h4, hsh⟩ := im_bd hsh
  obtain ⟨g5, h6⟩ := im_is_s h4
  obtain ⟨v9, w7, h8, hsh⟩ := im_bd2 hsh
  refine im_afterI (va_runV (As := []) (rest := []) (C := RC_Core) ⟨hx, hb, hml, hown, hts⟩ (met_Core_hasScript h8) ⟨(callB_of 0 hts (im_good wd_399) rfl rfl rfl (hts _ wd_7) (hts _ wd_511) (by decide +kernel) ⟨Nat.le_of_ble_eq_true rfl, Nat.le_of_ble_eq_true rfl⟩), hts _ wd_397, hts _ wd_398⟩ (im_preV im_NW_ok hK hN hH (ci := 1) rfl rfl h6 _) rfl rfl hl.1 rfl (lv_room (Nat.le_of_ble_eq_true rfl)) d_Likely_minimise_55 ⟨Nat.le_of_ble_eq_true rfl, Nat.le_of_ble_eq_true rfl⟩) hH (fun H locs hH => ?_)
  refine lv_if_eq (tgt := 84) hx hb d_Likely_minimise_58 (by decide) (fun cc => ?_) (fun cc => ?_)
  · have hsh := im_it hsh cc
    exact bk_Likely_minimise_84 X w7 hsh H locs ls hH (lv_sub hl [] rfl)
  · have hsh := im_if hsh cc
    refine lv_aload_n hx hb d_Likely_minimise_61 rfl (lv_at hl 0 rfl) ?_
    refine lv_aload_n hx hb d_Likely_minimise_62 rfl (lv_at hl 0 rfl) ?_
    obtain ⟨f10, h11, hsh⟩ := im_bd hsh
    refine im_getR hx hb hts inC_Likely hown hK hH (ci := 3) rfl 1 (by decide) (hts _ wd_135) rfl h11 d_Likely_minimise_63 ?_
    obtain ⟨f12, h13, hsh⟩ := im_bd hsh
    refine im_getNL hx hb hts inC_Core hown hK hH (ci := 1) rfl 1 (by decide) (hN _ nw_94) rfl h13 d_Likely_minimise_66 ?_
    refine lv_lconst (v := 0) hx hb d_Likely_minimise_69 (by decide) ?_
    obtain ⟨u14, h15, hsh⟩ := im_bd hsh
    obtain ⟨g16, h17⟩ := im_is_s h15
    obtain ⟨v20, w18, h19, hsh⟩ := im_bd2 hsh
    refine im_afterI (va_runV (As := [.long f12, .long (0 : Int64)]) (rest := []) (C := RC_Likely) ⟨hx, hb, hml, hown, hts⟩ (met_Likely_isEnough h19) ⟨(callB_of 2 hts (im_good wd_544) rfl rfl rfl (hts _ wd_8) (hts _ wd_541) (by decide +kernel) ⟨Nat.le_of_ble_eq_true rfl, Nat.le_of_ble_eq_true rfl⟩), hts _ wd_543, hts _ sl_Likely_isEnough⟩ (im_preV im_NW_ok hK hN hH (ci := 3) rfl rfl h17 _) rfl rfl hl.1 rfl (lv_room (Nat.le_of_ble_eq_true rfl)) d_Likely_minimise_70 ⟨Nat.le_of_ble_eq_true rfl, Nat.le_of_ble_eq_true rfl⟩) hH (fun H locs hH => ?_)
    refine lv_if_eq (tgt := 84) hx hb d_Likely_minimise_73 (by decide) (fun cc => ?_) (fun cc => ?_)
    · have hsh := im_it hsh cc
      exact bk_Likely_minimise_84 X w18 hsh H locs ls hH (lv_sub hl [] rfl)
    · have hsh := im_if hsh cc
      exact bk_Likely_minimise_76 X x0 x2 w18 hsh H locs ls hH (lv_sub hl [0, 1] rfl)
def sh_Likely_minimise (F : Nat) (x0 : Nat) (x1 : Nat) (x2 : Nat) (w : im_W) : Option (im_W) :=
  (im_gR w 3 x0 1).bind fun f1 => (im_is w 3 x0).bind fun u3 => (sh_Likely_maximise F x0 x1 f1 w).bind fun w7 => (im_gR w7 3 x0 1).bind fun f9 => (im_is w7 1 x2).bind fun u11 => (sh_Core_copyFrom F x2 f9 w7).bind fun w15 => (im_is w15 3 x0).bind fun u17 => im_b2 (sh_Likely_isEnough F x0 (0 : Int64) (0 : Int64) w15) fun v23 w21 => (if v23 = 0 then (im_gR w21 3 x0 1).bind fun f24 => (im_is w21 1 f24).bind fun u26 => im_b2 (sh_Core_hasRegion F f24 w21) fun v32 w30 => (if v32 = 0 then sh_Likely_minimise_51 F x0 x2 w30 else (im_gR w30 3 x0 1).bind fun f33 => (im_gL w30 1 f33 2).bind fun f35 => (im_is w30 3 x0).bind fun u37 => im_b2 (sh_Likely_isEnough F x0 (0 : Int64) f35 w30) fun v43 w41 => (if v43 = 0 then sh_Likely_minimise_51 F x0 x2 w41 else sh_Likely_minimise_76 F x0 x2 w41)) else sh_Likely_minimise_76 F x0 x2 w21)
set_option maxHeartbeats 4000000 in
set_option maxRecDepth 100000 in
theorem met_Likely_minimise {F : Nat} {x0 : Nat} {x1 : Nat} {x2 : Nat} {w : im_W} {r : im_W} (hsh : sh_Likely_minimise F x0 x1 x2 w = some r) : Met l y_Likely_minimise (Cond.code y_Likely_minimise c_Likely_minimise 3 none :: im_T) (im_rm 5 122) (im_Pre D vwCl tA lo im_NW [.ref (lo + x0), .ref (lo + x1), .ref (lo + x2)] w) (im_Post D vwCl tA lo none r) 0 0 (fun q => lo ≤ q) := by
  refine im_ofW (cc := c_Likely_minimise) (nL := 3) (ret := none) (by decide) (Nat.le_of_ble_eq_true rfl) ?_
  intro p e s m args below meth c X H locs ls hH hl
  obtain ⟨hx, hb, hr, hts, hown, hlk, hml, hK, hN⟩ := id X
  have hl : lv_has ls 3 [(0, .ref (lo + x0)), (1, .ref (lo + x1)), (2, .ref (lo + x2))] := hl
  unfold sh_Likely_minimise at hsh
  refine lv_aload_n hx hb d_Likely_minimise_0 rfl (lv_at hl 0 rfl) ?_
  refine lv_aload_n hx hb d_Likely_minimise_1 rfl (lv_at hl 1 rfl) ?_
  refine lv_aload_n hx hb d_Likely_minimise_2 rfl (lv_at hl 0 rfl) ?_
  obtain ⟨f1, h2, hsh⟩ := im_bd hsh
  refine im_getR hx hb hts inC_Likely hown hK hH (ci := 3) rfl 1 (by decide) (hts _ wd_135) rfl h2 d_Likely_minimise_3 ?_
  obtain ⟨u3, h4, hsh⟩ := im_bd hsh
  obtain ⟨g5, h6⟩ := im_is_s h4
  obtain ⟨w7, h8, hsh⟩ := im_bd hsh
  refine im_afterV (va_runV (As := [.ref (lo + x1), .ref (lo + f1)]) (rest := []) (C := RC_Likely) ⟨hx, hb, hml, hown, hts⟩ (met_Likely_maximise h8) ⟨(callB_of 2 hts (im_good wd_509) rfl rfl rfl (hts _ wd_8) (hts _ wd_540) (by decide +kernel) ⟨Nat.le_of_ble_eq_true rfl, Nat.le_of_ble_eq_true rfl⟩), hts _ wd_507, hts _ wd_508⟩ (im_preV im_NW_ok hK hN hH (ci := 3) rfl rfl h6 _) rfl rfl hl.1 rfl (lv_room (Nat.le_of_ble_eq_true rfl)) d_Likely_minimise_6 ⟨Nat.le_of_ble_eq_true rfl, Nat.le_of_ble_eq_true rfl⟩) hH (fun H locs hH => ?_)
  refine lv_aload_n hx hb d_Likely_minimise_9 rfl (lv_at hl 2 rfl) ?_
  refine lv_aload_n hx hb d_Likely_minimise_10 rfl (lv_at hl 0 rfl) ?_
  obtain ⟨f9, h10, hsh⟩ := im_bd hsh
  refine im_getR hx hb hts inC_Likely hown hK hH (ci := 3) rfl 1 (by decide) (hts _ wd_135) rfl h10 d_Likely_minimise_11 ?_
  obtain ⟨u11, h12, hsh⟩ := im_bd hsh
  obtain ⟨g13, h14⟩ := im_is_s h12
  obtain ⟨w15, h16, hsh⟩ := im_bd hsh
  refine im_afterV (va_runV (As := [.ref (lo + f9)]) (rest := []) (C := RC_Core) ⟨hx, hb, hml, hown, hts⟩ (met_Core_copyFrom h16) ⟨(callB_of 1 hts (im_good wd_445) rfl rfl rfl (hts _ wd_7) (hts _ wd_510) (by decide +kernel) ⟨Nat.le_of_ble_eq_true rfl, Nat.le_of_ble_eq_true rfl⟩), hts _ wd_443, hts _ wd_444⟩ (im_preV im_NW_ok hK hN hH (ci := 1) rfl rfl h14 _) rfl rfl hl.1 rfl (lv_room (Nat.le_of_ble_eq_true rfl)) d_Likely_minimise_14 ⟨Nat.le_of_ble_eq_true rfl, Nat.le_of_ble_eq_true rfl⟩) hH (fun H locs hH => ?_)
  refine lv_aload_n hx hb d_Likely_minimise_17 rfl (lv_at hl 0 rfl) ?_
  refine lv_lconst (v := 0) hx hb d_Likely_minimise_18 (by decide) ?_
  refine lv_lconst (v := 0) hx hb d_Likely_minimise_19 (by decide) ?_
  obtain ⟨u17, h18, hsh⟩ := im_bd hsh
  obtain ⟨g19, h20⟩ := im_is_s h18
  obtain ⟨v23, w21, h22, hsh⟩ := im_bd2 hsh
  refine im_afterI (va_runV (As := [.long (0 : Int64), .long (0 : Int64)]) (rest := []) (C := RC_Likely) ⟨hx, hb, hml, hown, hts⟩ (met_Likely_isEnough h22) ⟨(callB_of 2 hts (im_good wd_544) rfl rfl rfl (hts _ wd_8) (hts _ wd_541) (by decide +kernel) ⟨Nat.le_of_ble_eq_true rfl, Nat.le_of_ble_eq_true rfl⟩), hts _ wd_543, hts _ sl_Likely_isEnough⟩ (im_preV im_NW_ok hK hN hH (ci := 3) rfl rfl h20 _) rfl rfl hl.1 rfl (lv_room (Nat.le_of_ble_eq_true rfl)) d_Likely_minimise_20 ⟨Nat.le_of_ble_eq_true rfl, Nat.le_of_ble_eq_true rfl⟩) hH (fun H locs hH => ?_)
  refine lv_if_ne (tgt := 76) hx hb d_Likely_minimise_23 (by decide) (fun cc => ?_) (fun cc => ?_)
  · have hsh := im_if hsh cc
    exact bk_Likely_minimise_76 X x0 x2 w21 hsh H locs ls hH (lv_sub hl [0, 2] rfl)
  · have hsh := im_it hsh cc
    refine lv_aload_n hx hb d_Likely_minimise_26 rfl (lv_at hl 0 rfl) ?_
    obtain ⟨f24, h25, hsh⟩ := im_bd hsh
    refine im_getR hx hb hts inC_Likely hown hK hH (ci := 3) rfl 1 (by decide) (hts _ wd_135) rfl h25 d_Likely_minimise_27 ?_
    obtain ⟨u26, h27, hsh⟩ := im_bd hsh
    obtain ⟨g28, h29⟩ := im_is_s h27
    obtain ⟨v32, w30, h31, hsh⟩ := im_bd2 hsh
    refine im_afterI (va_runV (As := []) (rest := []) (C := RC_Core) ⟨hx, hb, hml, hown, hts⟩ (met_Core_hasRegion h31) ⟨(callB_of 0 hts (im_good wd_403) rfl rfl rfl (hts _ wd_7) (hts _ wd_512) (by decide +kernel) ⟨Nat.le_of_ble_eq_true rfl, Nat.le_of_ble_eq_true rfl⟩), hts _ wd_401, hts _ wd_402⟩ (im_preV im_NW_ok hK hN hH (ci := 1) rfl rfl h29 _) rfl rfl hl.1 rfl (lv_room (Nat.le_of_ble_eq_true rfl)) d_Likely_minimise_30 ⟨Nat.le_of_ble_eq_true rfl, Nat.le_of_ble_eq_true rfl⟩) hH (fun H locs hH => ?_)
    refine lv_if_eq (tgt := 51) hx hb d_Likely_minimise_33 (by decide) (fun cc => ?_) (fun cc => ?_)
    · have hsh := im_it hsh cc
      exact bk_Likely_minimise_51 X x0 x2 w30 hsh H locs ls hH (lv_sub hl [0, 2] rfl)
    · have hsh := im_if hsh cc
      refine lv_aload_n hx hb d_Likely_minimise_36 rfl (lv_at hl 0 rfl) ?_
      refine lv_lconst (v := 0) hx hb d_Likely_minimise_37 (by decide) ?_
      refine lv_aload_n hx hb d_Likely_minimise_38 rfl (lv_at hl 0 rfl) ?_
      obtain ⟨f33, h34, hsh⟩ := im_bd hsh
      refine im_getR hx hb hts inC_Likely hown hK hH (ci := 3) rfl 1 (by decide) (hts _ wd_135) rfl h34 d_Likely_minimise_39 ?_
      obtain ⟨f35, h36, hsh⟩ := im_bd hsh
      refine im_getNL hx hb hts inC_Core hown hK hH (ci := 1) rfl 2 (by decide) (hN _ nw_96) rfl h36 d_Likely_minimise_42 ?_
      obtain ⟨u37, h38, hsh⟩ := im_bd hsh
      obtain ⟨g39, h40⟩ := im_is_s h38
      obtain ⟨v43, w41, h42, hsh⟩ := im_bd2 hsh
      refine im_afterI (va_runV (As := [.long (0 : Int64), .long f35]) (rest := []) (C := RC_Likely) ⟨hx, hb, hml, hown, hts⟩ (met_Likely_isEnough h42) ⟨(callB_of 2 hts (im_good wd_544) rfl rfl rfl (hts _ wd_8) (hts _ wd_541) (by decide +kernel) ⟨Nat.le_of_ble_eq_true rfl, Nat.le_of_ble_eq_true rfl⟩), hts _ wd_543, hts _ sl_Likely_isEnough⟩ (im_preV im_NW_ok hK hN hH (ci := 3) rfl rfl h40 _) rfl rfl hl.1 rfl (lv_room (Nat.le_of_ble_eq_true rfl)) d_Likely_minimise_45 ⟨Nat.le_of_ble_eq_true rfl, Nat.le_of_ble_eq_true rfl⟩) hH (fun H locs hH => ?_)
      refine lv_if_ne (tgt := 76) hx hb d_Likely_minimise_48 (by decide) (fun cc => ?_) (fun cc => ?_)
      · have hsh := im_if hsh cc
        exact bk_Likely_minimise_76 X x0 x2 w41 hsh H locs ls hH (lv_sub hl [0, 2] rfl)
      · have hsh := im_it hsh cc
        exact bk_Likely_minimise_51 X x0 x2 w41 hsh H locs ls hH (lv_sub hl [0, 2] rfl)
theorem wd_40 : (Jvm.Cond.fieldLink "LanguageTags$Reader" (9 : Nat) "LanguageTags$Reader" "parts" "[J") ∈ im_T := im_memT (i := 40) (by decide +kernel) (by decide +kernel)
theorem wd_41 : (Jvm.Cond.fieldLink "LanguageTags$Reader" (15 : Nat) "LanguageTags$Reader" "roles" "[I") ∈ im_T := im_memT (i := 41) (by decide +kernel) (by decide +kernel)
theorem wd_42 : (Jvm.Cond.fieldLink "LanguageTags$Reader" (19 : Nat) "LanguageTags$Reader" "count" "I") ∈ im_T := im_memT (i := 42) (by decide +kernel) (by decide +kernel)
theorem d_Reader_isThere_0 : decode c_Reader_isThere 0 = .ok (.iconst 0, 1) := by decide +kernel
theorem d_Reader_isThere_1 : decode c_Reader_isThere 1 = .ok (.istore 4, 2) := by decide +kernel
theorem d_Reader_isThere_3 : decode c_Reader_isThere 3 = .ok (.iload 4, 2) := by decide +kernel
theorem d_Reader_isThere_5 : decode c_Reader_isThere 5 = .ok (.aload_n 0, 1) := by decide +kernel
theorem d_Reader_isThere_6 : decode c_Reader_isThere 6 = .ok (.getfield 19, 3) := by decide +kernel
theorem d_Reader_isThere_9 : decode c_Reader_isThere 9 = .ok (.if_icmp .ge (34), 3) := by decide +kernel
theorem d_Reader_isThere_12 : decode c_Reader_isThere 12 = .ok (.aload_n 0, 1) := by decide +kernel
theorem d_Reader_isThere_13 : decode c_Reader_isThere 13 = .ok (.getfield 15, 3) := by decide +kernel
theorem d_Reader_isThere_16 : decode c_Reader_isThere 16 = .ok (.iload 4, 2) := by decide +kernel
theorem d_Reader_isThere_18 : decode c_Reader_isThere 18 = .ok (.iaload, 1) := by decide +kernel
theorem d_Reader_isThere_19 : decode c_Reader_isThere 19 = .ok (.iload_n 3, 1) := by decide +kernel
theorem d_Reader_isThere_20 : decode c_Reader_isThere 20 = .ok (.if_icmp .ne (17), 3) := by decide +kernel
theorem d_Reader_isThere_23 : decode c_Reader_isThere 23 = .ok (.aload_n 0, 1) := by decide +kernel
theorem d_Reader_isThere_24 : decode c_Reader_isThere 24 = .ok (.getfield 9, 3) := by decide +kernel
theorem d_Reader_isThere_27 : decode c_Reader_isThere 27 = .ok (.iload 4, 2) := by decide +kernel
theorem d_Reader_isThere_29 : decode c_Reader_isThere 29 = .ok (.laload, 1) := by decide +kernel
theorem d_Reader_isThere_30 : decode c_Reader_isThere 30 = .ok (.lload_n 1, 1) := by decide +kernel
theorem d_Reader_isThere_31 : decode c_Reader_isThere 31 = .ok (.lcmp, 1) := by decide +kernel
theorem d_Reader_isThere_32 : decode c_Reader_isThere 32 = .ok (.ifCond .ne (5), 3) := by decide +kernel
theorem d_Reader_isThere_35 : decode c_Reader_isThere 35 = .ok (.iconst 1, 1) := by decide +kernel
theorem d_Reader_isThere_36 : decode c_Reader_isThere 36 = .ok (.ireturn, 1) := by decide +kernel
theorem d_Reader_isThere_37 : decode c_Reader_isThere 37 = .ok (.iinc 4 (1), 3) := by decide +kernel
theorem d_Reader_isThere_40 : decode c_Reader_isThere 40 = .ok (.goto (-37), 3) := by decide +kernel
theorem d_Reader_isThere_43 : decode c_Reader_isThere 43 = .ok (.iconst 0, 1) := by decide +kernel
theorem d_Reader_isThere_44 : decode c_Reader_isThere 44 = .ok (.ireturn, 1) := by decide +kernel
def sh_Reader_isThere_37 (F : Nat) (k3 : Nat → Int64 → Int32 → Int32 → im_W → Option (Int32 × im_W)) (x0 : Nat) (x1 : Int64) (x3 : Int32) (x4 : Int32) (w : im_W) : Option (Int32 × im_W) :=
  k3 x0 x1 x3 (x4 + (1 : Int32)) w
set_option maxHeartbeats 4000000 in
set_option maxRecDepth 100000 in
theorem bk_Reader_isThere_37 {F : Nat} {r : Int32 × im_W} (X : im_X D vwCl tA lo im_NW c_Reader_isThere 5 (some .boolean) RC_Reader im_T p s m args meth c) {k3 : Nat → Int64 → Int32 → Int32 → im_W → Option (Int32 × im_W)} (hk3 : ∀ (x0 : Nat) (x1 : Int64) (x3 : Int32) (x4 : Int32) (w : im_W), k3 x0 x1 x3 x4 w = some r → im_WW D vwCl tA lo 5 p l e (im_rm 0 0) s m args below meth c 0 0 (MQ below (im_Post D vwCl tA lo (some (.int r.1)) r.2) args s 0 0 (fun q => lo ≤ q)) 3 [(0, .ref (lo + x0)), (1, .long x1), (3, .int x3), (4, .int x4)] [] w) (x0 : Nat) (x1 : Int64) (x3 : Int32) (x4 : Int32) (w : im_W) (hsh : sh_Reader_isThere_37 F k3 x0 x1 x3 x4 w = some r) : im_WW D vwCl tA lo 5 p l e (im_rm 0 0) s m args below meth c 0 0 (MQ below (im_Post D vwCl tA lo (some (.int r.1)) r.2) args s 0 0 (fun q => lo ≤ q)) 37 [(0, .ref (lo + x0)), (1, .long x1), (3, .int x3), (4, .int x4)] [] w := by
  obtain ⟨hx, hb, hr, hts, hown, hlk, hml, hK, hN⟩ := id X
  intro H locs ls hH hl
  unfold sh_Reader_isThere_37 at hsh
  refine lv_iinc (v := (x4 + (1 : Int32))) (lv' := [(4, .int (x4 + (1 : Int32))), (0, .ref (lo + x0)), (1, .long x1), (3, .int x3)]) hx hb d_Reader_isThere_37 hl (k := 3) rfl rfl (by decide) rfl (fun ls hl => ?_)
  refine lv_goto (tgt := 3) hx hb d_Reader_isThere_40 (by decide) ?_
  exact hk3 x0 x1 x3 (x4 + (1 : Int32)) w hsh H locs ls hH (lv_sub hl [1, 2, 3, 0] rfl)
def sh_Reader_isThere_3 (F : Nat) : Nat → Nat → Int64 → Int32 → Int32 → im_W → Option (Int32 × im_W)
  | 0, _, _, _, _, _ => none
  | f + 1, x0, x1, x3, x4, w => (im_gI w 5 x0 2).bind fun f1 => (if f1 ≤ x4 then im_rz (0 : Int32) w else (im_gR w 5 x0 1).bind fun f3 => (im_lI w 0 f3 x4).bind fun e5 => (if e5 = x3 then (im_gR w 5 x0 0).bind fun f7 => (im_lL w 1 f7 x4).bind fun e9 => (if (lg_cmp e9 x1) = 0 then im_rz (1 : Int32) w else sh_Reader_isThere_37 F (sh_Reader_isThere_3 F f) x0 x1 x3 x4 w) else sh_Reader_isThere_37 F (sh_Reader_isThere_3 F f) x0 x1 x3 x4 w))
set_option maxHeartbeats 4000000 in
set_option maxRecDepth 100000 in
theorem bk_Reader_isThere_3 {F : Nat} {r : Int32 × im_W} (X : im_X D vwCl tA lo im_NW c_Reader_isThere 5 (some .boolean) RC_Reader im_T p s m args meth c) : ∀ (f : Nat) (x0 : Nat) (x1 : Int64) (x3 : Int32) (x4 : Int32) (w : im_W), sh_Reader_isThere_3 F f x0 x1 x3 x4 w = some r → im_WW D vwCl tA lo 5 p l e (im_rm 0 0) s m args below meth c 0 0 (MQ below (im_Post D vwCl tA lo (some (.int r.1)) r.2) args s 0 0 (fun q => lo ≤ q)) 3 [(0, .ref (lo + x0)), (1, .long x1), (3, .int x3), (4, .int x4)] [] w := by
  obtain ⟨hx, hb, hr, hts, hown, hlk, hml, hK, hN⟩ := id X
  intro f
  induction f with
  | zero =>
    intro x0 x1 x3 x4 w hsh
    cases hsh
  | succ f ih =>
    intro x0 x1 x3 x4 w hsh H locs ls hH hl
    unfold sh_Reader_isThere_3 at hsh
    refine lv_iload hx hb d_Reader_isThere_3 (lv_at hl 3 rfl) ?_
    refine lv_aload_n hx hb d_Reader_isThere_5 rfl (lv_at hl 0 rfl) ?_
    obtain ⟨f1, h2, hsh⟩ := im_bd hsh
    refine im_getI hx hb hts inC_Reader hown hK hH (ci := 5) rfl 2 (by decide) (hts _ wd_42) rfl h2 d_Reader_isThere_6 ?_
    refine lv_icmp_ge (tgt := 43) hx hb d_Reader_isThere_9 (by decide) (fun cc => ?_) (fun cc => ?_)
    · have hsh := im_it hsh cc
      refine lv_iconst (v := 0) hx hb d_Reader_isThere_43 (by decide) ?_
      obtain ⟨rfl, hn⟩ := im_rz_s hsh
      exact im_zret hx hb hr hlk hn hH d_Reader_isThere_44
    · have hsh := im_if hsh cc
      refine lv_aload_n hx hb d_Reader_isThere_12 rfl (lv_at hl 0 rfl) ?_
      obtain ⟨f3, h4, hsh⟩ := im_bd hsh
      refine im_getR hx hb hts inC_Reader hown hK hH (ci := 5) rfl 1 (by decide) (hts _ wd_41) rfl h4 d_Reader_isThere_13 ?_
      refine lv_iload hx hb d_Reader_isThere_16 (lv_at hl 3 rfl) ?_
      obtain ⟨e5, h6, hsh⟩ := im_bd hsh
      refine im_iald hx hb hK hH h6 d_Reader_isThere_18 ?_
      refine lv_iload_n hx hb d_Reader_isThere_19 rfl (lv_at hl 2 rfl) ?_
      refine lv_icmp_ne (tgt := 37) hx hb d_Reader_isThere_20 (by decide) (fun cc => ?_) (fun cc => ?_)
      · have hsh := im_if hsh cc
        exact bk_Reader_isThere_37 X ih x0 x1 x3 x4 w hsh H locs ls hH (lv_sub hl [0, 1, 2, 3] rfl)
      · have hsh := im_it hsh cc
        refine lv_aload_n hx hb d_Reader_isThere_23 rfl (lv_at hl 0 rfl) ?_
        obtain ⟨f7, h8, hsh⟩ := im_bd hsh
        refine im_getR hx hb hts inC_Reader hown hK hH (ci := 5) rfl 0 (by decide) (hts _ wd_40) rfl h8 d_Reader_isThere_24 ?_
        refine lv_iload hx hb d_Reader_isThere_27 (lv_at hl 3 rfl) ?_
        obtain ⟨e9, h10, hsh⟩ := im_bd hsh
        refine im_lald hx hb hK hH h10 d_Reader_isThere_29 ?_
        refine lv_lload_n hx hb d_Reader_isThere_30 rfl (lv_at hl 1 rfl) ?_
        refine W.lcmp hx hb d_Reader_isThere_31 ?_
        refine lv_if_ne (tgt := 37) hx hb d_Reader_isThere_32 (by decide) (fun cc => ?_) (fun cc => ?_)
        · have hsh := im_if hsh cc
          exact bk_Reader_isThere_37 X ih x0 x1 x3 x4 w hsh H locs ls hH (lv_sub hl [0, 1, 2, 3] rfl)
        · have hsh := im_it hsh cc
          refine lv_iconst (v := 1) hx hb d_Reader_isThere_35 (by decide) ?_
          obtain ⟨rfl, hn⟩ := im_rz_s hsh
          exact im_zret hx hb hr hlk hn hH d_Reader_isThere_36
def sh_Reader_isThere (F : Nat) (x0 : Nat) (x1 : Int64) (x3 : Int32) (w : im_W) : Option (Int32 × im_W) :=
  sh_Reader_isThere_3 F F x0 x1 x3 (0 : Int32) w
set_option maxHeartbeats 4000000 in
set_option maxRecDepth 100000 in
theorem met_Reader_isThere {F : Nat} {x0 : Nat} {x1 : Int64} {x3 : Int32} {w : im_W} {r : Int32 × im_W} (hsh : sh_Reader_isThere F x0 x1 x3 w = some r) : Met l y_Reader_isThere (Cond.code y_Reader_isThere c_Reader_isThere 5 (some .boolean) :: im_T) (im_rm 0 0) (im_Pre D vwCl tA lo im_NW [.ref (lo + x0), .long x1, .int x3] w) (im_Post D vwCl tA lo (some (.int r.1)) r.2) 0 0 (fun q => lo ≤ q) := by
  refine im_ofW (cc := c_Reader_isThere) (nL := 5) (ret := (some .boolean)) (by decide) (Nat.le_of_ble_eq_true rfl) ?_
  intro p e s m args below meth c X H locs ls hH hl
  obtain ⟨hx, hb, hr, hts, hown, hlk, hml, hK, hN⟩ := id X
  have hl : lv_has ls 5 [(0, .ref (lo + x0)), (1, .long x1), (3, .int x3)] := hl
  unfold sh_Reader_isThere at hsh
  refine lv_iconst (v := 0) hx hb d_Reader_isThere_0 (by decide) ?_
  refine lv_istore (lv' := [(4, .int (0 : Int32)), (0, .ref (lo + x0)), (1, .long x1), (3, .int x3)]) hx hb d_Reader_isThere_1 hl (by decide) rfl (fun ls hl => ?_)
  exact bk_Reader_isThere_3 X F x0 x1 x3 (0 : Int32) w hsh H locs ls hH (lv_sub hl [1, 2, 3, 0] rfl)
theorem wd_3 : (Jvm.Cond.initialized "LanguageTags$Reader") ∈ im_T := im_memT (i := 3) (by decide +kernel) (by decide +kernel)
theorem wd_345 : (Jvm.Cond.methodLink "LanguageTags$Reader" (105 : Nat) ({ cls := "LanguageTags$Subtag", name := "isKey", desc := "(J)Z" } : Jvm.MethodName)) ∈ im_T := im_memT (i := 345) (by decide +kernel) (by decide +kernel)
theorem wd_346 : (Jvm.Cond.static ({ cls := "LanguageTags$Subtag", name := "isKey", desc := "(J)Z" } : Jvm.MethodName)) ∈ im_T := im_memT (i := 346) (by decide +kernel) (by decide +kernel)
theorem wd_347 : (Jvm.Cond.code ({ cls := "LanguageTags$Subtag", name := "isKey", desc := "(J)Z" } : Jvm.MethodName) prog_8_method_12_code (2 : Nat) (Option.some Jvm.ClassFile.FieldType.boolean)) ∈ im_T := im_memT (i := 347) (by decide +kernel) (by decide +kernel)
theorem wd_348 : (Jvm.Cond.methodLink "LanguageTags$Reader" (101 : Nat) ({ cls := "LanguageTags$Reader", name := "isThere", desc := "(JI)Z" } : Jvm.MethodName)) ∈ im_T := im_memT (i := 348) (by decide +kernel) (by decide +kernel)
theorem wd_350 : (Jvm.Cond.instanceMethod ({ cls := "LanguageTags$Reader", name := "isThere", desc := "(JI)Z" } : Jvm.MethodName)) ∈ im_T := im_memT (i := 350) (by decide +kernel) (by decide +kernel)
theorem wd_351 : (Jvm.Cond.code ({ cls := "LanguageTags$Reader", name := "isThere", desc := "(JI)Z" } : Jvm.MethodName) prog_7_method_7_code (5 : Nat) (Option.some Jvm.ClassFile.FieldType.boolean)) ∈ im_T := im_memT (i := 351) (by decide +kernel) (by decide +kernel)
theorem wd_352 : (Jvm.Cond.methodLink "LanguageTags$Reader" (108 : Nat) ({ cls := "LanguageTags$Subtag", name := "isType", desc := "(J)Z" } : Jvm.MethodName)) ∈ im_T := im_memT (i := 352) (by decide +kernel) (by decide +kernel)
theorem wd_353 : (Jvm.Cond.static ({ cls := "LanguageTags$Subtag", name := "isType", desc := "(J)Z" } : Jvm.MethodName)) ∈ im_T := im_memT (i := 353) (by decide +kernel) (by decide +kernel)
theorem wd_354 : (Jvm.Cond.code ({ cls := "LanguageTags$Subtag", name := "isType", desc := "(J)Z" } : Jvm.MethodName) prog_8_method_13_code (2 : Nat) (Option.some Jvm.ClassFile.FieldType.boolean)) ∈ im_T := im_memT (i := 354) (by decide +kernel) (by decide +kernel)
theorem d_Reader_roleInExtension_0 : decode c_Reader_roleInExtension 0 = .ok (.lload_n 1, 1) := by decide +kernel
theorem d_Reader_roleInExtension_1 : decode c_Reader_roleInExtension 1 = .ok (.invokestatic 105, 3) := by decide +kernel
theorem d_Reader_roleInExtension_4 : decode c_Reader_roleInExtension 4 = .ok (.ifCond .eq (20), 3) := by decide +kernel
theorem d_Reader_roleInExtension_7 : decode c_Reader_roleInExtension 7 = .ok (.aload_n 0, 1) := by decide +kernel
theorem d_Reader_roleInExtension_8 : decode c_Reader_roleInExtension 8 = .ok (.lload_n 1, 1) := by decide +kernel
theorem d_Reader_roleInExtension_9 : decode c_Reader_roleInExtension 9 = .ok (.bipush (6), 2) := by decide +kernel
theorem d_Reader_roleInExtension_11 : decode c_Reader_roleInExtension 11 = .ok (.invokevirtual 101, 3) := by decide +kernel
theorem d_Reader_roleInExtension_14 : decode c_Reader_roleInExtension 14 = .ok (.ifCond .eq (7), 3) := by decide +kernel
theorem d_Reader_roleInExtension_17 : decode c_Reader_roleInExtension 17 = .ok (.iconst 0, 1) := by decide +kernel
theorem d_Reader_roleInExtension_18 : decode c_Reader_roleInExtension 18 = .ok (.goto (5), 3) := by decide +kernel
theorem d_Reader_roleInExtension_21 : decode c_Reader_roleInExtension 21 = .ok (.bipush (6), 2) := by decide +kernel
theorem d_Reader_roleInExtension_23 : decode c_Reader_roleInExtension 23 = .ok (.ireturn, 1) := by decide +kernel
theorem d_Reader_roleInExtension_24 : decode c_Reader_roleInExtension 24 = .ok (.iload_n 3, 1) := by decide +kernel
theorem d_Reader_roleInExtension_25 : decode c_Reader_roleInExtension 25 = .ok (.iconst 5, 1) := by decide +kernel
theorem d_Reader_roleInExtension_26 : decode c_Reader_roleInExtension 26 = .ok (.if_icmp .eq (15), 3) := by decide +kernel
theorem d_Reader_roleInExtension_29 : decode c_Reader_roleInExtension 29 = .ok (.lload_n 1, 1) := by decide +kernel
theorem d_Reader_roleInExtension_30 : decode c_Reader_roleInExtension 30 = .ok (.invokestatic 108, 3) := by decide +kernel
theorem d_Reader_roleInExtension_33 : decode c_Reader_roleInExtension 33 = .ok (.ifCond .eq (8), 3) := by decide +kernel
theorem d_Reader_roleInExtension_36 : decode c_Reader_roleInExtension 36 = .ok (.bipush (7), 2) := by decide +kernel
theorem d_Reader_roleInExtension_38 : decode c_Reader_roleInExtension 38 = .ok (.goto (4), 3) := by decide +kernel
theorem d_Reader_roleInExtension_41 : decode c_Reader_roleInExtension 41 = .ok (.iconst 0, 1) := by decide +kernel
theorem d_Reader_roleInExtension_42 : decode c_Reader_roleInExtension 42 = .ok (.ireturn, 1) := by decide +kernel
def sh_Reader_roleInExtension_23 (F : Nat) (y0 : Int32) (w : im_W) : Option (Int32 × im_W) :=
  some (y0, w)
set_option maxHeartbeats 4000000 in
set_option maxRecDepth 100000 in
theorem bk_Reader_roleInExtension_23 {F : Nat} {r : Int32 × im_W} (X : im_X D vwCl tA lo im_NW c_Reader_roleInExtension 4 (some .int) RC_Reader im_T p s m args meth c) (y0 : Int32) (w : im_W) (hsh : sh_Reader_roleInExtension_23 F y0 w = some r) : im_WW D vwCl tA lo 4 p l e (im_rm 3 66) s m args below meth c 0 0 (MQ below (im_Post D vwCl tA lo (some (.int r.1)) r.2) args s 0 0 (fun q => lo ≤ q)) 23 [] [.int y0] w := by
  obtain ⟨hx, hb, hr, hts, hown, hlk, hml, hK, hN⟩ := id X
  intro H locs ls hH hl
  unfold sh_Reader_roleInExtension_23 at hsh
  obtain rfl := Option.some.inj hsh
  exact im_iret hx hb hr hlk hH d_Reader_roleInExtension_23
def sh_Reader_roleInExtension_42 (F : Nat) (y0 : Int32) (w : im_W) : Option (Int32 × im_W) :=
  some (y0, w)
set_option maxHeartbeats 4000000 in
set_option maxRecDepth 100000 in
theorem bk_Reader_roleInExtension_42 {F : Nat} {r : Int32 × im_W} (X : im_X D vwCl tA lo im_NW c_Reader_roleInExtension 4 (some .int) RC_Reader im_T p s m args meth c) (y0 : Int32) (w : im_W) (hsh : sh_Reader_roleInExtension_42 F y0 w = some r) : im_WW D vwCl tA lo 4 p l e (im_rm 3 66) s m args below meth c 0 0 (MQ below (im_Post D vwCl tA lo (some (.int r.1)) r.2) args s 0 0 (fun q => lo ≤ q)) 42 [] [.int y0] w := by
  obtain ⟨hx, hb, hr, hts, hown, hlk, hml, hK, hN⟩ := id X
  intro H locs ls hH hl
  unfold sh_Reader_roleInExtension_42 at hsh
  obtain rfl := Option.some.inj hsh
  exact im_iret hx hb hr hlk hH d_Reader_roleInExtension_42
def sh_Reader_roleInExtension_41 (F : Nat)  (w : im_W) : Option (Int32 × im_W) :=
  sh_Reader_roleInExtension_42 F (0 : Int32) w
set_option maxHeartbeats 4000000 in
set_option maxRecDepth 100000 in
theorem bk_Reader_roleInExtension_41 {F : Nat} {r : Int32 × im_W} (X : im_X D vwCl tA lo im_NW c_Reader_roleInExtension 4 (some .int) RC_Reader im_T p s m args meth c)  (w : im_W) (hsh : sh_Reader_roleInExtension_41 F w = some r) : im_WW D vwCl tA lo 4 p l e (im_rm 3 66) s m args below meth c 0 0 (MQ below (im_Post D vwCl tA lo (some (.int r.1)) r.2) args s 0 0 (fun q => lo ≤ q)) 41 [] [] w := by
  obtain ⟨hx, hb, hr, hts, hown, hlk, hml, hK, hN⟩ := id X
  intro H locs ls hH hl
  unfold sh_Reader_roleInExtension_41 at hsh
  refine lv_iconst (v := 0) hx hb d_Reader_roleInExtension_41 (by decide) ?_
  exact bk_Reader_roleInExtension_42 X (0 : Int32) w hsh H locs ls hH (lv_sub hl [] rfl)
def sh_Reader_roleInExtension (F : Nat) (x0 : Nat) (x1 : Int64) (x3 : Int32) (w : im_W) : Option (Int32 × im_W) :=
  im_b2 (sh_Subtag_isKey F x1 w) fun v3 w1 => (if v3 = 0 then (if x3 = (5 : Int32) then sh_Reader_roleInExtension_41 F w1 else im_b2 (sh_Subtag_isType F x1 w1) fun v6 w4 => (if v6 = 0 then sh_Reader_roleInExtension_41 F w4 else sh_Reader_roleInExtension_42 F (7 : Int32) w4)) else (im_is w1 5 x0).bind fun u7 => im_b2 (sh_Reader_isThere F x0 x1 (6 : Int32) w1) fun v13 w11 => (if v13 = 0 then sh_Reader_roleInExtension_23 F (6 : Int32) w11 else sh_Reader_roleInExtension_23 F (0 : Int32) w11))
set_option maxHeartbeats 4000000 in
set_option maxRecDepth 100000 in
theorem met_Reader_roleInExtension {F : Nat} {x0 : Nat} {x1 : Int64} {x3 : Int32} {w : im_W} {r : Int32 × im_W} (hsh : sh_Reader_roleInExtension F x0 x1 x3 w = some r) : Met l y_Reader_roleInExtension (Cond.code y_Reader_roleInExtension c_Reader_roleInExtension 4 (some .int) :: im_T) (im_rm 3 66) (im_Pre D vwCl tA lo im_NW [.ref (lo + x0), .long x1, .int x3] w) (im_Post D vwCl tA lo (some (.int r.1)) r.2) 0 0 (fun q => lo ≤ q) := by
  refine im_ofW (cc := c_Reader_roleInExtension) (nL := 4) (ret := (some .int)) (by decide) (Nat.le_of_ble_eq_true rfl) ?_
  intro p e s m args below meth c X H locs ls hH hl
  obtain ⟨hx, hb, hr, hts, hown, hlk, hml, hK, hN⟩ := id X
  have hl : lv_has ls 4 [(0, .ref (lo + x0)), (1, .long x1), (3, .int x3)] := hl
  unfold sh_Reader_roleInExtension at hsh
  refine lv_lload_n hx hb d_Reader_roleInExtension_0 rfl (lv_at hl 1 rfl) ?_
  obtain ⟨v3, w1, h2, hsh⟩ := im_bd2 hsh
  refine im_afterI (va_runS (As := [.long x1]) (rest := []) ⟨hx, hb, hml, hown, hts⟩ (met_Subtag_isKey h2) ⟨(callB_of 1 hts (im_good wd_347) rfl rfl rfl (hts _ wd_11) (hts _ wd_345) (by decide +kernel) ⟨Nat.le_of_ble_eq_true rfl, Nat.le_of_ble_eq_true rfl⟩), hts _ wd_346⟩ (im_pre im_NW_ok hK hN hH _) rfl rfl hl.1 rfl (lv_room (Nat.le_of_ble_eq_true rfl)) d_Reader_roleInExtension_1 ⟨Nat.le_of_ble_eq_true rfl, Nat.le_of_ble_eq_true rfl⟩) hH (fun H locs hH => ?_)
  refine lv_if_eq (tgt := 24) hx hb d_Reader_roleInExtension_4 (by decide) (fun cc => ?_) (fun cc => ?_)
  · have hsh := im_it hsh cc
    refine lv_iload_n hx hb d_Reader_roleInExtension_24 rfl (lv_at hl 2 rfl) ?_
    refine lv_iconst (v := 5) hx hb d_Reader_roleInExtension_25 (by decide) ?_
    refine lv_icmp_eq (tgt := 41) hx hb d_Reader_roleInExtension_26 (by decide) (fun cc => ?_) (fun cc => ?_)
    · have hsh := im_it hsh cc
      exact bk_Reader_roleInExtension_41 X w1 hsh H locs ls hH (lv_sub hl [] rfl)
    · have hsh := im_if hsh cc
      refine lv_lload_n hx hb d_Reader_roleInExtension_29 rfl (lv_at hl 1 rfl) ?_
      obtain ⟨v6, w4, h5, hsh⟩ := im_bd2 hsh
      refine im_afterI (va_runS (As := [.long x1]) (rest := []) ⟨hx, hb, hml, hown, hts⟩ (met_Subtag_isType h5) ⟨(callB_of 1 hts (im_good wd_354) rfl rfl rfl (hts _ wd_11) (hts _ wd_352) (by decide +kernel) ⟨Nat.le_of_ble_eq_true rfl, Nat.le_of_ble_eq_true rfl⟩), hts _ wd_353⟩ (im_pre im_NW_ok hK hN hH _) rfl rfl hl.1 rfl (lv_room (Nat.le_of_ble_eq_true rfl)) d_Reader_roleInExtension_30 ⟨Nat.le_of_ble_eq_true rfl, Nat.le_of_ble_eq_true rfl⟩) hH (fun H locs hH => ?_)
      refine lv_if_eq (tgt := 41) hx hb d_Reader_roleInExtension_33 (by decide) (fun cc => ?_) (fun cc => ?_)
      · have hsh := im_it hsh cc
        exact bk_Reader_roleInExtension_41 X w4 hsh H locs ls hH (lv_sub hl [] rfl)
      · have hsh := im_if hsh cc
        refine lv_bipush (v := 7) hx hb d_Reader_roleInExtension_36 (by decide) ?_
        refine lv_goto (tgt := 42) hx hb d_Reader_roleInExtension_38 (by decide) ?_
        exact bk_Reader_roleInExtension_42 X (7 : Int32) w4 hsh H locs ls hH (lv_sub hl [] rfl)
  · have hsh := im_if hsh cc
    refine lv_aload_n hx hb d_Reader_roleInExtension_7 rfl (lv_at hl 0 rfl) ?_
    refine lv_lload_n hx hb d_Reader_roleInExtension_8 rfl (lv_at hl 1 rfl) ?_
    refine lv_bipush (v := 6) hx hb d_Reader_roleInExtension_9 (by decide) ?_
    obtain ⟨u7, h8, hsh⟩ := im_bd hsh
    obtain ⟨g9, h10⟩ := im_is_s h8
    obtain ⟨v13, w11, h12, hsh⟩ := im_bd2 hsh
    refine im_afterI (va_runV (As := [.long x1, .int (6 : Int32)]) (rest := []) (C := RC_Reader) ⟨hx, hb, hml, hown, hts⟩ (met_Reader_isThere h12) ⟨(callB_of 2 hts (im_good wd_351) rfl rfl rfl (hts _ wd_3) (hts _ wd_348) (by decide +kernel) ⟨Nat.le_of_ble_eq_true rfl, Nat.le_of_ble_eq_true rfl⟩), hts _ wd_350, hts _ sl_Reader_isThere⟩ (im_preV im_NW_ok hK hN hH (ci := 5) rfl rfl h10 _) rfl rfl hl.1 rfl (lv_room (Nat.le_of_ble_eq_true rfl)) d_Reader_roleInExtension_11 ⟨Nat.le_of_ble_eq_true rfl, Nat.le_of_ble_eq_true rfl⟩) hH (fun H locs hH => ?_)
    refine lv_if_eq (tgt := 21) hx hb d_Reader_roleInExtension_14 (by decide) (fun cc => ?_) (fun cc => ?_)
    · have hsh := im_it hsh cc
      refine lv_bipush (v := 6) hx hb d_Reader_roleInExtension_21 (by decide) ?_
      exact bk_Reader_roleInExtension_23 X (6 : Int32) w11 hsh H locs ls hH (lv_sub hl [] rfl)
    · have hsh := im_if hsh cc
      refine lv_iconst (v := 0) hx hb d_Reader_roleInExtension_17 (by decide) ?_
      refine lv_goto (tgt := 23) hx hb d_Reader_roleInExtension_18 (by decide) ?_
      exact bk_Reader_roleInExtension_23 X (0 : Int32) w11 hsh H locs ls hH (lv_sub hl [] rfl)
theorem wd_279 : (Jvm.Cond.static ({ cls := "LanguageTags$Subtag", name := "isRegion", desc := "(J)Z" } : Jvm.MethodName)) ∈ im_T := im_memT (i := 279) (by decide +kernel) (by decide +kernel)
theorem wd_280 : (Jvm.Cond.code ({ cls := "LanguageTags$Subtag", name := "isRegion", desc := "(J)Z" } : Jvm.MethodName) prog_8_method_10_code (3 : Nat) (Option.some Jvm.ClassFile.FieldType.boolean)) ∈ im_T := im_memT (i := 280) (by decide +kernel) (by decide +kernel)
theorem wd_359 : (Jvm.Cond.constantLong "LanguageTags$Reader" (70 : Nat) (8430738502437568512 : Int64)) ∈ im_T := im_memT (i := 359) (by decide +kernel) (by decide +kernel)
theorem wd_360 : (Jvm.Cond.methodLink "LanguageTags$Reader" (92 : Nat) ({ cls := "LanguageTags$Subtag", name := "isScript", desc := "(J)Z" } : Jvm.MethodName)) ∈ im_T := im_memT (i := 360) (by decide +kernel) (by decide +kernel)
theorem wd_361 : (Jvm.Cond.static ({ cls := "LanguageTags$Subtag", name := "isScript", desc := "(J)Z" } : Jvm.MethodName)) ∈ im_T := im_memT (i := 361) (by decide +kernel) (by decide +kernel)
theorem wd_362 : (Jvm.Cond.code ({ cls := "LanguageTags$Subtag", name := "isScript", desc := "(J)Z" } : Jvm.MethodName) prog_8_method_9_code (2 : Nat) (Option.some Jvm.ClassFile.FieldType.boolean)) ∈ im_T := im_memT (i := 362) (by decide +kernel) (by decide +kernel)
theorem wd_363 : (Jvm.Cond.methodLink "LanguageTags$Reader" (95 : Nat) ({ cls := "LanguageTags$Subtag", name := "isRegion", desc := "(J)Z" } : Jvm.MethodName)) ∈ im_T := im_memT (i := 363) (by decide +kernel) (by decide +kernel)
theorem wd_364 : (Jvm.Cond.methodLink "LanguageTags$Reader" (98 : Nat) ({ cls := "LanguageTags$Subtag", name := "isVariant", desc := "(J)Z" } : Jvm.MethodName)) ∈ im_T := im_memT (i := 364) (by decide +kernel) (by decide +kernel)
theorem wd_365 : (Jvm.Cond.static ({ cls := "LanguageTags$Subtag", name := "isVariant", desc := "(J)Z" } : Jvm.MethodName)) ∈ im_T := im_memT (i := 365) (by decide +kernel) (by decide +kernel)
theorem wd_366 : (Jvm.Cond.code ({ cls := "LanguageTags$Subtag", name := "isVariant", desc := "(J)Z" } : Jvm.MethodName) prog_8_method_11_code (3 : Nat) (Option.some Jvm.ClassFile.FieldType.boolean)) ∈ im_T := im_memT (i := 366) (by decide +kernel) (by decide +kernel)
theorem d_Reader_roleInFront_0 : decode c_Reader_roleInFront 0 = .ok (.lload_n 1, 1) := by decide +kernel
theorem d_Reader_roleInFront_1 : decode c_Reader_roleInFront 1 = .ok (.ldc2_w 70, 3) := by decide +kernel
theorem d_Reader_roleInFront_4 : decode c_Reader_roleInFront 4 = .ok (.lcmp, 1) := by decide +kernel
theorem d_Reader_roleInFront_5 : decode c_Reader_roleInFront 5 = .ok (.ifCond .ne (5), 3) := by decide +kernel
theorem d_Reader_roleInFront_8 : decode c_Reader_roleInFront 8 = .ok (.iconst 5, 1) := by decide +kernel
theorem d_Reader_roleInFront_9 : decode c_Reader_roleInFront 9 = .ok (.ireturn, 1) := by decide +kernel
theorem d_Reader_roleInFront_10 : decode c_Reader_roleInFront 10 = .ok (.iload_n 3, 1) := by decide +kernel
theorem d_Reader_roleInFront_11 : decode c_Reader_roleInFront 11 = .ok (.iconst 2, 1) := by decide +kernel
theorem d_Reader_roleInFront_12 : decode c_Reader_roleInFront 12 = .ok (.if_icmp .ge (12), 3) := by decide +kernel
theorem d_Reader_roleInFront_15 : decode c_Reader_roleInFront 15 = .ok (.lload_n 1, 1) := by decide +kernel
theorem d_Reader_roleInFront_16 : decode c_Reader_roleInFront 16 = .ok (.invokestatic 92, 3) := by decide +kernel
theorem d_Reader_roleInFront_19 : decode c_Reader_roleInFront 19 = .ok (.ifCond .eq (5), 3) := by decide +kernel
theorem d_Reader_roleInFront_22 : decode c_Reader_roleInFront 22 = .ok (.iconst 2, 1) := by decide +kernel
theorem d_Reader_roleInFront_23 : decode c_Reader_roleInFront 23 = .ok (.ireturn, 1) := by decide +kernel
theorem d_Reader_roleInFront_24 : decode c_Reader_roleInFront 24 = .ok (.iload_n 3, 1) := by decide +kernel
theorem d_Reader_roleInFront_25 : decode c_Reader_roleInFront 25 = .ok (.iconst 3, 1) := by decide +kernel
theorem d_Reader_roleInFront_26 : decode c_Reader_roleInFront 26 = .ok (.if_icmp .ge (12), 3) := by decide +kernel
theorem d_Reader_roleInFront_29 : decode c_Reader_roleInFront 29 = .ok (.lload_n 1, 1) := by decide +kernel
theorem d_Reader_roleInFront_30 : decode c_Reader_roleInFront 30 = .ok (.invokestatic 95, 3) := by decide +kernel
theorem d_Reader_roleInFront_33 : decode c_Reader_roleInFront 33 = .ok (.ifCond .eq (5), 3) := by decide +kernel
theorem d_Reader_roleInFront_36 : decode c_Reader_roleInFront 36 = .ok (.iconst 3, 1) := by decide +kernel
theorem d_Reader_roleInFront_37 : decode c_Reader_roleInFront 37 = .ok (.ireturn, 1) := by decide +kernel
theorem d_Reader_roleInFront_38 : decode c_Reader_roleInFront 38 = .ok (.lload_n 1, 1) := by decide +kernel
theorem d_Reader_roleInFront_39 : decode c_Reader_roleInFront 39 = .ok (.invokestatic 98, 3) := by decide +kernel
theorem d_Reader_roleInFront_42 : decode c_Reader_roleInFront 42 = .ok (.ifCond .eq (16), 3) := by decide +kernel
theorem d_Reader_roleInFront_45 : decode c_Reader_roleInFront 45 = .ok (.aload_n 0, 1) := by decide +kernel
theorem d_Reader_roleInFront_46 : decode c_Reader_roleInFront 46 = .ok (.lload_n 1, 1) := by decide +kernel
theorem d_Reader_roleInFront_47 : decode c_Reader_roleInFront 47 = .ok (.iconst 4, 1) := by decide +kernel
theorem d_Reader_roleInFront_48 : decode c_Reader_roleInFront 48 = .ok (.invokevirtual 101, 3) := by decide +kernel
theorem d_Reader_roleInFront_51 : decode c_Reader_roleInFront 51 = .ok (.ifCond .ne (7), 3) := by decide +kernel
theorem d_Reader_roleInFront_54 : decode c_Reader_roleInFront 54 = .ok (.iconst 4, 1) := by decide +kernel
theorem d_Reader_roleInFront_55 : decode c_Reader_roleInFront 55 = .ok (.goto (4), 3) := by decide +kernel
theorem d_Reader_roleInFront_58 : decode c_Reader_roleInFront 58 = .ok (.iconst 0, 1) := by decide +kernel
theorem d_Reader_roleInFront_59 : decode c_Reader_roleInFront 59 = .ok (.ireturn, 1) := by decide +kernel
def sh_Reader_roleInFront_59 (F : Nat) (y0 : Int32) (w : im_W) : Option (Int32 × im_W) :=
  some (y0, w)
set_option maxHeartbeats 4000000 in
set_option maxRecDepth 100000 in
theorem bk_Reader_roleInFront_59 {F : Nat} {r : Int32 × im_W} (X : im_X D vwCl tA lo im_NW c_Reader_roleInFront 4 (some .int) RC_Reader im_T p s m args meth c) (y0 : Int32) (w : im_W) (hsh : sh_Reader_roleInFront_59 F y0 w = some r) : im_WW D vwCl tA lo 4 p l e (im_rm 3 67) s m args below meth c 0 0 (MQ below (im_Post D vwCl tA lo (some (.int r.1)) r.2) args s 0 0 (fun q => lo ≤ q)) 59 [] [.int y0] w := by
  obtain ⟨hx, hb, hr, hts, hown, hlk, hml, hK, hN⟩ := id X
  intro H locs ls hH hl
  unfold sh_Reader_roleInFront_59 at hsh
  obtain rfl := Option.some.inj hsh
  exact im_iret hx hb hr hlk hH d_Reader_roleInFront_59
def sh_Reader_roleInFront_58 (F : Nat)  (w : im_W) : Option (Int32 × im_W) :=
  sh_Reader_roleInFront_59 F (0 : Int32) w
set_option maxHeartbeats 4000000 in
set_option maxRecDepth 100000 in
theorem bk_Reader_roleInFront_58 {F : Nat} {r : Int32 × im_W} (X : im_X D vwCl tA lo im_NW c_Reader_roleInFront 4 (some .int) RC_Reader im_T p s m args meth c)  (w : im_W) (hsh : sh_Reader_roleInFront_58 F w = some r) : im_WW D vwCl tA lo 4 p l e (im_rm 3 67) s m args below meth c 0 0 (MQ below (im_Post D vwCl tA lo (some (.int r.1)) r.2) args s 0 0 (fun q => lo ≤ q)) 58 [] [] w := by
  obtain ⟨hx, hb, hr, hts, hown, hlk, hml, hK, hN⟩ := id X
  intro H locs ls hH hl
  unfold sh_Reader_roleInFront_58 at hsh
  refine lv_iconst (v := 0) hx hb d_Reader_roleInFront_58 (by decide) ?_
  exact bk_Reader_roleInFront_59 X (0 : Int32) w hsh H locs ls hH (lv_sub hl [] rfl)
def sh_Reader_roleInFront_38 (F : Nat) (x0 : Nat) (x1 : Int64) (w : im_W) : Option (Int32 × im_W) :=
  im_b2 (sh_Subtag_isVariant F x1 w) fun v3 w1 => (if v3 = 0 then sh_Reader_roleInFront_58 F w1 else (im_is w1 5 x0).bind fun u4 => im_b2 (sh_Reader_isThere F x0 x1 (4 : Int32) w1) fun v10 w8 => (if v10 = 0 then sh_Reader_roleInFront_59 F (4 : Int32) w8 else sh_Reader_roleInFront_58 F w8))
set_option maxHeartbeats 4000000 in
set_option maxRecDepth 100000 in
theorem bk_Reader_roleInFront_38 {F : Nat} {r : Int32 × im_W} (X : im_X D vwCl tA lo im_NW c_Reader_roleInFront 4 (some .int) RC_Reader im_T p s m args meth c) (x0 : Nat) (x1 : Int64) (w : im_W) (hsh : sh_Reader_roleInFront_38 F x0 x1 w = some r) : im_WW D vwCl tA lo 4 p l e (im_rm 3 67) s m args below meth c 0 0 (MQ below (im_Post D vwCl tA lo (some (.int r.1)) r.2) args s 0 0 (fun q => lo ≤ q)) 38 [(0, .ref (lo + x0)), (1, .long x1)] [] w := by
  obtain ⟨hx, hb, hr, hts, hown, hlk, hml, hK, hN⟩ := id X
  intro H locs ls hH hl
  unfold sh_Reader_roleInFront_38 at hsh
  refine lv_lload_n hx hb d_Reader_roleInFront_38 rfl (lv_at hl 1 rfl) ?_
  obtain ⟨v3, w1, h2, hsh⟩ := im_bd2 hsh
  refine im_afterI (va_runS (As := [.long x1]) (rest := []) ⟨hx, hb, hml, hown, hts⟩ (met_Subtag_isVariant h2) ⟨(callB_of 1 hts (im_good wd_366) rfl rfl rfl (hts _ wd_11) (hts _ wd_364) (by decide +kernel) ⟨Nat.le_of_ble_eq_true rfl, Nat.le_of_ble_eq_true rfl⟩), hts _ wd_365⟩ (im_pre im_NW_ok hK hN hH _) rfl rfl hl.1 rfl (lv_room (Nat.le_of_ble_eq_true rfl)) d_Reader_roleInFront_39 ⟨Nat.le_of_ble_eq_true rfl, Nat.le_of_ble_eq_true rfl⟩) hH (fun H locs hH => ?_)
  refine lv_if_eq (tgt := 58) hx hb d_Reader_roleInFront_42 (by decide) (fun cc => ?_) (fun cc => ?_)
  · have hsh := im_it hsh cc
    exact bk_Reader_roleInFront_58 X w1 hsh H locs ls hH (lv_sub hl [] rfl)
  · have hsh := im_if hsh cc
    refine lv_aload_n hx hb d_Reader_roleInFront_45 rfl (lv_at hl 0 rfl) ?_
    refine lv_lload_n hx hb d_Reader_roleInFront_46 rfl (lv_at hl 1 rfl) ?_
    refine lv_iconst (v := 4) hx hb d_Reader_roleInFront_47 (by decide) ?_
    obtain ⟨u4, h5, hsh⟩ := im_bd hsh
    obtain ⟨g6, h7⟩ := im_is_s h5
    obtain ⟨v10, w8, h9, hsh⟩ := im_bd2 hsh
    refine im_afterI (va_runV (As := [.long x1, .int (4 : Int32)]) (rest := []) (C := RC_Reader) ⟨hx, hb, hml, hown, hts⟩ (met_Reader_isThere h9) ⟨(callB_of 2 hts (im_good wd_351) rfl rfl rfl (hts _ wd_3) (hts _ wd_348) (by decide +kernel) ⟨Nat.le_of_ble_eq_true rfl, Nat.le_of_ble_eq_true rfl⟩), hts _ wd_350, hts _ sl_Reader_isThere⟩ (im_preV im_NW_ok hK hN hH (ci := 5) rfl rfl h7 _) rfl rfl hl.1 rfl (lv_room (Nat.le_of_ble_eq_true rfl)) d_Reader_roleInFront_48 ⟨Nat.le_of_ble_eq_true rfl, Nat.le_of_ble_eq_true rfl⟩) hH (fun H locs hH => ?_)
    refine lv_if_ne (tgt := 58) hx hb d_Reader_roleInFront_51 (by decide) (fun cc => ?_) (fun cc => ?_)
    · have hsh := im_if hsh cc
      exact bk_Reader_roleInFront_58 X w8 hsh H locs ls hH (lv_sub hl [] rfl)
    · have hsh := im_it hsh cc
      refine lv_iconst (v := 4) hx hb d_Reader_roleInFront_54 (by decide) ?_
      refine lv_goto (tgt := 59) hx hb d_Reader_roleInFront_55 (by decide) ?_
      exact bk_Reader_roleInFront_59 X (4 : Int32) w8 hsh H locs ls hH (lv_sub hl [] rfl)
def sh_Reader_roleInFront_24 (F : Nat) (x0 : Nat) (x1 : Int64) (x3 : Int32) (w : im_W) : Option (Int32 × im_W) :=
  (if (3 : Int32) ≤ x3 then sh_Reader_roleInFront_38 F x0 x1 w else im_b2 (sh_Subtag_isRegion F x1 w) fun v3 w1 => (if v3 = 0 then sh_Reader_roleInFront_38 F x0 x1 w1 else some ((3 : Int32), w1)))
set_option maxHeartbeats 4000000 in
set_option maxRecDepth 100000 in
theorem bk_Reader_roleInFront_24 {F : Nat} {r : Int32 × im_W} (X : im_X D vwCl tA lo im_NW c_Reader_roleInFront 4 (some .int) RC_Reader im_T p s m args meth c) (x0 : Nat) (x1 : Int64) (x3 : Int32) (w : im_W) (hsh : sh_Reader_roleInFront_24 F x0 x1 x3 w = some r) : im_WW D vwCl tA lo 4 p l e (im_rm 3 67) s m args below meth c 0 0 (MQ below (im_Post D vwCl tA lo (some (.int r.1)) r.2) args s 0 0 (fun q => lo ≤ q)) 24 [(0, .ref (lo + x0)), (1, .long x1), (3, .int x3)] [] w := by
  obtain ⟨hx, hb, hr, hts, hown, hlk, hml, hK, hN⟩ := id X
  intro H locs ls hH hl
  unfold sh_Reader_roleInFront_24 at hsh
  refine lv_iload_n hx hb d_Reader_roleInFront_24 rfl (lv_at hl 2 rfl) ?_
  refine lv_iconst (v := 3) hx hb d_Reader_roleInFront_25 (by decide) ?_
  refine lv_icmp_ge (tgt := 38) hx hb d_Reader_roleInFront_26 (by decide) (fun cc => ?_) (fun cc => ?_)
  · have hsh := im_it hsh cc
    exact bk_Reader_roleInFront_38 X x0 x1 w hsh H locs ls hH (lv_sub hl [0, 1] rfl)
  · have hsh := im_if hsh cc
    refine lv_lload_n hx hb d_Reader_roleInFront_29 rfl (lv_at hl 1 rfl) ?_
    obtain ⟨v3, w1, h2, hsh⟩ := im_bd2 hsh
    refine im_afterI (va_runS (As := [.long x1]) (rest := []) ⟨hx, hb, hml, hown, hts⟩ (met_Subtag_isRegion h2) ⟨(callB_of 1 hts (im_good wd_280) rfl rfl rfl (hts _ wd_11) (hts _ wd_363) (by decide +kernel) ⟨Nat.le_of_ble_eq_true rfl, Nat.le_of_ble_eq_true rfl⟩), hts _ wd_279⟩ (im_pre im_NW_ok hK hN hH _) rfl rfl hl.1 rfl (lv_room (Nat.le_of_ble_eq_true rfl)) d_Reader_roleInFront_30 ⟨Nat.le_of_ble_eq_true rfl, Nat.le_of_ble_eq_true rfl⟩) hH (fun H locs hH => ?_)
    refine lv_if_eq (tgt := 38) hx hb d_Reader_roleInFront_33 (by decide) (fun cc => ?_) (fun cc => ?_)
    · have hsh := im_it hsh cc
      exact bk_Reader_roleInFront_38 X x0 x1 w1 hsh H locs ls hH (lv_sub hl [0, 1] rfl)
    · have hsh := im_if hsh cc
      refine lv_iconst (v := 3) hx hb d_Reader_roleInFront_36 (by decide) ?_
      obtain rfl := Option.some.inj hsh
      exact im_iret hx hb hr hlk hH d_Reader_roleInFront_37
def sh_Reader_roleInFront (F : Nat) (x0 : Nat) (x1 : Int64) (x3 : Int32) (w : im_W) : Option (Int32 × im_W) :=
  (if (lg_cmp x1 (8430738502437568512 : Int64)) = 0 then some ((5 : Int32), w) else (if (2 : Int32) ≤ x3 then sh_Reader_roleInFront_24 F x0 x1 x3 w else im_b2 (sh_Subtag_isScript F x1 w) fun v3 w1 => (if v3 = 0 then sh_Reader_roleInFront_24 F x0 x1 x3 w1 else some ((2 : Int32), w1))))
set_option maxHeartbeats 4000000 in
set_option maxRecDepth 100000 in
theorem met_Reader_roleInFront {F : Nat} {x0 : Nat} {x1 : Int64} {x3 : Int32} {w : im_W} {r : Int32 × im_W} (hsh : sh_Reader_roleInFront F x0 x1 x3 w = some r) : Met l y_Reader_roleInFront (Cond.code y_Reader_roleInFront c_Reader_roleInFront 4 (some .int) :: im_T) (im_rm 3 67) (im_Pre D vwCl tA lo im_NW [.ref (lo + x0), .long x1, .int x3] w) (im_Post D vwCl tA lo (some (.int r.1)) r.2) 0 0 (fun q => lo ≤ q) := by
  refine im_ofW (cc := c_Reader_roleInFront) (nL := 4) (ret := (some .int)) (by decide) (Nat.le_of_ble_eq_true rfl) ?_
  intro p e s m args below meth c X H locs ls hH hl
  obtain ⟨hx, hb, hr, hts, hown, hlk, hml, hK, hN⟩ := id X
  have hl : lv_has ls 4 [(0, .ref (lo + x0)), (1, .long x1), (3, .int x3)] := hl
  unfold sh_Reader_roleInFront at hsh
  refine lv_lload_n hx hb d_Reader_roleInFront_0 rfl (lv_at hl 1 rfl) ?_
  refine lv_ldc2 (v := 8430738502437568512) hx hb hown (hts _ wd_359) d_Reader_roleInFront_1 ?_
  refine W.lcmp hx hb d_Reader_roleInFront_4 ?_
  refine lv_if_ne (tgt := 10) hx hb d_Reader_roleInFront_5 (by decide) (fun cc => ?_) (fun cc => ?_)
  · have hsh := im_if hsh cc
    refine lv_iload_n hx hb d_Reader_roleInFront_10 rfl (lv_at hl 2 rfl) ?_
    refine lv_iconst (v := 2) hx hb d_Reader_roleInFront_11 (by decide) ?_
    refine lv_icmp_ge (tgt := 24) hx hb d_Reader_roleInFront_12 (by decide) (fun cc => ?_) (fun cc => ?_)
    · have hsh := im_it hsh cc
      exact bk_Reader_roleInFront_24 X x0 x1 x3 w hsh H locs ls hH (lv_sub hl [0, 1, 2] rfl)
    · have hsh := im_if hsh cc
      refine lv_lload_n hx hb d_Reader_roleInFront_15 rfl (lv_at hl 1 rfl) ?_
      obtain ⟨v3, w1, h2, hsh⟩ := im_bd2 hsh
      refine im_afterI (va_runS (As := [.long x1]) (rest := []) ⟨hx, hb, hml, hown, hts⟩ (met_Subtag_isScript h2) ⟨(callB_of 1 hts (im_good wd_362) rfl rfl rfl (hts _ wd_11) (hts _ wd_360) (by decide +kernel) ⟨Nat.le_of_ble_eq_true rfl, Nat.le_of_ble_eq_true rfl⟩), hts _ wd_361⟩ (im_pre im_NW_ok hK hN hH _) rfl rfl hl.1 rfl (lv_room (Nat.le_of_ble_eq_true rfl)) d_Reader_roleInFront_16 ⟨Nat.le_of_ble_eq_true rfl, Nat.le_of_ble_eq_true rfl⟩) hH (fun H locs hH => ?_)
      refine lv_if_eq (tgt := 24) hx hb d_Reader_roleInFront_19 (by decide) (fun cc => ?_) (fun cc => ?_)
      · have hsh := im_it hsh cc
        exact bk_Reader_roleInFront_24 X x0 x1 x3 w1 hsh H locs ls hH (lv_sub hl [0, 1, 2] rfl)
      · have hsh := im_if hsh cc
        refine lv_iconst (v := 2) hx hb d_Reader_roleInFront_22 (by decide) ?_
        obtain rfl := Option.some.inj hsh
        exact im_iret hx hb hr hlk hH d_Reader_roleInFront_23
  · have hsh := im_it hsh cc
    refine lv_iconst (v := 5) hx hb d_Reader_roleInFront_8 (by decide) ?_
    obtain rfl := Option.some.inj hsh
    exact im_iret hx hb hr hlk hH d_Reader_roleInFront_9
theorem wd_292 : (Jvm.Cond.static ({ cls := "LanguageTags$Subtag", name := "isLanguage", desc := "(J)Z" } : Jvm.MethodName)) ∈ im_T := im_memT (i := 292) (by decide +kernel) (by decide +kernel)
theorem wd_293 : (Jvm.Cond.code ({ cls := "LanguageTags$Subtag", name := "isLanguage", desc := "(J)Z" } : Jvm.MethodName) prog_8_method_8_code (3 : Nat) (Option.some Jvm.ClassFile.FieldType.boolean)) ∈ im_T := im_memT (i := 293) (by decide +kernel) (by decide +kernel)
theorem wd_339 : (Jvm.Cond.methodLink "LanguageTags$Reader" (80 : Nat) ({ cls := "LanguageTags$Subtag", name := "isLanguage", desc := "(J)Z" } : Jvm.MethodName)) ∈ im_T := im_memT (i := 339) (by decide +kernel) (by decide +kernel)
theorem wd_340 : (Jvm.Cond.constantLong "LanguageTags$Reader" (84 : Nat) (8646911284551352320 : Int64)) ∈ im_T := im_memT (i := 340) (by decide +kernel) (by decide +kernel)
theorem wd_341 : (Jvm.Cond.methodLink "LanguageTags$Reader" (86 : Nat) ({ cls := "LanguageTags$Reader", name := "roleInExtension", desc := "(JI)I" } : Jvm.MethodName)) ∈ im_T := im_memT (i := 341) (by decide +kernel) (by decide +kernel)
theorem wd_343 : (Jvm.Cond.instanceMethod ({ cls := "LanguageTags$Reader", name := "roleInExtension", desc := "(JI)I" } : Jvm.MethodName)) ∈ im_T := im_memT (i := 343) (by decide +kernel) (by decide +kernel)
theorem wd_344 : (Jvm.Cond.code ({ cls := "LanguageTags$Reader", name := "roleInExtension", desc := "(JI)I" } : Jvm.MethodName) prog_7_method_6_code (4 : Nat) (Option.some Jvm.ClassFile.FieldType.int)) ∈ im_T := im_memT (i := 344) (by decide +kernel) (by decide +kernel)
theorem wd_355 : (Jvm.Cond.methodLink "LanguageTags$Reader" (89 : Nat) ({ cls := "LanguageTags$Reader", name := "roleInFront", desc := "(JI)I" } : Jvm.MethodName)) ∈ im_T := im_memT (i := 355) (by decide +kernel) (by decide +kernel)
theorem wd_357 : (Jvm.Cond.instanceMethod ({ cls := "LanguageTags$Reader", name := "roleInFront", desc := "(JI)I" } : Jvm.MethodName)) ∈ im_T := im_memT (i := 357) (by decide +kernel) (by decide +kernel)
theorem wd_358 : (Jvm.Cond.code ({ cls := "LanguageTags$Reader", name := "roleInFront", desc := "(JI)I" } : Jvm.MethodName) prog_7_method_5_code (4 : Nat) (Option.some Jvm.ClassFile.FieldType.int)) ∈ im_T := im_memT (i := 358) (by decide +kernel) (by decide +kernel)
theorem d_Reader_roleOf_0 : decode c_Reader_roleOf 0 = .ok (.lload_n 1, 1) := by decide +kernel
theorem d_Reader_roleOf_1 : decode c_Reader_roleOf 1 = .ok (.lconst 0, 1) := by decide +kernel
theorem d_Reader_roleOf_2 : decode c_Reader_roleOf 2 = .ok (.lcmp, 1) := by decide +kernel
theorem d_Reader_roleOf_3 : decode c_Reader_roleOf 3 = .ok (.ifCond .ne (5), 3) := by decide +kernel
theorem d_Reader_roleOf_6 : decode c_Reader_roleOf 6 = .ok (.iconst 0, 1) := by decide +kernel
theorem d_Reader_roleOf_7 : decode c_Reader_roleOf 7 = .ok (.ireturn, 1) := by decide +kernel
theorem d_Reader_roleOf_8 : decode c_Reader_roleOf 8 = .ok (.iload_n 3, 1) := by decide +kernel
theorem d_Reader_roleOf_9 : decode c_Reader_roleOf 9 = .ok (.ifCond .ne (16), 3) := by decide +kernel
theorem d_Reader_roleOf_12 : decode c_Reader_roleOf 12 = .ok (.lload_n 1, 1) := by decide +kernel
theorem d_Reader_roleOf_13 : decode c_Reader_roleOf 13 = .ok (.invokestatic 80, 3) := by decide +kernel
theorem d_Reader_roleOf_16 : decode c_Reader_roleOf 16 = .ok (.ifCond .eq (7), 3) := by decide +kernel
theorem d_Reader_roleOf_19 : decode c_Reader_roleOf 19 = .ok (.iconst 1, 1) := by decide +kernel
theorem d_Reader_roleOf_20 : decode c_Reader_roleOf 20 = .ok (.goto (4), 3) := by decide +kernel
theorem d_Reader_roleOf_23 : decode c_Reader_roleOf 23 = .ok (.iconst 0, 1) := by decide +kernel
theorem d_Reader_roleOf_24 : decode c_Reader_roleOf 24 = .ok (.ireturn, 1) := by decide +kernel
theorem d_Reader_roleOf_25 : decode c_Reader_roleOf 25 = .ok (.iload_n 3, 1) := by decide +kernel
theorem d_Reader_roleOf_26 : decode c_Reader_roleOf 26 = .ok (.bipush (8), 2) := by decide +kernel
theorem d_Reader_roleOf_28 : decode c_Reader_roleOf 28 = .ok (.if_icmp .lt (6), 3) := by decide +kernel
theorem d_Reader_roleOf_31 : decode c_Reader_roleOf 31 = .ok (.bipush (9), 2) := by decide +kernel
theorem d_Reader_roleOf_33 : decode c_Reader_roleOf 33 = .ok (.ireturn, 1) := by decide +kernel
theorem d_Reader_roleOf_34 : decode c_Reader_roleOf 34 = .ok (.lload_n 1, 1) := by decide +kernel
theorem d_Reader_roleOf_35 : decode c_Reader_roleOf 35 = .ok (.ldc2_w 84, 3) := by decide +kernel
theorem d_Reader_roleOf_38 : decode c_Reader_roleOf 38 = .ok (.lcmp, 1) := by decide +kernel
theorem d_Reader_roleOf_39 : decode c_Reader_roleOf 39 = .ok (.ifCond .ne (15), 3) := by decide +kernel
theorem d_Reader_roleOf_42 : decode c_Reader_roleOf 42 = .ok (.iload_n 3, 1) := by decide +kernel
theorem d_Reader_roleOf_43 : decode c_Reader_roleOf 43 = .ok (.iconst 5, 1) := by decide +kernel
theorem d_Reader_roleOf_44 : decode c_Reader_roleOf 44 = .ok (.if_icmp .ne (7), 3) := by decide +kernel
theorem d_Reader_roleOf_47 : decode c_Reader_roleOf 47 = .ok (.iconst 0, 1) := by decide +kernel
theorem d_Reader_roleOf_48 : decode c_Reader_roleOf 48 = .ok (.goto (5), 3) := by decide +kernel
theorem d_Reader_roleOf_51 : decode c_Reader_roleOf 51 = .ok (.bipush (8), 2) := by decide +kernel
theorem d_Reader_roleOf_53 : decode c_Reader_roleOf 53 = .ok (.ireturn, 1) := by decide +kernel
theorem d_Reader_roleOf_54 : decode c_Reader_roleOf 54 = .ok (.iload_n 3, 1) := by decide +kernel
theorem d_Reader_roleOf_55 : decode c_Reader_roleOf 55 = .ok (.iconst 5, 1) := by decide +kernel
theorem d_Reader_roleOf_56 : decode c_Reader_roleOf 56 = .ok (.if_icmp .lt (12), 3) := by decide +kernel
theorem d_Reader_roleOf_59 : decode c_Reader_roleOf 59 = .ok (.aload_n 0, 1) := by decide +kernel
theorem d_Reader_roleOf_60 : decode c_Reader_roleOf 60 = .ok (.lload_n 1, 1) := by decide +kernel
theorem d_Reader_roleOf_61 : decode c_Reader_roleOf 61 = .ok (.iload_n 3, 1) := by decide +kernel
theorem d_Reader_roleOf_62 : decode c_Reader_roleOf 62 = .ok (.invokevirtual 86, 3) := by decide +kernel
theorem d_Reader_roleOf_65 : decode c_Reader_roleOf 65 = .ok (.goto (9), 3) := by decide +kernel
theorem d_Reader_roleOf_68 : decode c_Reader_roleOf 68 = .ok (.aload_n 0, 1) := by decide +kernel
theorem d_Reader_roleOf_69 : decode c_Reader_roleOf 69 = .ok (.lload_n 1, 1) := by decide +kernel
theorem d_Reader_roleOf_70 : decode c_Reader_roleOf 70 = .ok (.iload_n 3, 1) := by decide +kernel
theorem d_Reader_roleOf_71 : decode c_Reader_roleOf 71 = .ok (.invokevirtual 89, 3) := by decide +kernel
theorem d_Reader_roleOf_74 : decode c_Reader_roleOf 74 = .ok (.ireturn, 1) := by decide +kernel
def sh_Reader_roleOf_24 (F : Nat) (y0 : Int32) (w : im_W) : Option (Int32 × im_W) :=
  some (y0, w)
set_option maxHeartbeats 4000000 in
set_option maxRecDepth 100000 in
theorem bk_Reader_roleOf_24 {F : Nat} {r : Int32 × im_W} (X : im_X D vwCl tA lo im_NW c_Reader_roleOf 4 (some .int) RC_Reader im_T p s m args meth c) (y0 : Int32) (w : im_W) (hsh : sh_Reader_roleOf_24 F y0 w = some r) : im_WW D vwCl tA lo 4 p l e (im_rm 4 90) s m args below meth c 0 0 (MQ below (im_Post D vwCl tA lo (some (.int r.1)) r.2) args s 0 0 (fun q => lo ≤ q)) 24 [] [.int y0] w := by
  obtain ⟨hx, hb, hr, hts, hown, hlk, hml, hK, hN⟩ := id X
  intro H locs ls hH hl
  unfold sh_Reader_roleOf_24 at hsh
  obtain rfl := Option.some.inj hsh
  exact im_iret hx hb hr hlk hH d_Reader_roleOf_24
def sh_Reader_roleOf_53 (F : Nat) (y0 : Int32) (w : im_W) : Option (Int32 × im_W) :=
  some (y0, w)
set_option maxHeartbeats 4000000 in
set_option maxRecDepth 100000 in
theorem bk_Reader_roleOf_53 {F : Nat} {r : Int32 × im_W} (X : im_X D vwCl tA lo im_NW c_Reader_roleOf 4 (some .int) RC_Reader im_T p s m args meth c) (y0 : Int32) (w : im_W) (hsh : sh_Reader_roleOf_53 F y0 w = some r) : im_WW D vwCl tA lo 4 p l e (im_rm 4 90) s m args below meth c 0 0 (MQ below (im_Post D vwCl tA lo (some (.int r.1)) r.2) args s 0 0 (fun q => lo ≤ q)) 53 [] [.int y0] w := by
  obtain ⟨hx, hb, hr, hts, hown, hlk, hml, hK, hN⟩ := id X
  intro H locs ls hH hl
  unfold sh_Reader_roleOf_53 at hsh
  obtain rfl := Option.some.inj hsh
  exact im_iret hx hb hr hlk hH d_Reader_roleOf_53
def sh_Reader_roleOf_74 (F : Nat) (y0 : Int32) (w : im_W) : Option (Int32 × im_W) :=
  some (y0, w)
set_option maxHeartbeats 4000000 in
set_option maxRecDepth 100000 in
theorem bk_Reader_roleOf_74 {F : Nat} {r : Int32 × im_W} (X : im_X D vwCl tA lo im_NW c_Reader_roleOf 4 (some .int) RC_Reader im_T p s m args meth c) (y0 : Int32) (w : im_W) (hsh : sh_Reader_roleOf_74 F y0 w = some r) : im_WW D vwCl tA lo 4 p l e (im_rm 4 90) s m args below meth c 0 0 (MQ below (im_Post D vwCl tA lo (some (.int r.1)) r.2) args s 0 0 (fun q => lo ≤ q)) 74 [] [.int y0] w := by
  obtain ⟨hx, hb, hr, hts, hown, hlk, hml, hK, hN⟩ := id X
  intro H locs ls hH hl
  unfold sh_Reader_roleOf_74 at hsh
  obtain rfl := Option.some.inj hsh
  exact im_iret hx hb hr hlk hH d_Reader_roleOf_74
def sh_Reader_roleOf (F : Nat) (x0 : Nat) (x1 : Int64) (x3 : Int32) (w : im_W) : Option (Int32 × im_W) :=
  (if (lg_cmp x1 (0 : Int64)) = 0 then some ((0 : Int32), w) else (if x3 = 0 then im_b2 (sh_Subtag_isLanguage F x1 w) fun v17 w15 => (if v17 = 0 then sh_Reader_roleOf_24 F (0 : Int32) w15 else sh_Reader_roleOf_24 F (1 : Int32) w15) else (if x3 < (8 : Int32) then (if (lg_cmp x1 (8646911284551352320 : Int64)) = 0 then (if x3 = (5 : Int32) then sh_Reader_roleOf_53 F (0 : Int32) w else sh_Reader_roleOf_53 F (8 : Int32) w) else (if x3 < (5 : Int32) then (im_is w 5 x0).bind fun u1 => im_b2 (sh_Reader_roleInFront F x0 x1 x3 w) fun v7 w5 => sh_Reader_roleOf_74 F v7 w5 else (im_is w 5 x0).bind fun u8 => im_b2 (sh_Reader_roleInExtension F x0 x1 x3 w) fun v14 w12 => sh_Reader_roleOf_74 F v14 w12)) else some ((9 : Int32), w))))
set_option maxHeartbeats 4000000 in
set_option maxRecDepth 100000 in
theorem met_Reader_roleOf {F : Nat} {x0 : Nat} {x1 : Int64} {x3 : Int32} {w : im_W} {r : Int32 × im_W} (hsh : sh_Reader_roleOf F x0 x1 x3 w = some r) : Met l y_Reader_roleOf (Cond.code y_Reader_roleOf c_Reader_roleOf 4 (some .int) :: im_T) (im_rm 4 90) (im_Pre D vwCl tA lo im_NW [.ref (lo + x0), .long x1, .int x3] w) (im_Post D vwCl tA lo (some (.int r.1)) r.2) 0 0 (fun q => lo ≤ q) := by
  refine im_ofW (cc := c_Reader_roleOf) (nL := 4) (ret := (some .int)) (by decide) (Nat.le_of_ble_eq_true rfl) ?_
  intro p e s m args below meth c X H locs ls hH hl
  obtain ⟨hx, hb, hr, hts, hown, hlk, hml, hK, hN⟩ := id X
  have hl : lv_has ls 4 [(0, .ref (lo + x0)), (1, .long x1), (3, .int x3)] := hl
  unfold sh_Reader_roleOf at hsh
  refine lv_lload_n hx hb d_Reader_roleOf_0 rfl (lv_at hl 1 rfl) ?_
  refine lv_lconst (v := 0) hx hb d_Reader_roleOf_1 (by decide) ?_
  refine W.lcmp hx hb d_Reader_roleOf_2 ?_
  refine lv_if_ne (tgt := 8) hx hb d_Reader_roleOf_3 (by decide) (fun cc => ?_) (fun cc => ?_)
  · have hsh := im_if hsh cc
    refine lv_iload_n hx hb d_Reader_roleOf_8 rfl (lv_at hl 2 rfl) ?_
    refine lv_if_ne (tgt := 25) hx hb d_Reader_roleOf_9 (by decide) (fun cc => ?_) (fun cc => ?_)
    · have hsh := im_if hsh cc
      refine lv_iload_n hx hb d_Reader_roleOf_25 rfl (lv_at hl 2 rfl) ?_
      refine lv_bipush (v := 8) hx hb d_Reader_roleOf_26 (by decide) ?_
      refine lv_icmp_lt (tgt := 34) hx hb d_Reader_roleOf_28 (by decide) (fun cc => ?_) (fun cc => ?_)
      · have hsh := im_it hsh cc
        refine lv_lload_n hx hb d_Reader_roleOf_34 rfl (lv_at hl 1 rfl) ?_
        refine lv_ldc2 (v := 8646911284551352320) hx hb hown (hts _ wd_340) d_Reader_roleOf_35 ?_
        refine W.lcmp hx hb d_Reader_roleOf_38 ?_
        refine lv_if_ne (tgt := 54) hx hb d_Reader_roleOf_39 (by decide) (fun cc => ?_) (fun cc => ?_)
        · have hsh := im_if hsh cc
          refine lv_iload_n hx hb d_Reader_roleOf_54 rfl (lv_at hl 2 rfl) ?_
          refine lv_iconst (v := 5) hx hb d_Reader_roleOf_55 (by decide) ?_
          refine lv_icmp_lt (tgt := 68) hx hb d_Reader_roleOf_56 (by decide) (fun cc => ?_) (fun cc => ?_)
          · have hsh := im_it hsh cc
            refine lv_aload_n hx hb d_Reader_roleOf_68 rfl (lv_at hl 0 rfl) ?_
            refine lv_lload_n hx hb d_Reader_roleOf_69 rfl (lv_at hl 1 rfl) ?_
            refine lv_iload_n hx hb d_Reader_roleOf_70 rfl (lv_at hl 2 rfl) ?_
            obtain ⟨u1, h2, hsh⟩ := im_bd hsh
            obtain ⟨g3, h4⟩ := im_is_s h2
            obtain ⟨v7, w5, h6, hsh⟩ := im_bd2 hsh
            refine im_afterI (va_runV (As := [.long x1, .int x3]) (rest := []) (C := RC_Reader) ⟨hx, hb, hml, hown, hts⟩ (met_Reader_roleInFront h6) ⟨(callB_of 2 hts (im_good wd_358) rfl rfl rfl (hts _ wd_3) (hts _ wd_355) (by decide +kernel) ⟨Nat.le_of_ble_eq_true rfl, Nat.le_of_ble_eq_true rfl⟩), hts _ wd_357, hts _ sl_Reader_roleInFront⟩ (im_preV im_NW_ok hK hN hH (ci := 5) rfl rfl h4 _) rfl rfl hl.1 rfl (lv_room (Nat.le_of_ble_eq_true rfl)) d_Reader_roleOf_71 ⟨Nat.le_of_ble_eq_true rfl, Nat.le_of_ble_eq_true rfl⟩) hH (fun H locs hH => ?_)
            exact bk_Reader_roleOf_74 X v7 w5 hsh H locs ls hH (lv_sub hl [] rfl)
          · have hsh := im_if hsh cc
            refine lv_aload_n hx hb d_Reader_roleOf_59 rfl (lv_at hl 0 rfl) ?_
            refine lv_lload_n hx hb d_Reader_roleOf_60 rfl (lv_at hl 1 rfl) ?_
            refine lv_iload_n hx hb d_Reader_roleOf_61 rfl (lv_at hl 2 rfl) ?_
            obtain ⟨u8, h9, hsh⟩ := im_bd hsh
            obtain ⟨g10, h11⟩ := im_is_s h9
            obtain ⟨v14, w12, h13, hsh⟩ := im_bd2 hsh
            refine im_afterI (va_runV (As := [.long x1, .int x3]) (rest := []) (C := RC_Reader) ⟨hx, hb, hml, hown, hts⟩ (met_Reader_roleInExtension h13) ⟨(callB_of 2 hts (im_good wd_344) rfl rfl rfl (hts _ wd_3) (hts _ wd_341) (by decide +kernel) ⟨Nat.le_of_ble_eq_true rfl, Nat.le_of_ble_eq_true rfl⟩), hts _ wd_343, hts _ sl_Reader_roleInExtension⟩ (im_preV im_NW_ok hK hN hH (ci := 5) rfl rfl h11 _) rfl rfl hl.1 rfl (lv_room (Nat.le_of_ble_eq_true rfl)) d_Reader_roleOf_62 ⟨Nat.le_of_ble_eq_true rfl, Nat.le_of_ble_eq_true rfl⟩) hH (fun H locs hH => ?_)
            refine lv_goto (tgt := 74) hx hb d_Reader_roleOf_65 (by decide) ?_
            exact bk_Reader_roleOf_74 X v14 w12 hsh H locs ls hH (lv_sub hl [] rfl)
        · have hsh := im_it hsh cc
          refine lv_iload_n hx hb d_Reader_roleOf_42 rfl (lv_at hl 2 rfl) ?_
          refine lv_iconst (v := 5) hx hb d_Reader_roleOf_43 (by decide) ?_
          refine lv_icmp_ne (tgt := 51) hx hb d_Reader_roleOf_44 (by decide) (fun cc => ?_) (fun cc => ?_)
          · have hsh := im_if hsh cc
            refine lv_bipush (v := 8) hx hb d_Reader_roleOf_51 (by decide) ?_
            exact bk_Reader_roleOf_53 X (8 : Int32) w hsh H locs ls hH (lv_sub hl [] rfl)
          · have hsh := im_it hsh cc
            refine lv_iconst (v := 0) hx hb d_Reader_roleOf_47 (by decide) ?_
            refine lv_goto (tgt := 53) hx hb d_Reader_roleOf_48 (by decide) ?_
            exact bk_Reader_roleOf_53 X (0 : Int32) w hsh H locs ls hH (lv_sub hl [] rfl)
      · have hsh := im_if hsh cc
        refine lv_bipush (v := 9) hx hb d_Reader_roleOf_31 (by decide) ?_
        obtain rfl := Option.some.inj hsh
        exact im_iret hx hb hr hlk hH d_Reader_roleOf_33
    · have hsh := im_it hsh cc
      refine lv_lload_n hx hb d_Reader_roleOf_12 rfl (lv_at hl 1 rfl) ?_
      obtain ⟨v17, w15, h16, hsh⟩ := im_bd2 hsh
      refine im_afterI (va_runS (As := [.long x1]) (rest := []) ⟨hx, hb, hml, hown, hts⟩ (met_Subtag_isLanguage h16) ⟨(callB_of 1 hts (im_good wd_293) rfl rfl rfl (hts _ wd_11) (hts _ wd_339) (by decide +kernel) ⟨Nat.le_of_ble_eq_true rfl, Nat.le_of_ble_eq_true rfl⟩), hts _ wd_292⟩ (im_pre im_NW_ok hK hN hH _) rfl rfl hl.1 rfl (lv_room (Nat.le_of_ble_eq_true rfl)) d_Reader_roleOf_13 ⟨Nat.le_of_ble_eq_true rfl, Nat.le_of_ble_eq_true rfl⟩) hH (fun H locs hH => ?_)
      refine lv_if_eq (tgt := 23) hx hb d_Reader_roleOf_16 (by decide) (fun cc => ?_) (fun cc => ?_)
      · have hsh := im_it hsh cc
        refine lv_iconst (v := 0) hx hb d_Reader_roleOf_23 (by decide) ?_
        exact bk_Reader_roleOf_24 X (0 : Int32) w15 hsh H locs ls hH (lv_sub hl [] rfl)
      · have hsh := im_if hsh cc
        refine lv_iconst (v := 1) hx hb d_Reader_roleOf_19 (by decide) ?_
        refine lv_goto (tgt := 24) hx hb d_Reader_roleOf_20 (by decide) ?_
        exact bk_Reader_roleOf_24 X (1 : Int32) w15 hsh H locs ls hH (lv_sub hl [] rfl)
  · have hsh := im_it hsh cc
    refine lv_iconst (v := 0) hx hb d_Reader_roleOf_6 (by decide) ?_
    obtain rfl := Option.some.inj hsh
    exact im_iret hx hb hr hlk hH d_Reader_roleOf_7
theorem wd_235 : (Jvm.Cond.static ({ cls := "LanguageTags$Subtag", name := "isCut", desc := "(C)Z" } : Jvm.MethodName)) ∈ im_T := im_memT (i := 235) (by decide +kernel) (by decide +kernel)
theorem wd_236 : (Jvm.Cond.code ({ cls := "LanguageTags$Subtag", name := "isCut", desc := "(C)Z" } : Jvm.MethodName) prog_8_method_4_code (1 : Nat) (Option.some Jvm.ClassFile.FieldType.boolean)) ∈ im_T := im_memT (i := 236) (by decide +kernel) (by decide +kernel)
theorem wd_263 : (Jvm.Cond.static ({ cls := "LanguageTags$Subtag", name := "cutOut", desc := "(LLanguageTags$Text;II)J" } : Jvm.MethodName)) ∈ im_T := im_memT (i := 263) (by decide +kernel) (by decide +kernel)
theorem wd_264 : (Jvm.Cond.code ({ cls := "LanguageTags$Subtag", name := "cutOut", desc := "(LLanguageTags$Text;II)J" } : Jvm.MethodName) prog_8_method_5_code (10 : Nat) (Option.some Jvm.ClassFile.FieldType.long)) ∈ im_T := im_memT (i := 264) (by decide +kernel) (by decide +kernel)
theorem wd_332 : (Jvm.Cond.methodLink "LanguageTags$Reader" (23 : Nat) ({ cls := "LanguageTags$Text", name := "at", desc := "(I)C" } : Jvm.MethodName)) ∈ im_T := im_memT (i := 332) (by decide +kernel) (by decide +kernel)
theorem wd_333 : (Jvm.Cond.methodLink "LanguageTags$Reader" (29 : Nat) ({ cls := "LanguageTags$Subtag", name := "isCut", desc := "(C)Z" } : Jvm.MethodName)) ∈ im_T := im_memT (i := 333) (by decide +kernel) (by decide +kernel)
theorem wd_334 : (Jvm.Cond.methodLink "LanguageTags$Reader" (35 : Nat) ({ cls := "LanguageTags$Subtag", name := "cutOut", desc := "(LLanguageTags$Text;II)J" } : Jvm.MethodName)) ∈ im_T := im_memT (i := 334) (by decide +kernel) (by decide +kernel)
theorem wd_335 : (Jvm.Cond.methodLink "LanguageTags$Reader" (39 : Nat) ({ cls := "LanguageTags$Reader", name := "roleOf", desc := "(JI)I" } : Jvm.MethodName)) ∈ im_T := im_memT (i := 335) (by decide +kernel) (by decide +kernel)
theorem wd_337 : (Jvm.Cond.instanceMethod ({ cls := "LanguageTags$Reader", name := "roleOf", desc := "(JI)I" } : Jvm.MethodName)) ∈ im_T := im_memT (i := 337) (by decide +kernel) (by decide +kernel)
theorem wd_338 : (Jvm.Cond.code ({ cls := "LanguageTags$Reader", name := "roleOf", desc := "(JI)I" } : Jvm.MethodName) prog_7_method_4_code (4 : Nat) (Option.some Jvm.ClassFile.FieldType.int)) ∈ im_T := im_memT (i := 338) (by decide +kernel) (by decide +kernel)
theorem d_Reader_cutTag_0 : decode c_Reader_cutTag 0 = .ok (.aload_n 0, 1) := by decide +kernel
theorem d_Reader_cutTag_1 : decode c_Reader_cutTag 1 = .ok (.iconst 0, 1) := by decide +kernel
theorem d_Reader_cutTag_2 : decode c_Reader_cutTag 2 = .ok (.putfield 19, 3) := by decide +kernel
theorem d_Reader_cutTag_5 : decode c_Reader_cutTag 5 = .ok (.iconst 0, 1) := by decide +kernel
theorem d_Reader_cutTag_6 : decode c_Reader_cutTag 6 = .ok (.istore 4, 2) := by decide +kernel
theorem d_Reader_cutTag_8 : decode c_Reader_cutTag 8 = .ok (.iload_n 2, 1) := by decide +kernel
theorem d_Reader_cutTag_9 : decode c_Reader_cutTag 9 = .ok (.istore 5, 2) := by decide +kernel
theorem d_Reader_cutTag_11 : decode c_Reader_cutTag 11 = .ok (.iload_n 2, 1) := by decide +kernel
theorem d_Reader_cutTag_12 : decode c_Reader_cutTag 12 = .ok (.istore 6, 2) := by decide +kernel
theorem d_Reader_cutTag_14 : decode c_Reader_cutTag 14 = .ok (.iload 6, 2) := by decide +kernel
theorem d_Reader_cutTag_16 : decode c_Reader_cutTag 16 = .ok (.iload_n 3, 1) := by decide +kernel
theorem d_Reader_cutTag_17 : decode c_Reader_cutTag 17 = .ok (.if_icmp .gt (107), 3) := by decide +kernel
theorem d_Reader_cutTag_20 : decode c_Reader_cutTag 20 = .ok (.iload 6, 2) := by decide +kernel
theorem d_Reader_cutTag_22 : decode c_Reader_cutTag 22 = .ok (.iload_n 3, 1) := by decide +kernel
theorem d_Reader_cutTag_23 : decode c_Reader_cutTag 23 = .ok (.if_icmp .ge (18), 3) := by decide +kernel
theorem d_Reader_cutTag_26 : decode c_Reader_cutTag 26 = .ok (.aload_n 1, 1) := by decide +kernel
theorem d_Reader_cutTag_27 : decode c_Reader_cutTag 27 = .ok (.iload 6, 2) := by decide +kernel
theorem d_Reader_cutTag_29 : decode c_Reader_cutTag 29 = .ok (.invokevirtual 23, 3) := by decide +kernel
theorem d_Reader_cutTag_32 : decode c_Reader_cutTag 32 = .ok (.invokestatic 29, 3) := by decide +kernel
theorem d_Reader_cutTag_35 : decode c_Reader_cutTag 35 = .ok (.ifCond .ne (6), 3) := by decide +kernel
theorem d_Reader_cutTag_38 : decode c_Reader_cutTag 38 = .ok (.goto (80), 3) := by decide +kernel
theorem d_Reader_cutTag_41 : decode c_Reader_cutTag 41 = .ok (.aload_n 1, 1) := by decide +kernel
theorem d_Reader_cutTag_42 : decode c_Reader_cutTag 42 = .ok (.iload 5, 2) := by decide +kernel
theorem d_Reader_cutTag_44 : decode c_Reader_cutTag 44 = .ok (.iload 6, 2) := by decide +kernel
theorem d_Reader_cutTag_46 : decode c_Reader_cutTag 46 = .ok (.invokestatic 35, 3) := by decide +kernel
theorem d_Reader_cutTag_49 : decode c_Reader_cutTag 49 = .ok (.lstore 7, 2) := by decide +kernel
theorem d_Reader_cutTag_51 : decode c_Reader_cutTag 51 = .ok (.aload_n 0, 1) := by decide +kernel
theorem d_Reader_cutTag_52 : decode c_Reader_cutTag 52 = .ok (.lload 7, 2) := by decide +kernel
theorem d_Reader_cutTag_54 : decode c_Reader_cutTag 54 = .ok (.iload 4, 2) := by decide +kernel
theorem d_Reader_cutTag_56 : decode c_Reader_cutTag 56 = .ok (.invokevirtual 39, 3) := by decide +kernel
theorem d_Reader_cutTag_59 : decode c_Reader_cutTag 59 = .ok (.istore 4, 2) := by decide +kernel
theorem d_Reader_cutTag_61 : decode c_Reader_cutTag 61 = .ok (.iload 4, 2) := by decide +kernel
theorem d_Reader_cutTag_63 : decode c_Reader_cutTag 63 = .ok (.ifCond .eq (12), 3) := by decide +kernel
theorem d_Reader_cutTag_66 : decode c_Reader_cutTag 66 = .ok (.aload_n 0, 1) := by decide +kernel
theorem d_Reader_cutTag_67 : decode c_Reader_cutTag 67 = .ok (.getfield 19, 3) := by decide +kernel
theorem d_Reader_cutTag_70 : decode c_Reader_cutTag 70 = .ok (.bipush (30), 2) := by decide +kernel
theorem d_Reader_cutTag_72 : decode c_Reader_cutTag 72 = .ok (.if_icmp .lt (8), 3) := by decide +kernel
theorem d_Reader_cutTag_75 : decode c_Reader_cutTag 75 = .ok (.iload 5, 2) := by decide +kernel
theorem d_Reader_cutTag_77 : decode c_Reader_cutTag 77 = .ok (.iload_n 2, 1) := by decide +kernel
theorem d_Reader_cutTag_78 : decode c_Reader_cutTag 78 = .ok (.isub, 1) := by decide +kernel
theorem d_Reader_cutTag_79 : decode c_Reader_cutTag 79 = .ok (.ireturn, 1) := by decide +kernel
theorem d_Reader_cutTag_80 : decode c_Reader_cutTag 80 = .ok (.aload_n 0, 1) := by decide +kernel
theorem d_Reader_cutTag_81 : decode c_Reader_cutTag 81 = .ok (.getfield 9, 3) := by decide +kernel
theorem d_Reader_cutTag_84 : decode c_Reader_cutTag 84 = .ok (.aload_n 0, 1) := by decide +kernel
theorem d_Reader_cutTag_85 : decode c_Reader_cutTag 85 = .ok (.getfield 19, 3) := by decide +kernel
theorem d_Reader_cutTag_88 : decode c_Reader_cutTag 88 = .ok (.lload 7, 2) := by decide +kernel
theorem d_Reader_cutTag_90 : decode c_Reader_cutTag 90 = .ok (.lastore, 1) := by decide +kernel
theorem d_Reader_cutTag_91 : decode c_Reader_cutTag 91 = .ok (.aload_n 0, 1) := by decide +kernel
theorem d_Reader_cutTag_92 : decode c_Reader_cutTag 92 = .ok (.getfield 15, 3) := by decide +kernel
theorem d_Reader_cutTag_95 : decode c_Reader_cutTag 95 = .ok (.aload_n 0, 1) := by decide +kernel
theorem d_Reader_cutTag_96 : decode c_Reader_cutTag 96 = .ok (.getfield 19, 3) := by decide +kernel
theorem d_Reader_cutTag_99 : decode c_Reader_cutTag 99 = .ok (.iload 4, 2) := by decide +kernel
theorem d_Reader_cutTag_101 : decode c_Reader_cutTag 101 = .ok (.iastore, 1) := by decide +kernel
theorem d_Reader_cutTag_102 : decode c_Reader_cutTag 102 = .ok (.aload_n 0, 1) := by decide +kernel
theorem d_Reader_cutTag_103 : decode c_Reader_cutTag 103 = .ok (.dup, 1) := by decide +kernel
theorem d_Reader_cutTag_104 : decode c_Reader_cutTag 104 = .ok (.getfield 19, 3) := by decide +kernel
theorem d_Reader_cutTag_107 : decode c_Reader_cutTag 107 = .ok (.iconst 1, 1) := by decide +kernel
theorem d_Reader_cutTag_108 : decode c_Reader_cutTag 108 = .ok (.iadd, 1) := by decide +kernel
theorem d_Reader_cutTag_109 : decode c_Reader_cutTag 109 = .ok (.putfield 19, 3) := by decide +kernel
theorem d_Reader_cutTag_112 : decode c_Reader_cutTag 112 = .ok (.iload 6, 2) := by decide +kernel
theorem d_Reader_cutTag_114 : decode c_Reader_cutTag 114 = .ok (.iconst 1, 1) := by decide +kernel
theorem d_Reader_cutTag_115 : decode c_Reader_cutTag 115 = .ok (.iadd, 1) := by decide +kernel
theorem d_Reader_cutTag_116 : decode c_Reader_cutTag 116 = .ok (.istore 5, 2) := by decide +kernel
theorem d_Reader_cutTag_118 : decode c_Reader_cutTag 118 = .ok (.iinc 6 (1), 3) := by decide +kernel
theorem d_Reader_cutTag_121 : decode c_Reader_cutTag 121 = .ok (.goto (-107), 3) := by decide +kernel
theorem d_Reader_cutTag_124 : decode c_Reader_cutTag 124 = .ok (.iload 4, 2) := by decide +kernel
theorem d_Reader_cutTag_126 : decode c_Reader_cutTag 126 = .ok (.iconst 5, 1) := by decide +kernel
theorem d_Reader_cutTag_127 : decode c_Reader_cutTag 127 = .ok (.if_icmp .eq (10), 3) := by decide +kernel
theorem d_Reader_cutTag_130 : decode c_Reader_cutTag 130 = .ok (.iload 4, 2) := by decide +kernel
theorem d_Reader_cutTag_132 : decode c_Reader_cutTag 132 = .ok (.bipush (8), 2) := by decide +kernel
theorem d_Reader_cutTag_134 : decode c_Reader_cutTag 134 = .ok (.if_icmp .ne (9), 3) := by decide +kernel
theorem d_Reader_cutTag_137 : decode c_Reader_cutTag 137 = .ok (.iload_n 3, 1) := by decide +kernel
theorem d_Reader_cutTag_138 : decode c_Reader_cutTag 138 = .ok (.iload_n 2, 1) := by decide +kernel
theorem d_Reader_cutTag_139 : decode c_Reader_cutTag 139 = .ok (.isub, 1) := by decide +kernel
theorem d_Reader_cutTag_140 : decode c_Reader_cutTag 140 = .ok (.goto (4), 3) := by decide +kernel
theorem d_Reader_cutTag_143 : decode c_Reader_cutTag 143 = .ok (.iconst (-1), 1) := by decide +kernel
theorem d_Reader_cutTag_144 : decode c_Reader_cutTag 144 = .ok (.ireturn, 1) := by decide +kernel
def sh_Reader_cutTag_75 (F : Nat) (x2 : Int32) (x5 : Int32) (w : im_W) : Option (Int32 × im_W) :=
  some ((x5 - x2), w)
set_option maxHeartbeats 4000000 in
set_option maxRecDepth 100000 in
theorem bk_Reader_cutTag_75 {F : Nat} {r : Int32 × im_W} (X : im_X D vwCl tA lo im_NW c_Reader_cutTag 9 (some .int) RC_Reader im_T p s m args meth c) (x2 : Int32) (x5 : Int32) (w : im_W) (hsh : sh_Reader_cutTag_75 F x2 x5 w = some r) : im_WW D vwCl tA lo 9 p l e (im_rm 5 113) s m args below meth c 0 0 (MQ below (im_Post D vwCl tA lo (some (.int r.1)) r.2) args s 0 0 (fun q => lo ≤ q)) 75 [(2, .int x2), (5, .int x5)] [] w := by
  obtain ⟨hx, hb, hr, hts, hown, hlk, hml, hK, hN⟩ := id X
  intro H locs ls hH hl
  unfold sh_Reader_cutTag_75 at hsh
  refine lv_iload hx hb d_Reader_cutTag_75 (lv_at hl 1 rfl) ?_
  refine lv_iload_n hx hb d_Reader_cutTag_77 rfl (lv_at hl 0 rfl) ?_
  refine lv_isub hx hb d_Reader_cutTag_78 ?_
  obtain rfl := Option.some.inj hsh
  exact im_iret hx hb hr hlk hH d_Reader_cutTag_79
def sh_Reader_cutTag_118 (F : Nat) (k14 : Nat → Nat → Int32 → Int32 → Int32 → Int32 → Int32 → im_W → Option (Int32 × im_W)) (x0 : Nat) (x1 : Nat) (x2 : Int32) (x3 : Int32) (x4 : Int32) (x5 : Int32) (x6 : Int32) (w : im_W) : Option (Int32 × im_W) :=
  k14 x0 x1 x2 x3 x4 x5 (x6 + (1 : Int32)) w
set_option maxHeartbeats 4000000 in
set_option maxRecDepth 100000 in
theorem bk_Reader_cutTag_118 {F : Nat} {r : Int32 × im_W} (X : im_X D vwCl tA lo im_NW c_Reader_cutTag 9 (some .int) RC_Reader im_T p s m args meth c) {k14 : Nat → Nat → Int32 → Int32 → Int32 → Int32 → Int32 → im_W → Option (Int32 × im_W)} (hk14 : ∀ (x0 : Nat) (x1 : Nat) (x2 : Int32) (x3 : Int32) (x4 : Int32) (x5 : Int32) (x6 : Int32) (w : im_W), k14 x0 x1 x2 x3 x4 x5 x6 w = some r → im_WW D vwCl tA lo 9 p l e (im_rm 5 113) s m args below meth c 0 0 (MQ below (im_Post D vwCl tA lo (some (.int r.1)) r.2) args s 0 0 (fun q => lo ≤ q)) 14 [(0, .ref (lo + x0)), (1, .ref (lo + x1)), (2, .int x2), (3, .int x3), (4, .int x4), (5, .int x5), (6, .int x6)] [] w) (x0 : Nat) (x1 : Nat) (x2 : Int32) (x3 : Int32) (x4 : Int32) (x5 : Int32) (x6 : Int32) (w : im_W) (hsh : sh_Reader_cutTag_118 F k14 x0 x1 x2 x3 x4 x5 x6 w = some r) : im_WW D vwCl tA lo 9 p l e (im_rm 5 113) s m args below meth c 0 0 (MQ below (im_Post D vwCl tA lo (some (.int r.1)) r.2) args s 0 0 (fun q => lo ≤ q)) 118 [(0, .ref (lo + x0)), (1, .ref (lo + x1)), (2, .int x2), (3, .int x3), (4, .int x4), (5, .int x5), (6, .int x6)] [] w := by
  obtain ⟨hx, hb, hr, hts, hown, hlk, hml, hK, hN⟩ := id X
  intro H locs ls hH hl
  unfold sh_Reader_cutTag_118 at hsh
  refine lv_iinc (v := (x6 + (1 : Int32))) (lv' := [(6, .int (x6 + (1 : Int32))), (0, .ref (lo + x0)), (1, .ref (lo + x1)), (2, .int x2), (3, .int x3), (4, .int x4), (5, .int x5)]) hx hb d_Reader_cutTag_118 hl (k := 6) rfl rfl (by decide) rfl (fun ls hl => ?_)
  refine lv_goto (tgt := 14) hx hb d_Reader_cutTag_121 (by decide) ?_
  exact hk14 x0 x1 x2 x3 x4 x5 (x6 + (1 : Int32)) w hsh H locs ls hH (lv_sub hl [1, 2, 3, 4, 5, 6, 0] rfl)
def sh_Reader_cutTag_41 (F : Nat) (k14 : Nat → Nat → Int32 → Int32 → Int32 → Int32 → Int32 → im_W → Option (Int32 × im_W)) (x0 : Nat) (x1 : Nat) (x2 : Int32) (x3 : Int32) (x4 : Int32) (x5 : Int32) (x6 : Int32) (w : im_W) : Option (Int32 × im_W) :=
  im_b2 (sh_Subtag_cutOut F x1 x5 x6 w) fun v3 w1 => (im_is w1 5 x0).bind fun u4 => im_b2 (sh_Reader_roleOf F x0 v3 x4 w1) fun v10 w8 => (if v10 = 0 then sh_Reader_cutTag_75 F x2 x5 w8 else (im_gI w8 5 x0 2).bind fun f11 => (if f11 < (30 : Int32) then (im_gR w8 5 x0 0).bind fun f13 => (im_gI w8 5 x0 2).bind fun f15 => (im_sL w8 1 f13 f15 v3).bind fun w17 => (im_gR w17 5 x0 1).bind fun f19 => (im_gI w17 5 x0 2).bind fun f21 => (im_sI w17 0 f19 f21 v10).bind fun w23 => (im_gI w23 5 x0 2).bind fun f25 => (im_pV w23 5 x0 2 (.int (f25 + (1 : Int32)))).bind fun w27 => sh_Reader_cutTag_118 F k14 x0 x1 x2 x3 v10 (x6 + (1 : Int32)) x6 w27 else sh_Reader_cutTag_75 F x2 x5 w8))
set_option maxHeartbeats 4000000 in
set_option maxRecDepth 100000 in
theorem bk_Reader_cutTag_41 {F : Nat} {r : Int32 × im_W} (X : im_X D vwCl tA lo im_NW c_Reader_cutTag 9 (some .int) RC_Reader im_T p s m args meth c) {k14 : Nat → Nat → Int32 → Int32 → Int32 → Int32 → Int32 → im_W → Option (Int32 × im_W)} (hk14 : ∀ (x0 : Nat) (x1 : Nat) (x2 : Int32) (x3 : Int32) (x4 : Int32) (x5 : Int32) (x6 : Int32) (w : im_W), k14 x0 x1 x2 x3 x4 x5 x6 w = some r → im_WW D vwCl tA lo 9 p l e (im_rm 5 113) s m args below meth c 0 0 (MQ below (im_Post D vwCl tA lo (some (.int r.1)) r.2) args s 0 0 (fun q => lo ≤ q)) 14 [(0, .ref (lo + x0)), (1, .ref (lo + x1)), (2, .int x2), (3, .int x3), (4, .int x4), (5, .int x5), (6, .int x6)] [] w) (x0 : Nat) (x1 : Nat) (x2 : Int32) (x3 : Int32) (x4 : Int32) (x5 : Int32) (x6 : Int32) (w : im_W) (hsh : sh_Reader_cutTag_41 F k14 x0 x1 x2 x3 x4 x5 x6 w = some r) : im_WW D vwCl tA lo 9 p l e (im_rm 5 113) s m args below meth c 0 0 (MQ below (im_Post D vwCl tA lo (some (.int r.1)) r.2) args s 0 0 (fun q => lo ≤ q)) 41 [(0, .ref (lo + x0)), (1, .ref (lo + x1)), (2, .int x2), (3, .int x3), (4, .int x4), (5, .int x5), (6, .int x6)] [] w := by
  obtain ⟨hx, hb, hr, hts, hown, hlk, hml, hK, hN⟩ := id X
  intro H locs ls hH hl
  unfold sh_Reader_cutTag_41 at hsh
  refine lv_aload_n hx hb d_Reader_cutTag_41 rfl (lv_at hl 1 rfl) ?_
  refine lv_iload hx hb d_Reader_cutTag_42 (lv_at hl 5 rfl) ?_
  refine lv_iload hx hb d_Reader_cutTag_44 (lv_at hl 6 rfl) ?_
  obtain ⟨v3, w1, h2, hsh⟩ := im_bd2 hsh
  refine im_afterL (va_runS (As := [.ref (lo + x1), .int x5, .int x6]) (rest := []) ⟨hx, hb, hml, hown, hts⟩ (met_Subtag_cutOut h2) ⟨(callB_of 3 hts (im_good wd_264) rfl rfl rfl (hts _ wd_11) (hts _ wd_334) (by decide +kernel) ⟨Nat.le_of_ble_eq_true rfl, Nat.le_of_ble_eq_true rfl⟩), hts _ wd_263⟩ (im_pre im_NW_ok hK hN hH _) rfl rfl hl.1 rfl (lv_room (Nat.le_of_ble_eq_true rfl)) d_Reader_cutTag_46 ⟨Nat.le_of_ble_eq_true rfl, Nat.le_of_ble_eq_true rfl⟩) hH (fun H locs hH => ?_)
  refine lv_lstore (lv' := [(7, .long v3), (0, .ref (lo + x0)), (1, .ref (lo + x1)), (2, .int x2), (3, .int x3), (4, .int x4), (5, .int x5), (6, .int x6)]) hx hb d_Reader_cutTag_49 hl (by decide) rfl (fun ls hl => ?_)
  refine lv_aload_n hx hb d_Reader_cutTag_51 rfl (lv_at hl 1 rfl) ?_
  refine lv_lload hx hb d_Reader_cutTag_52 (lv_at hl 0 rfl) ?_
  refine lv_iload hx hb d_Reader_cutTag_54 (lv_at hl 5 rfl) ?_
  obtain ⟨u4, h5, hsh⟩ := im_bd hsh
  obtain ⟨g6, h7⟩ := im_is_s h5
  obtain ⟨v10, w8, h9, hsh⟩ := im_bd2 hsh
  refine im_afterI (va_runV (As := [.long v3, .int x4]) (rest := []) (C := RC_Reader) ⟨hx, hb, hml, hown, hts⟩ (met_Reader_roleOf h9) ⟨(callB_of 2 hts (im_good wd_338) rfl rfl rfl (hts _ wd_3) (hts _ wd_335) (by decide +kernel) ⟨Nat.le_of_ble_eq_true rfl, Nat.le_of_ble_eq_true rfl⟩), hts _ wd_337, hts _ sl_Reader_roleOf⟩ (im_preV im_NW_ok hK hN hH (ci := 5) rfl rfl h7 _) rfl rfl hl.1 rfl (lv_room (Nat.le_of_ble_eq_true rfl)) d_Reader_cutTag_56 ⟨Nat.le_of_ble_eq_true rfl, Nat.le_of_ble_eq_true rfl⟩) hH (fun H locs hH => ?_)
  refine lv_istore (lv' := [(4, .int v10), (7, .long v3), (0, .ref (lo + x0)), (1, .ref (lo + x1)), (2, .int x2), (3, .int x3), (5, .int x5), (6, .int x6)]) hx hb d_Reader_cutTag_59 hl (by decide) rfl (fun ls hl => ?_)
  refine lv_iload hx hb d_Reader_cutTag_61 (lv_at hl 0 rfl) ?_
  refine lv_if_eq (tgt := 75) hx hb d_Reader_cutTag_63 (by decide) (fun cc => ?_) (fun cc => ?_)
  · have hsh := im_it hsh cc
    exact bk_Reader_cutTag_75 X x2 x5 w8 hsh H locs ls hH (lv_sub hl [4, 6] rfl)
  · have hsh := im_if hsh cc
    refine lv_aload_n hx hb d_Reader_cutTag_66 rfl (lv_at hl 2 rfl) ?_
    obtain ⟨f11, h12, hsh⟩ := im_bd hsh
    refine im_getI hx hb hts inC_Reader hown hK hH (ci := 5) rfl 2 (by decide) (hts _ wd_42) rfl h12 d_Reader_cutTag_67 ?_
    refine lv_bipush (v := 30) hx hb d_Reader_cutTag_70 (by decide) ?_
    refine lv_icmp_lt (tgt := 80) hx hb d_Reader_cutTag_72 (by decide) (fun cc => ?_) (fun cc => ?_)
    · have hsh := im_it hsh cc
      refine lv_aload_n hx hb d_Reader_cutTag_80 rfl (lv_at hl 2 rfl) ?_
      obtain ⟨f13, h14, hsh⟩ := im_bd hsh
      refine im_getR hx hb hts inC_Reader hown hK hH (ci := 5) rfl 0 (by decide) (hts _ wd_40) rfl h14 d_Reader_cutTag_81 ?_
      refine lv_aload_n hx hb d_Reader_cutTag_84 rfl (lv_at hl 2 rfl) ?_
      obtain ⟨f15, h16, hsh⟩ := im_bd hsh
      refine im_getI hx hb hts inC_Reader hown hK hH (ci := 5) rfl 2 (by decide) (hts _ wd_42) rfl h16 d_Reader_cutTag_85 ?_
      refine lv_lload hx hb d_Reader_cutTag_88 (lv_at hl 1 rfl) ?_
      obtain ⟨w17, h18, hsh⟩ := im_bd hsh
      refine im_last hx hb hK hH h18 d_Reader_cutTag_90 (fun H locs hH => ?_)
      refine lv_aload_n hx hb d_Reader_cutTag_91 rfl (lv_at hl 2 rfl) ?_
      obtain ⟨f19, h20, hsh⟩ := im_bd hsh
      refine im_getR hx hb hts inC_Reader hown hK hH (ci := 5) rfl 1 (by decide) (hts _ wd_41) rfl h20 d_Reader_cutTag_92 ?_
      refine lv_aload_n hx hb d_Reader_cutTag_95 rfl (lv_at hl 2 rfl) ?_
      obtain ⟨f21, h22, hsh⟩ := im_bd hsh
      refine im_getI hx hb hts inC_Reader hown hK hH (ci := 5) rfl 2 (by decide) (hts _ wd_42) rfl h22 d_Reader_cutTag_96 ?_
      refine lv_iload hx hb d_Reader_cutTag_99 (lv_at hl 0 rfl) ?_
      obtain ⟨w23, h24, hsh⟩ := im_bd hsh
      refine im_iast hx hb hK hH h24 d_Reader_cutTag_101 (fun H locs hH => ?_)
      refine lv_aload_n hx hb d_Reader_cutTag_102 rfl (lv_at hl 2 rfl) ?_
      refine lv_dup hx hb d_Reader_cutTag_103 rfl ?_
      obtain ⟨f25, h26, hsh⟩ := im_bd hsh
      refine im_getI hx hb hts inC_Reader hown hK hH (ci := 5) rfl 2 (by decide) (hts _ wd_42) rfl h26 d_Reader_cutTag_104 ?_
      refine lv_iconst (v := 1) hx hb d_Reader_cutTag_107 (by decide) ?_
      refine lv_iadd hx hb d_Reader_cutTag_108 ?_
      obtain ⟨w27, h28, hsh⟩ := im_bd hsh
      refine im_put (v := .int (f25 + (1 : Int32))) hx hb hts inC_Reader tyC_Reader tyC_Reader_ok nmC_Reader hown hK hH (ci := 5) rfl 2 (by decide) (hts _ wd_42) rfl rfl rfl rfl h28 d_Reader_cutTag_109 (fun H locs hH => ?_)
      refine lv_iload hx hb d_Reader_cutTag_112 (lv_at hl 7 rfl) ?_
      refine lv_iconst (v := 1) hx hb d_Reader_cutTag_114 (by decide) ?_
      refine lv_iadd hx hb d_Reader_cutTag_115 ?_
      refine lv_istore (lv' := [(5, .int (x6 + (1 : Int32))), (4, .int v10), (7, .long v3), (0, .ref (lo + x0)), (1, .ref (lo + x1)), (2, .int x2), (3, .int x3), (6, .int x6)]) hx hb d_Reader_cutTag_116 hl (by decide) rfl (fun ls hl => ?_)
      exact bk_Reader_cutTag_118 X hk14 x0 x1 x2 x3 v10 (x6 + (1 : Int32)) x6 w27 hsh H locs ls hH (lv_sub hl [3, 4, 5, 6, 1, 0, 7] rfl)
    · have hsh := im_if hsh cc
      exact bk_Reader_cutTag_75 X x2 x5 w8 hsh H locs ls hH (lv_sub hl [4, 6] rfl)
def sh_Reader_cutTag_144 (F : Nat) (y0 : Int32) (w : im_W) : Option (Int32 × im_W) :=
  some (y0, w)
set_option maxHeartbeats 4000000 in
set_option maxRecDepth 100000 in
theorem bk_Reader_cutTag_144 {F : Nat} {r : Int32 × im_W} (X : im_X D vwCl tA lo im_NW c_Reader_cutTag 9 (some .int) RC_Reader im_T p s m args meth c) (y0 : Int32) (w : im_W) (hsh : sh_Reader_cutTag_144 F y0 w = some r) : im_WW D vwCl tA lo 9 p l e (im_rm 5 113) s m args below meth c 0 0 (MQ below (im_Post D vwCl tA lo (some (.int r.1)) r.2) args s 0 0 (fun q => lo ≤ q)) 144 [] [.int y0] w := by
  obtain ⟨hx, hb, hr, hts, hown, hlk, hml, hK, hN⟩ := id X
  intro H locs ls hH hl
  unfold sh_Reader_cutTag_144 at hsh
  obtain rfl := Option.some.inj hsh
  exact im_iret hx hb hr hlk hH d_Reader_cutTag_144
def sh_Reader_cutTag_137 (F : Nat) (x2 : Int32) (x3 : Int32) (w : im_W) : Option (Int32 × im_W) :=
  sh_Reader_cutTag_144 F (x3 - x2) w
set_option maxHeartbeats 4000000 in
set_option maxRecDepth 100000 in
theorem bk_Reader_cutTag_137 {F : Nat} {r : Int32 × im_W} (X : im_X D vwCl tA lo im_NW c_Reader_cutTag 9 (some .int) RC_Reader im_T p s m args meth c) (x2 : Int32) (x3 : Int32) (w : im_W) (hsh : sh_Reader_cutTag_137 F x2 x3 w = some r) : im_WW D vwCl tA lo 9 p l e (im_rm 5 113) s m args below meth c 0 0 (MQ below (im_Post D vwCl tA lo (some (.int r.1)) r.2) args s 0 0 (fun q => lo ≤ q)) 137 [(2, .int x2), (3, .int x3)] [] w := by
  obtain ⟨hx, hb, hr, hts, hown, hlk, hml, hK, hN⟩ := id X
  intro H locs ls hH hl
  unfold sh_Reader_cutTag_137 at hsh
  refine lv_iload_n hx hb d_Reader_cutTag_137 rfl (lv_at hl 1 rfl) ?_
  refine lv_iload_n hx hb d_Reader_cutTag_138 rfl (lv_at hl 0 rfl) ?_
  refine lv_isub hx hb d_Reader_cutTag_139 ?_
  refine lv_goto (tgt := 144) hx hb d_Reader_cutTag_140 (by decide) ?_
  exact bk_Reader_cutTag_144 X (x3 - x2) w hsh H locs ls hH (lv_sub hl [] rfl)
def sh_Reader_cutTag_14 (F : Nat) : Nat → Nat → Nat → Int32 → Int32 → Int32 → Int32 → Int32 → im_W → Option (Int32 × im_W)
  | 0, _, _, _, _, _, _, _, _ => none
  | f + 1, x0, x1, x2, x3, x4, x5, x6, w => (if x3 < x6 then (if x4 = (5 : Int32) then sh_Reader_cutTag_137 F x2 x3 w else (if x4 = (8 : Int32) then sh_Reader_cutTag_137 F x2 x3 w else sh_Reader_cutTag_144 F (-1 : Int32) w)) else (if x3 ≤ x6 then sh_Reader_cutTag_41 F (sh_Reader_cutTag_14 F f) x0 x1 x2 x3 x4 x5 x6 w else (im_is w 7 x1).bind fun u1 => im_b2 (sh_Text_at F x1 x6 w) fun v7 w5 => im_b2 (sh_Subtag_isCut F v7 w5) fun v10 w8 => (if v10 = 0 then sh_Reader_cutTag_118 F (sh_Reader_cutTag_14 F f) x0 x1 x2 x3 x4 x5 x6 w8 else sh_Reader_cutTag_41 F (sh_Reader_cutTag_14 F f) x0 x1 x2 x3 x4 x5 x6 w8)))
set_option maxHeartbeats 4000000 in
set_option maxRecDepth 100000 in
theorem bk_Reader_cutTag_14 {F : Nat} {r : Int32 × im_W} (X : im_X D vwCl tA lo im_NW c_Reader_cutTag 9 (some .int) RC_Reader im_T p s m args meth c) : ∀ (f : Nat) (x0 : Nat) (x1 : Nat) (x2 : Int32) (x3 : Int32) (x4 : Int32) (x5 : Int32) (x6 : Int32) (w : im_W), sh_Reader_cutTag_14 F f x0 x1 x2 x3 x4 x5 x6 w = some r → im_WW D vwCl tA lo 9 p l e (im_rm 5 113) s m args below meth c 0 0 (MQ below (im_Post D vwCl tA lo (some (.int r.1)) r.2) args s 0 0 (fun q => lo ≤ q)) 14 [(0, .ref (lo + x0)), (1, .ref (lo + x1)), (2, .int x2), (3, .int x3), (4, .int x4), (5, .int x5), (6, .int x6)] [] w := by
  obtain ⟨hx, hb, hr, hts, hown, hlk, hml, hK, hN⟩ := id X
  intro f
  induction f with
  | zero =>
    intro x0 x1 x2 x3 x4 x5 x6 w hsh
    cases hsh
  | succ f ih =>
    intro x0 x1 x2 x3 x4 x5 x6 w hsh H locs ls hH hl
    unfold sh_Reader_cutTag_14 at hsh
    refine lv_iload hx hb d_Reader_cutTag_14 (lv_at hl 6 rfl) ?_
    refine lv_iload_n hx hb d_Reader_cutTag_16 rfl (lv_at hl 3 rfl) ?_
    refine lv_icmp_gt (tgt := 124) hx hb d_Reader_cutTag_17 (by decide) (fun cc => ?_) (fun cc => ?_)
    · have hsh := im_it hsh cc
      refine lv_iload hx hb d_Reader_cutTag_124 (lv_at hl 4 rfl) ?_
      refine lv_iconst (v := 5) hx hb d_Reader_cutTag_126 (by decide) ?_
      refine lv_icmp_eq (tgt := 137) hx hb d_Reader_cutTag_127 (by decide) (fun cc => ?_) (fun cc => ?_)
      · have hsh := im_it hsh cc
        exact bk_Reader_cutTag_137 X x2 x3 w hsh H locs ls hH (lv_sub hl [2, 3] rfl)
      · have hsh := im_if hsh cc
        refine lv_iload hx hb d_Reader_cutTag_130 (lv_at hl 4 rfl) ?_
        refine lv_bipush (v := 8) hx hb d_Reader_cutTag_132 (by decide) ?_
        refine lv_icmp_ne (tgt := 143) hx hb d_Reader_cutTag_134 (by decide) (fun cc => ?_) (fun cc => ?_)
        · have hsh := im_if hsh cc
          refine lv_iconst (v := -1) hx hb d_Reader_cutTag_143 (by decide) ?_
          exact bk_Reader_cutTag_144 X (-1 : Int32) w hsh H locs ls hH (lv_sub hl [] rfl)
        · have hsh := im_it hsh cc
          exact bk_Reader_cutTag_137 X x2 x3 w hsh H locs ls hH (lv_sub hl [2, 3] rfl)
    · have hsh := im_if hsh cc
      refine lv_iload hx hb d_Reader_cutTag_20 (lv_at hl 6 rfl) ?_
      refine lv_iload_n hx hb d_Reader_cutTag_22 rfl (lv_at hl 3 rfl) ?_
      refine lv_icmp_ge (tgt := 41) hx hb d_Reader_cutTag_23 (by decide) (fun cc => ?_) (fun cc => ?_)
      · have hsh := im_it hsh cc
        exact bk_Reader_cutTag_41 X ih x0 x1 x2 x3 x4 x5 x6 w hsh H locs ls hH (lv_sub hl [0, 1, 2, 3, 4, 5, 6] rfl)
      · have hsh := im_if hsh cc
        refine lv_aload_n hx hb d_Reader_cutTag_26 rfl (lv_at hl 1 rfl) ?_
        refine lv_iload hx hb d_Reader_cutTag_27 (lv_at hl 6 rfl) ?_
        obtain ⟨u1, h2, hsh⟩ := im_bd hsh
        obtain ⟨g3, h4⟩ := im_is_s h2
        obtain ⟨v7, w5, h6, hsh⟩ := im_bd2 hsh
        refine im_afterI (va_runV (As := [.int x6]) (rest := []) (C := RC_Text) ⟨hx, hb, hml, hown, hts⟩ (met_Text_at h6) ⟨(callB_of 1 hts (im_good wd_268) rfl rfl rfl (hts _ wd_2) (hts _ wd_332) (by decide +kernel) ⟨Nat.le_of_ble_eq_true rfl, Nat.le_of_ble_eq_true rfl⟩), hts _ wd_266, hts _ wd_267⟩ (im_preV im_NW_ok hK hN hH (ci := 7) rfl rfl h4 _) rfl rfl hl.1 rfl (lv_room (Nat.le_of_ble_eq_true rfl)) d_Reader_cutTag_29 ⟨Nat.le_of_ble_eq_true rfl, Nat.le_of_ble_eq_true rfl⟩) hH (fun H locs hH => ?_)
        obtain ⟨v10, w8, h9, hsh⟩ := im_bd2 hsh
        refine im_afterI (va_runS (As := [.int v7]) (rest := []) ⟨hx, hb, hml, hown, hts⟩ (met_Subtag_isCut h9) ⟨(callB_of 1 hts (im_good wd_236) rfl rfl rfl (hts _ wd_11) (hts _ wd_333) (by decide +kernel) ⟨Nat.le_of_ble_eq_true rfl, Nat.le_of_ble_eq_true rfl⟩), hts _ wd_235⟩ (im_pre im_NW_ok hK hN hH _) rfl rfl hl.1 rfl (lv_room (Nat.le_of_ble_eq_true rfl)) d_Reader_cutTag_32 ⟨Nat.le_of_ble_eq_true rfl, Nat.le_of_ble_eq_true rfl⟩) hH (fun H locs hH => ?_)
        refine lv_if_ne (tgt := 41) hx hb d_Reader_cutTag_35 (by decide) (fun cc => ?_) (fun cc => ?_)
        · have hsh := im_if hsh cc
          exact bk_Reader_cutTag_41 X ih x0 x1 x2 x3 x4 x5 x6 w8 hsh H locs ls hH (lv_sub hl [0, 1, 2, 3, 4, 5, 6] rfl)
        · have hsh := im_it hsh cc
          refine lv_goto (tgt := 118) hx hb d_Reader_cutTag_38 (by decide) ?_
          exact bk_Reader_cutTag_118 X ih x0 x1 x2 x3 x4 x5 x6 w8 hsh H locs ls hH (lv_sub hl [0, 1, 2, 3, 4, 5, 6] rfl)
def sh_Reader_cutTag (F : Nat) (x0 : Nat) (x1 : Nat) (x2 : Int32) (x3 : Int32) (w : im_W) : Option (Int32 × im_W) :=
  (im_pV w 5 x0 2 (.int (0 : Int32))).bind fun w1 => sh_Reader_cutTag_14 F F x0 x1 x2 x3 (0 : Int32) x2 x2 w1
set_option maxHeartbeats 4000000 in
set_option maxRecDepth 100000 in
theorem met_Reader_cutTag {F : Nat} {x0 : Nat} {x1 : Nat} {x2 : Int32} {x3 : Int32} {w : im_W} {r : Int32 × im_W} (hsh : sh_Reader_cutTag F x0 x1 x2 x3 w = some r) : Met l y_Reader_cutTag (Cond.code y_Reader_cutTag c_Reader_cutTag 9 (some .int) :: im_T) (im_rm 5 113) (im_Pre D vwCl tA lo im_NW [.ref (lo + x0), .ref (lo + x1), .int x2, .int x3] w) (im_Post D vwCl tA lo (some (.int r.1)) r.2) 0 0 (fun q => lo ≤ q) := by
  refine im_ofW (cc := c_Reader_cutTag) (nL := 9) (ret := (some .int)) (by decide) (Nat.le_of_ble_eq_true rfl) ?_
  intro p e s m args below meth c X H locs ls hH hl
  obtain ⟨hx, hb, hr, hts, hown, hlk, hml, hK, hN⟩ := id X
  have hl : lv_has ls 9 [(0, .ref (lo + x0)), (1, .ref (lo + x1)), (2, .int x2), (3, .int x3)] := hl
  unfold sh_Reader_cutTag at hsh
  refine lv_aload_n hx hb d_Reader_cutTag_0 rfl (lv_at hl 0 rfl) ?_
  refine lv_iconst (v := 0) hx hb d_Reader_cutTag_1 (by decide) ?_
  obtain ⟨w1, h2, hsh⟩ := im_bd hsh
  refine im_put (v := .int (0 : Int32)) hx hb hts inC_Reader tyC_Reader tyC_Reader_ok nmC_Reader hown hK hH (ci := 5) rfl 2 (by decide) (hts _ wd_42) rfl rfl rfl rfl h2 d_Reader_cutTag_2 (fun H locs hH => ?_)
  refine lv_iconst (v := 0) hx hb d_Reader_cutTag_5 (by decide) ?_
  refine lv_istore (lv' := [(4, .int (0 : Int32)), (0, .ref (lo + x0)), (1, .ref (lo + x1)), (2, .int x2), (3, .int x3)]) hx hb d_Reader_cutTag_6 hl (by decide) rfl (fun ls hl => ?_)
  refine lv_iload_n hx hb d_Reader_cutTag_8 rfl (lv_at hl 3 rfl) ?_
  refine lv_istore (lv' := [(5, .int x2), (4, .int (0 : Int32)), (0, .ref (lo + x0)), (1, .ref (lo + x1)), (2, .int x2), (3, .int x3)]) hx hb d_Reader_cutTag_9 hl (by decide) rfl (fun ls hl => ?_)
  refine lv_iload_n hx hb d_Reader_cutTag_11 rfl (lv_at hl 4 rfl) ?_
  refine lv_istore (lv' := [(6, .int x2), (5, .int x2), (4, .int (0 : Int32)), (0, .ref (lo + x0)), (1, .ref (lo + x1)), (2, .int x2), (3, .int x3)]) hx hb d_Reader_cutTag_12 hl (by decide) rfl (fun ls hl => ?_)
  exact bk_Reader_cutTag_14 X F x0 x1 x2 x3 (0 : Int32) x2 x2 w1 hsh H locs ls hH (lv_sub hl [3, 4, 5, 6, 2, 1, 0] rfl)
theorem d_Reader_partWith_0 : decode c_Reader_partWith 0 = .ok (.iconst 0, 1) := by decide +kernel
theorem d_Reader_partWith_1 : decode c_Reader_partWith 1 = .ok (.istore_n 2, 1) := by decide +kernel
theorem d_Reader_partWith_2 : decode c_Reader_partWith 2 = .ok (.iload_n 2, 1) := by decide +kernel
theorem d_Reader_partWith_3 : decode c_Reader_partWith 3 = .ok (.aload_n 0, 1) := by decide +kernel
theorem d_Reader_partWith_4 : decode c_Reader_partWith 4 = .ok (.getfield 19, 3) := by decide +kernel
theorem d_Reader_partWith_7 : decode c_Reader_partWith 7 = .ok (.if_icmp .ge (26), 3) := by decide +kernel
theorem d_Reader_partWith_10 : decode c_Reader_partWith 10 = .ok (.aload_n 0, 1) := by decide +kernel
theorem d_Reader_partWith_11 : decode c_Reader_partWith 11 = .ok (.getfield 15, 3) := by decide +kernel
theorem d_Reader_partWith_14 : decode c_Reader_partWith 14 = .ok (.iload_n 2, 1) := by decide +kernel
theorem d_Reader_partWith_15 : decode c_Reader_partWith 15 = .ok (.iaload, 1) := by decide +kernel
theorem d_Reader_partWith_16 : decode c_Reader_partWith 16 = .ok (.iload_n 1, 1) := by decide +kernel
theorem d_Reader_partWith_17 : decode c_Reader_partWith 17 = .ok (.if_icmp .ne (10), 3) := by decide +kernel
theorem d_Reader_partWith_20 : decode c_Reader_partWith 20 = .ok (.aload_n 0, 1) := by decide +kernel
theorem d_Reader_partWith_21 : decode c_Reader_partWith 21 = .ok (.getfield 9, 3) := by decide +kernel
theorem d_Reader_partWith_24 : decode c_Reader_partWith 24 = .ok (.iload_n 2, 1) := by decide +kernel
theorem d_Reader_partWith_25 : decode c_Reader_partWith 25 = .ok (.laload, 1) := by decide +kernel
theorem d_Reader_partWith_26 : decode c_Reader_partWith 26 = .ok (.lreturn, 1) := by decide +kernel
theorem d_Reader_partWith_27 : decode c_Reader_partWith 27 = .ok (.iinc 2 (1), 3) := by decide +kernel
theorem d_Reader_partWith_30 : decode c_Reader_partWith 30 = .ok (.goto (-28), 3) := by decide +kernel
theorem d_Reader_partWith_33 : decode c_Reader_partWith 33 = .ok (.lconst 0, 1) := by decide +kernel
theorem d_Reader_partWith_34 : decode c_Reader_partWith 34 = .ok (.lreturn, 1) := by decide +kernel
def sh_Reader_partWith_2 (F : Nat) : Nat → Nat → Int32 → Int32 → im_W → Option (Int64 × im_W)
  | 0, _, _, _, _ => none
  | f + 1, x0, x1, x2, w => (im_gI w 5 x0 2).bind fun f1 => (if f1 ≤ x2 then some ((0 : Int64), w) else (im_gR w 5 x0 1).bind fun f3 => (im_lI w 0 f3 x2).bind fun e5 => (if e5 = x1 then (im_gR w 5 x0 0).bind fun f7 => (im_lL w 1 f7 x2).bind fun e9 => some (e9, w) else (sh_Reader_partWith_2 F f) x0 x1 (x2 + (1 : Int32)) w))
set_option maxHeartbeats 4000000 in
set_option maxRecDepth 100000 in
theorem bk_Reader_partWith_2 {F : Nat} {r : Int64 × im_W} (X : im_X D vwCl tA lo im_NW c_Reader_partWith 3 (some .long) RC_Reader im_T p s m args meth c) : ∀ (f : Nat) (x0 : Nat) (x1 : Int32) (x2 : Int32) (w : im_W), sh_Reader_partWith_2 F f x0 x1 x2 w = some r → im_WW D vwCl tA lo 3 p l e (im_rm 0 0) s m args below meth c 0 0 (MQ below (im_Post D vwCl tA lo (some (.long r.1)) r.2) args s 0 0 (fun q => lo ≤ q)) 2 [(0, .ref (lo + x0)), (1, .int x1), (2, .int x2)] [] w := by
  obtain ⟨hx, hb, hr, hts, hown, hlk, hml, hK, hN⟩ := id X
  intro f
  induction f with
  | zero =>
    intro x0 x1 x2 w hsh
    cases hsh
  | succ f ih =>
    intro x0 x1 x2 w hsh H locs ls hH hl
    unfold sh_Reader_partWith_2 at hsh
    refine lv_iload_n hx hb d_Reader_partWith_2 rfl (lv_at hl 2 rfl) ?_
    refine lv_aload_n hx hb d_Reader_partWith_3 rfl (lv_at hl 0 rfl) ?_
    obtain ⟨f1, h2, hsh⟩ := im_bd hsh
    refine im_getI hx hb hts inC_Reader hown hK hH (ci := 5) rfl 2 (by decide) (hts _ wd_42) rfl h2 d_Reader_partWith_4 ?_
    refine lv_icmp_ge (tgt := 33) hx hb d_Reader_partWith_7 (by decide) (fun cc => ?_) (fun cc => ?_)
    · have hsh := im_it hsh cc
      refine lv_lconst (v := 0) hx hb d_Reader_partWith_33 (by decide) ?_
      obtain rfl := Option.some.inj hsh
      exact im_lret hx hb hr hlk hH d_Reader_partWith_34
    · have hsh := im_if hsh cc
      refine lv_aload_n hx hb d_Reader_partWith_10 rfl (lv_at hl 0 rfl) ?_
      obtain ⟨f3, h4, hsh⟩ := im_bd hsh
      refine im_getR hx hb hts inC_Reader hown hK hH (ci := 5) rfl 1 (by decide) (hts _ wd_41) rfl h4 d_Reader_partWith_11 ?_
      refine lv_iload_n hx hb d_Reader_partWith_14 rfl (lv_at hl 2 rfl) ?_
      obtain ⟨e5, h6, hsh⟩ := im_bd hsh
      refine im_iald hx hb hK hH h6 d_Reader_partWith_15 ?_
      refine lv_iload_n hx hb d_Reader_partWith_16 rfl (lv_at hl 1 rfl) ?_
      refine lv_icmp_ne (tgt := 27) hx hb d_Reader_partWith_17 (by decide) (fun cc => ?_) (fun cc => ?_)
      · have hsh := im_if hsh cc
        refine lv_iinc (v := (x2 + (1 : Int32))) (lv' := [(2, .int (x2 + (1 : Int32))), (0, .ref (lo + x0)), (1, .int x1)]) hx hb d_Reader_partWith_27 hl (k := 2) rfl rfl (by decide) rfl (fun ls hl => ?_)
        refine lv_goto (tgt := 2) hx hb d_Reader_partWith_30 (by decide) ?_
        exact ih x0 x1 (x2 + (1 : Int32)) w hsh H locs ls hH (lv_sub hl [1, 2, 0] rfl)
      · have hsh := im_it hsh cc
        refine lv_aload_n hx hb d_Reader_partWith_20 rfl (lv_at hl 0 rfl) ?_
        obtain ⟨f7, h8, hsh⟩ := im_bd hsh
        refine im_getR hx hb hts inC_Reader hown hK hH (ci := 5) rfl 0 (by decide) (hts _ wd_40) rfl h8 d_Reader_partWith_21 ?_
        refine lv_iload_n hx hb d_Reader_partWith_24 rfl (lv_at hl 2 rfl) ?_
        obtain ⟨e9, h10, hsh⟩ := im_bd hsh
        refine im_lald hx hb hK hH h10 d_Reader_partWith_25 ?_
        obtain rfl := Option.some.inj hsh
        exact im_lret hx hb hr hlk hH d_Reader_partWith_26
def sh_Reader_partWith (F : Nat) (x0 : Nat) (x1 : Int32) (w : im_W) : Option (Int64 × im_W) :=
  sh_Reader_partWith_2 F F x0 x1 (0 : Int32) w
set_option maxHeartbeats 4000000 in
set_option maxRecDepth 100000 in
theorem met_Reader_partWith {F : Nat} {x0 : Nat} {x1 : Int32} {w : im_W} {r : Int64 × im_W} (hsh : sh_Reader_partWith F x0 x1 w = some r) : Met l y_Reader_partWith (Cond.code y_Reader_partWith c_Reader_partWith 3 (some .long) :: im_T) (im_rm 0 0) (im_Pre D vwCl tA lo im_NW [.ref (lo + x0), .int x1] w) (im_Post D vwCl tA lo (some (.long r.1)) r.2) 0 0 (fun q => lo ≤ q) := by
  refine im_ofW (cc := c_Reader_partWith) (nL := 3) (ret := (some .long)) (by decide) (Nat.le_of_ble_eq_true rfl) ?_
  intro p e s m args below meth c X H locs ls hH hl
  obtain ⟨hx, hb, hr, hts, hown, hlk, hml, hK, hN⟩ := id X
  have hl : lv_has ls 3 [(0, .ref (lo + x0)), (1, .int x1)] := hl
  unfold sh_Reader_partWith at hsh
  refine lv_iconst (v := 0) hx hb d_Reader_partWith_0 (by decide) ?_
  refine lv_istore_n (lv' := [(2, .int (0 : Int32)), (0, .ref (lo + x0)), (1, .int x1)]) hx hb d_Reader_partWith_1 rfl hl (by decide) rfl (fun ls hl => ?_)
  exact bk_Reader_partWith_2 X F x0 x1 (0 : Int32) w hsh H locs ls hH (lv_sub hl [1, 2, 0] rfl)
theorem d_Reader_leastAbove_0 : decode c_Reader_leastAbove 0 = .ok (.iconst (-1), 1) := by decide +kernel
theorem d_Reader_leastAbove_1 : decode c_Reader_leastAbove 1 = .ok (.istore 4, 2) := by decide +kernel
theorem d_Reader_leastAbove_3 : decode c_Reader_leastAbove 3 = .ok (.iconst 0, 1) := by decide +kernel
theorem d_Reader_leastAbove_4 : decode c_Reader_leastAbove 4 = .ok (.istore 5, 2) := by decide +kernel
theorem d_Reader_leastAbove_6 : decode c_Reader_leastAbove 6 = .ok (.iload 5, 2) := by decide +kernel
theorem d_Reader_leastAbove_8 : decode c_Reader_leastAbove 8 = .ok (.aload_n 0, 1) := by decide +kernel
theorem d_Reader_leastAbove_9 : decode c_Reader_leastAbove 9 = .ok (.getfield 19, 3) := by decide +kernel
theorem d_Reader_leastAbove_12 : decode c_Reader_leastAbove 12 = .ok (.if_icmp .ge (59), 3) := by decide +kernel
theorem d_Reader_leastAbove_15 : decode c_Reader_leastAbove 15 = .ok (.aload_n 0, 1) := by decide +kernel
theorem d_Reader_leastAbove_16 : decode c_Reader_leastAbove 16 = .ok (.getfield 15, 3) := by decide +kernel
theorem d_Reader_leastAbove_19 : decode c_Reader_leastAbove 19 = .ok (.iload 5, 2) := by decide +kernel
theorem d_Reader_leastAbove_21 : decode c_Reader_leastAbove 21 = .ok (.iaload, 1) := by decide +kernel
theorem d_Reader_leastAbove_22 : decode c_Reader_leastAbove 22 = .ok (.iload_n 3, 1) := by decide +kernel
theorem d_Reader_leastAbove_23 : decode c_Reader_leastAbove 23 = .ok (.if_icmp .ne (42), 3) := by decide +kernel
theorem d_Reader_leastAbove_26 : decode c_Reader_leastAbove 26 = .ok (.aload_n 0, 1) := by decide +kernel
theorem d_Reader_leastAbove_27 : decode c_Reader_leastAbove 27 = .ok (.getfield 9, 3) := by decide +kernel
theorem d_Reader_leastAbove_30 : decode c_Reader_leastAbove 30 = .ok (.iload 5, 2) := by decide +kernel
theorem d_Reader_leastAbove_32 : decode c_Reader_leastAbove 32 = .ok (.laload, 1) := by decide +kernel
theorem d_Reader_leastAbove_33 : decode c_Reader_leastAbove 33 = .ok (.lload_n 1, 1) := by decide +kernel
theorem d_Reader_leastAbove_34 : decode c_Reader_leastAbove 34 = .ok (.lcmp, 1) := by decide +kernel
theorem d_Reader_leastAbove_35 : decode c_Reader_leastAbove 35 = .ok (.ifCond .le (30), 3) := by decide +kernel
theorem d_Reader_leastAbove_38 : decode c_Reader_leastAbove 38 = .ok (.iload 4, 2) := by decide +kernel
theorem d_Reader_leastAbove_40 : decode c_Reader_leastAbove 40 = .ok (.ifCond .lt (21), 3) := by decide +kernel
theorem d_Reader_leastAbove_43 : decode c_Reader_leastAbove 43 = .ok (.aload_n 0, 1) := by decide +kernel
theorem d_Reader_leastAbove_44 : decode c_Reader_leastAbove 44 = .ok (.getfield 9, 3) := by decide +kernel
theorem d_Reader_leastAbove_47 : decode c_Reader_leastAbove 47 = .ok (.iload 5, 2) := by decide +kernel
theorem d_Reader_leastAbove_49 : decode c_Reader_leastAbove 49 = .ok (.laload, 1) := by decide +kernel
theorem d_Reader_leastAbove_50 : decode c_Reader_leastAbove 50 = .ok (.aload_n 0, 1) := by decide +kernel
theorem d_Reader_leastAbove_51 : decode c_Reader_leastAbove 51 = .ok (.getfield 9, 3) := by decide +kernel
theorem d_Reader_leastAbove_54 : decode c_Reader_leastAbove 54 = .ok (.iload 4, 2) := by decide +kernel
theorem d_Reader_leastAbove_56 : decode c_Reader_leastAbove 56 = .ok (.laload, 1) := by decide +kernel
theorem d_Reader_leastAbove_57 : decode c_Reader_leastAbove 57 = .ok (.lcmp, 1) := by decide +kernel
theorem d_Reader_leastAbove_58 : decode c_Reader_leastAbove 58 = .ok (.ifCond .ge (7), 3) := by decide +kernel
theorem d_Reader_leastAbove_61 : decode c_Reader_leastAbove 61 = .ok (.iload 5, 2) := by decide +kernel
theorem d_Reader_leastAbove_63 : decode c_Reader_leastAbove 63 = .ok (.istore 4, 2) := by decide +kernel
theorem d_Reader_leastAbove_65 : decode c_Reader_leastAbove 65 = .ok (.iinc 5 (1), 3) := by decide +kernel
theorem d_Reader_leastAbove_68 : decode c_Reader_leastAbove 68 = .ok (.goto (-62), 3) := by decide +kernel
theorem d_Reader_leastAbove_71 : decode c_Reader_leastAbove 71 = .ok (.iload 4, 2) := by decide +kernel
theorem d_Reader_leastAbove_73 : decode c_Reader_leastAbove 73 = .ok (.ireturn, 1) := by decide +kernel
def sh_Reader_leastAbove_65 (F : Nat) (k6 : Nat → Int64 → Int32 → Int32 → Int32 → im_W → Option (Int32 × im_W)) (x0 : Nat) (x1 : Int64) (x3 : Int32) (x4 : Int32) (x5 : Int32) (w : im_W) : Option (Int32 × im_W) :=
  k6 x0 x1 x3 x4 (x5 + (1 : Int32)) w
set_option maxHeartbeats 4000000 in
set_option maxRecDepth 100000 in
theorem bk_Reader_leastAbove_65 {F : Nat} {r : Int32 × im_W} (X : im_X D vwCl tA lo im_NW c_Reader_leastAbove 6 (some .int) RC_Reader im_T p s m args meth c) {k6 : Nat → Int64 → Int32 → Int32 → Int32 → im_W → Option (Int32 × im_W)} (hk6 : ∀ (x0 : Nat) (x1 : Int64) (x3 : Int32) (x4 : Int32) (x5 : Int32) (w : im_W), k6 x0 x1 x3 x4 x5 w = some r → im_WW D vwCl tA lo 6 p l e (im_rm 0 0) s m args below meth c 0 0 (MQ below (im_Post D vwCl tA lo (some (.int r.1)) r.2) args s 0 0 (fun q => lo ≤ q)) 6 [(0, .ref (lo + x0)), (1, .long x1), (3, .int x3), (4, .int x4), (5, .int x5)] [] w) (x0 : Nat) (x1 : Int64) (x3 : Int32) (x4 : Int32) (x5 : Int32) (w : im_W) (hsh : sh_Reader_leastAbove_65 F k6 x0 x1 x3 x4 x5 w = some r) : im_WW D vwCl tA lo 6 p l e (im_rm 0 0) s m args below meth c 0 0 (MQ below (im_Post D vwCl tA lo (some (.int r.1)) r.2) args s 0 0 (fun q => lo ≤ q)) 65 [(0, .ref (lo + x0)), (1, .long x1), (3, .int x3), (4, .int x4), (5, .int x5)] [] w := by
  obtain ⟨hx, hb, hr, hts, hown, hlk, hml, hK, hN⟩ := id X
  intro H locs ls hH hl
  unfold sh_Reader_leastAbove_65 at hsh
  refine lv_iinc (v := (x5 + (1 : Int32))) (lv' := [(5, .int (x5 + (1 : Int32))), (0, .ref (lo + x0)), (1, .long x1), (3, .int x3), (4, .int x4)]) hx hb d_Reader_leastAbove_65 hl (k := 4) rfl rfl (by decide) rfl (fun ls hl => ?_)
  refine lv_goto (tgt := 6) hx hb d_Reader_leastAbove_68 (by decide) ?_
  exact hk6 x0 x1 x3 x4 (x5 + (1 : Int32)) w hsh H locs ls hH (lv_sub hl [1, 2, 3, 4, 0] rfl)
def sh_Reader_leastAbove_61 (F : Nat) (k6 : Nat → Int64 → Int32 → Int32 → Int32 → im_W → Option (Int32 × im_W)) (x0 : Nat) (x1 : Int64) (x3 : Int32) (x5 : Int32) (w : im_W) : Option (Int32 × im_W) :=
  sh_Reader_leastAbove_65 F k6 x0 x1 x3 x5 x5 w
set_option maxHeartbeats 4000000 in
set_option maxRecDepth 100000 in
theorem bk_Reader_leastAbove_61 {F : Nat} {r : Int32 × im_W} (X : im_X D vwCl tA lo im_NW c_Reader_leastAbove 6 (some .int) RC_Reader im_T p s m args meth c) {k6 : Nat → Int64 → Int32 → Int32 → Int32 → im_W → Option (Int32 × im_W)} (hk6 : ∀ (x0 : Nat) (x1 : Int64) (x3 : Int32) (x4 : Int32) (x5 : Int32) (w : im_W), k6 x0 x1 x3 x4 x5 w = some r → im_WW D vwCl tA lo 6 p l e (im_rm 0 0) s m args below meth c 0 0 (MQ below (im_Post D vwCl tA lo (some (.int r.1)) r.2) args s 0 0 (fun q => lo ≤ q)) 6 [(0, .ref (lo + x0)), (1, .long x1), (3, .int x3), (4, .int x4), (5, .int x5)] [] w) (x0 : Nat) (x1 : Int64) (x3 : Int32) (x5 : Int32) (w : im_W) (hsh : sh_Reader_leastAbove_61 F k6 x0 x1 x3 x5 w = some r) : im_WW D vwCl tA lo 6 p l e (im_rm 0 0) s m args below meth c 0 0 (MQ below (im_Post D vwCl tA lo (some (.int r.1)) r.2) args s 0 0 (fun q => lo ≤ q)) 61 [(0, .ref (lo + x0)), (1, .long x1), (3, .int x3), (5, .int x5)] [] w := by
  obtain ⟨hx, hb, hr, hts, hown, hlk, hml, hK, hN⟩ := id X
  intro H locs ls hH hl
  unfold sh_Reader_leastAbove_61 at hsh
  refine lv_iload hx hb d_Reader_leastAbove_61 (lv_at hl 3 rfl) ?_
  refine lv_istore (lv' := [(4, .int x5), (0, .ref (lo + x0)), (1, .long x1), (3, .int x3), (5, .int x5)]) hx hb d_Reader_leastAbove_63 hl (by decide) rfl (fun ls hl => ?_)
  exact bk_Reader_leastAbove_65 X hk6 x0 x1 x3 x5 x5 w hsh H locs ls hH (lv_sub hl [1, 2, 3, 0, 4] rfl)
def sh_Reader_leastAbove_6 (F : Nat) : Nat → Nat → Int64 → Int32 → Int32 → Int32 → im_W → Option (Int32 × im_W)
  | 0, _, _, _, _, _, _ => none
  | f + 1, x0, x1, x3, x4, x5, w => (im_gI w 5 x0 2).bind fun f1 => (if f1 ≤ x5 then some (x4, w) else (im_gR w 5 x0 1).bind fun f3 => (im_lI w 0 f3 x5).bind fun e5 => (if e5 = x3 then (im_gR w 5 x0 0).bind fun f7 => (im_lL w 1 f7 x5).bind fun e9 => (if (lg_cmp e9 x1) ≤ 0 then sh_Reader_leastAbove_65 F (sh_Reader_leastAbove_6 F f) x0 x1 x3 x4 x5 w else (if x4 < 0 then sh_Reader_leastAbove_61 F (sh_Reader_leastAbove_6 F f) x0 x1 x3 x5 w else (im_gR w 5 x0 0).bind fun f11 => (im_lL w 1 f11 x5).bind fun e13 => (im_gR w 5 x0 0).bind fun f15 => (im_lL w 1 f15 x4).bind fun e17 => (if 0 ≤ (lg_cmp e13 e17) then sh_Reader_leastAbove_65 F (sh_Reader_leastAbove_6 F f) x0 x1 x3 x4 x5 w else sh_Reader_leastAbove_61 F (sh_Reader_leastAbove_6 F f) x0 x1 x3 x5 w))) else sh_Reader_leastAbove_65 F (sh_Reader_leastAbove_6 F f) x0 x1 x3 x4 x5 w))
set_option maxHeartbeats 4000000 in
set_option maxRecDepth 100000 in
theorem bk_Reader_leastAbove_6 {F : Nat} {r : Int32 × im_W} (X : im_X D vwCl tA lo im_NW c_Reader_leastAbove 6 (some .int) RC_Reader im_T p s m args meth c) : ∀ (f : Nat) (x0 : Nat) (x1 : Int64) (x3 : Int32) (x4 : Int32) (x5 : Int32) (w : im_W), sh_Reader_leastAbove_6 F f x0 x1 x3 x4 x5 w = some r → im_WW D vwCl tA lo 6 p l e (im_rm 0 0) s m args below meth c 0 0 (MQ below (im_Post D vwCl tA lo (some (.int r.1)) r.2) args s 0 0 (fun q => lo ≤ q)) 6 [(0, .ref (lo + x0)), (1, .long x1), (3, .int x3), (4, .int x4), (5, .int x5)] [] w := by
  obtain ⟨hx, hb, hr, hts, hown, hlk, hml, hK, hN⟩ := id X
  intro f
  induction f with
  | zero =>
    intro x0 x1 x3 x4 x5 w hsh
    cases hsh
  | succ f ih =>
    intro x0 x1 x3 x4 x5 w hsh H locs ls hH hl
    unfold sh_Reader_leastAbove_6 at hsh
    refine lv_iload hx hb d_Reader_leastAbove_6 (lv_at hl 4 rfl) ?_
    refine lv_aload_n hx hb d_Reader_leastAbove_8 rfl (lv_at hl 0 rfl) ?_
    obtain ⟨f1, h2, hsh⟩ := im_bd hsh
    refine im_getI hx hb hts inC_Reader hown hK hH (ci := 5) rfl 2 (by decide) (hts _ wd_42) rfl h2 d_Reader_leastAbove_9 ?_
    refine lv_icmp_ge (tgt := 71) hx hb d_Reader_leastAbove_12 (by decide) (fun cc => ?_) (fun cc => ?_)
    · have hsh := im_it hsh cc
      refine lv_iload hx hb d_Reader_leastAbove_71 (lv_at hl 3 rfl) ?_
      obtain rfl := Option.some.inj hsh
      exact im_iret hx hb hr hlk hH d_Reader_leastAbove_73
    · have hsh := im_if hsh cc
      refine lv_aload_n hx hb d_Reader_leastAbove_15 rfl (lv_at hl 0 rfl) ?_
      obtain ⟨f3, h4, hsh⟩ := im_bd hsh
      refine im_getR hx hb hts inC_Reader hown hK hH (ci := 5) rfl 1 (by decide) (hts _ wd_41) rfl h4 d_Reader_leastAbove_16 ?_
      refine lv_iload hx hb d_Reader_leastAbove_19 (lv_at hl 4 rfl) ?_
      obtain ⟨e5, h6, hsh⟩ := im_bd hsh
      refine im_iald hx hb hK hH h6 d_Reader_leastAbove_21 ?_
      refine lv_iload_n hx hb d_Reader_leastAbove_22 rfl (lv_at hl 2 rfl) ?_
      refine lv_icmp_ne (tgt := 65) hx hb d_Reader_leastAbove_23 (by decide) (fun cc => ?_) (fun cc => ?_)
      · have hsh := im_if hsh cc
        exact bk_Reader_leastAbove_65 X ih x0 x1 x3 x4 x5 w hsh H locs ls hH (lv_sub hl [0, 1, 2, 3, 4] rfl)
      · have hsh := im_it hsh cc
        refine lv_aload_n hx hb d_Reader_leastAbove_26 rfl (lv_at hl 0 rfl) ?_
        obtain ⟨f7, h8, hsh⟩ := im_bd hsh
        refine im_getR hx hb hts inC_Reader hown hK hH (ci := 5) rfl 0 (by decide) (hts _ wd_40) rfl h8 d_Reader_leastAbove_27 ?_
        refine lv_iload hx hb d_Reader_leastAbove_30 (lv_at hl 4 rfl) ?_
        obtain ⟨e9, h10, hsh⟩ := im_bd hsh
        refine im_lald hx hb hK hH h10 d_Reader_leastAbove_32 ?_
        refine lv_lload_n hx hb d_Reader_leastAbove_33 rfl (lv_at hl 1 rfl) ?_
        refine W.lcmp hx hb d_Reader_leastAbove_34 ?_
        refine lv_if_le (tgt := 65) hx hb d_Reader_leastAbove_35 (by decide) (fun cc => ?_) (fun cc => ?_)
        · have hsh := im_it hsh cc
          exact bk_Reader_leastAbove_65 X ih x0 x1 x3 x4 x5 w hsh H locs ls hH (lv_sub hl [0, 1, 2, 3, 4] rfl)
        · have hsh := im_if hsh cc
          refine lv_iload hx hb d_Reader_leastAbove_38 (lv_at hl 3 rfl) ?_
          refine lv_if_lt (tgt := 61) hx hb d_Reader_leastAbove_40 (by decide) (fun cc => ?_) (fun cc => ?_)
          · have hsh := im_it hsh cc
            exact bk_Reader_leastAbove_61 X ih x0 x1 x3 x5 w hsh H locs ls hH (lv_sub hl [0, 1, 2, 4] rfl)
          · have hsh := im_if hsh cc
            refine lv_aload_n hx hb d_Reader_leastAbove_43 rfl (lv_at hl 0 rfl) ?_
            obtain ⟨f11, h12, hsh⟩ := im_bd hsh
            refine im_getR hx hb hts inC_Reader hown hK hH (ci := 5) rfl 0 (by decide) (hts _ wd_40) rfl h12 d_Reader_leastAbove_44 ?_
            refine lv_iload hx hb d_Reader_leastAbove_47 (lv_at hl 4 rfl) ?_
            obtain ⟨e13, h14, hsh⟩ := im_bd hsh
            refine im_lald hx hb hK hH h14 d_Reader_leastAbove_49 ?_
            refine lv_aload_n hx hb d_Reader_leastAbove_50 rfl (lv_at hl 0 rfl) ?_
            obtain ⟨f15, h16, hsh⟩ := im_bd hsh
            refine im_getR hx hb hts inC_Reader hown hK hH (ci := 5) rfl 0 (by decide) (hts _ wd_40) rfl h16 d_Reader_leastAbove_51 ?_
            refine lv_iload hx hb d_Reader_leastAbove_54 (lv_at hl 3 rfl) ?_
            obtain ⟨e17, h18, hsh⟩ := im_bd hsh
            refine im_lald hx hb hK hH h18 d_Reader_leastAbove_56 ?_
            refine W.lcmp hx hb d_Reader_leastAbove_57 ?_
            refine lv_if_ge (tgt := 65) hx hb d_Reader_leastAbove_58 (by decide) (fun cc => ?_) (fun cc => ?_)
            · have hsh := im_it hsh cc
              exact bk_Reader_leastAbove_65 X ih x0 x1 x3 x4 x5 w hsh H locs ls hH (lv_sub hl [0, 1, 2, 3, 4] rfl)
            · have hsh := im_if hsh cc
              exact bk_Reader_leastAbove_61 X ih x0 x1 x3 x5 w hsh H locs ls hH (lv_sub hl [0, 1, 2, 4] rfl)
def sh_Reader_leastAbove (F : Nat) (x0 : Nat) (x1 : Int64) (x3 : Int32) (w : im_W) : Option (Int32 × im_W) :=
  sh_Reader_leastAbove_6 F F x0 x1 x3 (-1 : Int32) (0 : Int32) w
set_option maxHeartbeats 4000000 in
set_option maxRecDepth 100000 in
theorem met_Reader_leastAbove {F : Nat} {x0 : Nat} {x1 : Int64} {x3 : Int32} {w : im_W} {r : Int32 × im_W} (hsh : sh_Reader_leastAbove F x0 x1 x3 w = some r) : Met l y_Reader_leastAbove (Cond.code y_Reader_leastAbove c_Reader_leastAbove 6 (some .int) :: im_T) (im_rm 0 0) (im_Pre D vwCl tA lo im_NW [.ref (lo + x0), .long x1, .int x3] w) (im_Post D vwCl tA lo (some (.int r.1)) r.2) 0 0 (fun q => lo ≤ q) := by
  refine im_ofW (cc := c_Reader_leastAbove) (nL := 6) (ret := (some .int)) (by decide) (Nat.le_of_ble_eq_true rfl) ?_
  intro p e s m args below meth c X H locs ls hH hl
  obtain ⟨hx, hb, hr, hts, hown, hlk, hml, hK, hN⟩ := id X
  have hl : lv_has ls 6 [(0, .ref (lo + x0)), (1, .long x1), (3, .int x3)] := hl
  unfold sh_Reader_leastAbove at hsh
  refine lv_iconst (v := -1) hx hb d_Reader_leastAbove_0 (by decide) ?_
  refine lv_istore (lv' := [(4, .int (-1 : Int32)), (0, .ref (lo + x0)), (1, .long x1), (3, .int x3)]) hx hb d_Reader_leastAbove_1 hl (by decide) rfl (fun ls hl => ?_)
  refine lv_iconst (v := 0) hx hb d_Reader_leastAbove_3 (by decide) ?_
  refine lv_istore (lv' := [(5, .int (0 : Int32)), (4, .int (-1 : Int32)), (0, .ref (lo + x0)), (1, .long x1), (3, .int x3)]) hx hb d_Reader_leastAbove_4 hl (by decide) rfl (fun ls hl => ?_)
  exact bk_Reader_leastAbove_6 X F x0 x1 x3 (-1 : Int32) (0 : Int32) w hsh H locs ls hH (lv_sub hl [2, 3, 4, 1, 0] rfl)
end GEN
