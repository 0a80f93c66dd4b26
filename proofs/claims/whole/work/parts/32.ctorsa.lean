section GEN
variable {l : Launch} {D : va_G} {tA : Nat → ClassId} {lo : Nat} {p : Program} {e : Env} {s : State} {m : MethodId} {args : Array Value} {below : List Frame} {meth : Method} {c : Code}
theorem wd_objcode : Cond.code objectInit ⟨#[0xb1]⟩ 1 none ∈ im_T := im_memT (i := 19) (by decide +kernel) (by decide +kernel)
def df0_Aliases : List Value := [.null, .null, .null, .int 0]
theorem dfC0_Aliases : ∀ j, j < 4 → defaultValue (tyC_Aliases j) = vp_V df0_Aliases j := by decide +kernel
theorem dfC_Aliases (lo : Nat) : ∀ j, j < 4 → defaultValue (tyC_Aliases j) = vp_V (df0_Aliases.map (im_sv lo)) j := fun j hj => by
  rw [show df0_Aliases.map (im_sv lo) = df0_Aliases from rfl]
  exact dfC0_Aliases j hj
def df0_Core : List Value := [.long 0, .long 0, .long 0]
theorem dfC0_Core : ∀ j, j < 3 → defaultValue (tyC_Core j) = vp_V df0_Core j := by decide +kernel
theorem dfC_Core (lo : Nat) : ∀ j, j < 3 → defaultValue (tyC_Core j) = vp_V (df0_Core.map (im_sv lo)) j := fun j hj => by
  rw [show df0_Core.map (im_sv lo) = df0_Core from rfl]
  exact dfC0_Core j hj
def df0_Form : List Value := [.null, .null, .int 0]
theorem dfC0_Form : ∀ j, j < 3 → defaultValue (tyC_Form j) = vp_V df0_Form j := by decide +kernel
theorem dfC_Form (lo : Nat) : ∀ j, j < 3 → defaultValue (tyC_Form j) = vp_V (df0_Form.map (im_sv lo)) j := fun j hj => by
  rw [show df0_Form.map (im_sv lo) = df0_Form from rfl]
  exact dfC0_Form j hj
def df0_Likely : List Value := [.null, .null, .null, .null]
theorem dfC0_Likely : ∀ j, j < 4 → defaultValue (tyC_Likely j) = vp_V df0_Likely j := by decide +kernel
theorem dfC_Likely (lo : Nat) : ∀ j, j < 4 → defaultValue (tyC_Likely j) = vp_V (df0_Likely.map (im_sv lo)) j := fun j hj => by
  rw [show df0_Likely.map (im_sv lo) = df0_Likely from rfl]
  exact dfC0_Likely j hj
def df0_Pairs : List Value := [.null, .null, .int 0]
theorem dfC0_Pairs : ∀ j, j < 3 → defaultValue (tyC_Pairs j) = vp_V df0_Pairs j := by decide +kernel
theorem dfC_Pairs (lo : Nat) : ∀ j, j < 3 → defaultValue (tyC_Pairs j) = vp_V (df0_Pairs.map (im_sv lo)) j := fun j hj => by
  rw [show df0_Pairs.map (im_sv lo) = df0_Pairs from rfl]
  exact dfC0_Pairs j hj
def df0_Reader : List Value := [.null, .null, .int 0]
theorem dfC0_Reader : ∀ j, j < 3 → defaultValue (tyC_Reader j) = vp_V df0_Reader j := by decide +kernel
theorem dfC_Reader (lo : Nat) : ∀ j, j < 3 → defaultValue (tyC_Reader j) = vp_V (df0_Reader.map (im_sv lo)) j := fun j hj => by
  rw [show df0_Reader.map (im_sv lo) = df0_Reader from rfl]
  exact dfC0_Reader j hj
def df0_Tag : List Value := [.null, .null, .null, .int 0]
theorem dfC0_Tag : ∀ j, j < 4 → defaultValue (tyC_Tag j) = vp_V df0_Tag j := by decide +kernel
theorem dfC_Tag (lo : Nat) : ∀ j, j < 4 → defaultValue (tyC_Tag j) = vp_V (df0_Tag.map (im_sv lo)) j := fun j hj => by
  rw [show df0_Tag.map (im_sv lo) = df0_Tag from rfl]
  exact dfC0_Tag j hj
def df0_Text : List Value := [.null, .int 0]
theorem dfC0_Text : ∀ j, j < 2 → defaultValue (tyC_Text j) = vp_V df0_Text j := by decide +kernel
theorem dfC_Text (lo : Nat) : ∀ j, j < 2 → defaultValue (tyC_Text j) = vp_V (df0_Text.map (im_sv lo)) j := fun j hj => by
  rw [show df0_Text.map (im_sv lo) = df0_Text from rfl]
  exact dfC0_Text j hj
def df0_LT : List Value := [.null, .null, .null, .null, .null, .null, .null, .null, .null, .null, .null, .null, .null, .int 0, .int 0, .int 0]
theorem dfC0_LT : ∀ j, j < 16 → defaultValue (tyC_LT j) = vp_V df0_LT j := by decide +kernel
theorem dfC_LT (lo : Nat) : ∀ j, j < 16 → defaultValue (tyC_LT j) = vp_V (df0_LT.map (im_sv lo)) j := fun j hj => by
  rw [show df0_LT.map (im_sv lo) = df0_LT from rfl]
  exact dfC0_LT j hj
def df0_Model : List Value := [.int 0, .null, .int 0, .int 0, .int 0, .int 0, .null, .null, .int 0, .null, .null, .int 0, .int 0, .int 0, .null, .int 0, .null, .int 0, .null, .null, .null, .null, .null, .null, .null, .null, .null, .null, .int 0, .int 0, .int 0, .int 0, .null, .null, .null, .null, .null, .null, .null, .int 0, .null, .int 0, .null, .int 0]
theorem dfC0_Model : ∀ j, j < 44 → defaultValue (tyC_Model j) = vp_V df0_Model j := by decide +kernel
theorem dfC_Model (lo : Nat) : ∀ j, j < 44 → defaultValue (tyC_Model j) = vp_V (df0_Model.map (im_sv lo)) j := fun j hj => by
  rw [show df0_Model.map (im_sv lo) = df0_Model from rfl]
  exact dfC0_Model j hj
theorem wd_18 : (Jvm.Cond.instanceMethod ({ cls := "java/lang/Object", name := "<init>", desc := "()V" } : Jvm.MethodName)) ∈ im_T := im_memT (i := 18) (by decide +kernel) (by decide +kernel)
theorem wd_25 : (Jvm.Cond.methodLink "LanguageTags$Text" (1 : Nat) ({ cls := "java/lang/Object", name := "<init>", desc := "()V" } : Jvm.MethodName)) ∈ im_T := im_memT (i := 25) (by decide +kernel) (by decide +kernel)
theorem wd_33 : (Jvm.Cond.arrayClass Jvm.ClassFile.FieldType.char) ∈ im_T := im_memT (i := 33) (by decide +kernel) (by decide +kernel)
theorem d_Text_init_0 : decode c_Text_init 0 = .ok (.aload_n 0, 1) := by decide +kernel
theorem d_Text_init_1 : decode c_Text_init 1 = .ok (.invokespecial 1, 3) := by decide +kernel
theorem d_Text_init_4 : decode c_Text_init 4 = .ok (.aload_n 0, 1) := by decide +kernel
theorem d_Text_init_5 : decode c_Text_init 5 = .ok (.iload_n 1, 1) := by decide +kernel
theorem d_Text_init_6 : decode c_Text_init 6 = .ok (.newarray .char, 2) := by decide +kernel
theorem d_Text_init_8 : decode c_Text_init 8 = .ok (.putfield 7, 3) := by decide +kernel
theorem d_Text_init_11 : decode c_Text_init 11 = .ok (.aload_n 0, 1) := by decide +kernel
theorem d_Text_init_12 : decode c_Text_init 12 = .ok (.iconst 0, 1) := by decide +kernel
theorem d_Text_init_13 : decode c_Text_init 13 = .ok (.putfield 13, 3) := by decide +kernel
theorem d_Text_init_16 : decode c_Text_init 16 = .ok (.return_, 1) := by decide +kernel
def sh_Text_init_60 (F : Nat) (x0 : Nat) (w : im_W) : Option im_W :=
  im_b2 (im_al w (.inl (2, (60, .inl (fun _ => 0))))) fun n1 w2 => (im_pV w2 7 x0 0 (.ref n1)).bind fun w4 => (im_pV w4 7 x0 1 (.int (0 : Int32))).bind fun w6 => some w6
set_option maxHeartbeats 4000000 in
set_option maxRecDepth 100000 in
theorem metc_Text_init_60 {F : Nat} {x0 : Nat} {w : im_W} {r : im_W} (hsh : sh_Text_init_60 F x0 w = some r) : Met l y_Text_init (Cond.code y_Text_init c_Text_init 2 none :: im_T) (im_rmc 1 12 1 60) (im_PreC D vwCl tA lo im_NW [.ref (lo + x0), .int (60 : Int32)] w) (im_Post D vwCl tA lo none r) 1 60 (fun q => lo ≤ q) := by
  refine im_ofWC (cc := c_Text_init) (nL := 2) (by decide) rfl (Nat.le_of_ble_eq_true rfl) ?_
  intro p e s m args below meth c X hin hlo hz hAO H locs ls hH hl
  obtain ⟨hx, hb, hr, hts, hown, hlk, hml, hK, hN⟩ := id X
  have hl : lv_has ls 2 [(0, .ref (lo + x0)), (1, .int (60 : Int32))] := hl
  unfold sh_Text_init_60 at hsh
  refine lv_aload_n hx hb d_Text_init_0 rfl (lv_at hl 0 rfl) ?_
  refine W.objInit hx hb hown (hts _ wd_25) (hts _ wd_18) (hts _ wd_objcode) rfl (by rw [hml]; exact hl.1) rfl d_Text_init_1 (Nat.le_of_ble_eq_true rfl) (Nat.le_of_ble_eq_true rfl) ?_
  refine W.eq (g2 := F0 m 4 ls []) rfl ?_
  refine lv_aload_n hx hb d_Text_init_4 rfl (lv_at hl 0 rfl) ?_
  refine lv_iload_n hx hb d_Text_init_5 rfl (lv_at hl 1 rfl) ?_
  obtain ⟨n1, w2, h3, hsh_1⟩ := im_bd2 hsh
  clear hsh
  refine im_newa' (atype := .char) (t := 2) (a0 := (60, .inl (fun _ => 0))) hx hb (hts _ wd_33) (by decide) rfl hK hH hlo hz (fun _ => rfl) (by decide) (N' := 60) (by decide) (by decide) (Nat.le_of_ble_eq_true rfl) (Nat.le_of_ble_eq_true rfl) h3 d_Text_init_6 (fun H hH => ?_)
  have hz := im_z_al h3 hz
  obtain ⟨w4, h5, hsh_2⟩ := im_bd hsh_1
  clear hsh_1
  refine im_putF (v := .ref n1) hx hb hts inC_Text tyC_Text tyC_Text_ok nmC_Text hown hK hH (ci := 7) rfl 0 (by decide) (hts _ wd_26) rfl rfl hin rfl rfl rfl h5 d_Text_init_8 (fun H locs hH => ?_)
  have hz := im_z_p h5 hz
  refine lv_aload_n hx hb d_Text_init_11 rfl (lv_at hl 0 rfl) ?_
  refine lv_iconst (v := 0) hx hb d_Text_init_12 (by decide) ?_
  obtain ⟨w6, h7, hsh_3⟩ := im_bd hsh_2
  clear hsh_2
  refine im_put (v := .int (0 : Int32)) hx hb hts inC_Text tyC_Text tyC_Text_ok nmC_Text hown hK hH (ci := 7) rfl 1 (by decide) (hts _ wd_27) rfl rfl rfl rfl h7 d_Text_init_13 (fun H locs hH => ?_)
  have hz := im_z_p h7 hz
  obtain rfl := Option.some.inj hsh_3
  refine W.widen (k := 1) (n := 60) (Nat.le_of_ble_eq_true rfl) (Nat.le_of_ble_eq_true rfl) ?_
  exact im_vret hx hb hr hlk hH d_Text_init_16
def sh_Text_init_62 (F : Nat) (x0 : Nat) (w : im_W) : Option im_W :=
  im_b2 (im_al w (.inl (2, (62, .inl (fun _ => 0))))) fun n1 w2 => (im_pV w2 7 x0 0 (.ref n1)).bind fun w4 => (im_pV w4 7 x0 1 (.int (0 : Int32))).bind fun w6 => some w6
set_option maxHeartbeats 4000000 in
set_option maxRecDepth 100000 in
theorem metc_Text_init_62 {F : Nat} {x0 : Nat} {w : im_W} {r : im_W} (hsh : sh_Text_init_62 F x0 w = some r) : Met l y_Text_init (Cond.code y_Text_init c_Text_init 2 none :: im_T) (im_rmc 1 12 1 62) (im_PreC D vwCl tA lo im_NW [.ref (lo + x0), .int (62 : Int32)] w) (im_Post D vwCl tA lo none r) 1 62 (fun q => lo ≤ q) := by
  refine im_ofWC (cc := c_Text_init) (nL := 2) (by decide) rfl (Nat.le_of_ble_eq_true rfl) ?_
  intro p e s m args below meth c X hin hlo hz hAO H locs ls hH hl
  obtain ⟨hx, hb, hr, hts, hown, hlk, hml, hK, hN⟩ := id X
  have hl : lv_has ls 2 [(0, .ref (lo + x0)), (1, .int (62 : Int32))] := hl
  unfold sh_Text_init_62 at hsh
  refine lv_aload_n hx hb d_Text_init_0 rfl (lv_at hl 0 rfl) ?_
  refine W.objInit hx hb hown (hts _ wd_25) (hts _ wd_18) (hts _ wd_objcode) rfl (by rw [hml]; exact hl.1) rfl d_Text_init_1 (Nat.le_of_ble_eq_true rfl) (Nat.le_of_ble_eq_true rfl) ?_
  refine W.eq (g2 := F0 m 4 ls []) rfl ?_
  refine lv_aload_n hx hb d_Text_init_4 rfl (lv_at hl 0 rfl) ?_
  refine lv_iload_n hx hb d_Text_init_5 rfl (lv_at hl 1 rfl) ?_
  obtain ⟨n1, w2, h3, hsh_1⟩ := im_bd2 hsh
  clear hsh
  refine im_newa' (atype := .char) (t := 2) (a0 := (62, .inl (fun _ => 0))) hx hb (hts _ wd_33) (by decide) rfl hK hH hlo hz (fun _ => rfl) (by decide) (N' := 62) (by decide) (by decide) (Nat.le_of_ble_eq_true rfl) (Nat.le_of_ble_eq_true rfl) h3 d_Text_init_6 (fun H hH => ?_)
  have hz := im_z_al h3 hz
  obtain ⟨w4, h5, hsh_2⟩ := im_bd hsh_1
  clear hsh_1
  refine im_putF (v := .ref n1) hx hb hts inC_Text tyC_Text tyC_Text_ok nmC_Text hown hK hH (ci := 7) rfl 0 (by decide) (hts _ wd_26) rfl rfl hin rfl rfl rfl h5 d_Text_init_8 (fun H locs hH => ?_)
  have hz := im_z_p h5 hz
  refine lv_aload_n hx hb d_Text_init_11 rfl (lv_at hl 0 rfl) ?_
  refine lv_iconst (v := 0) hx hb d_Text_init_12 (by decide) ?_
  obtain ⟨w6, h7, hsh_3⟩ := im_bd hsh_2
  clear hsh_2
  refine im_put (v := .int (0 : Int32)) hx hb hts inC_Text tyC_Text tyC_Text_ok nmC_Text hown hK hH (ci := 7) rfl 1 (by decide) (hts _ wd_27) rfl rfl rfl rfl h7 d_Text_init_13 (fun H locs hH => ?_)
  have hz := im_z_p h7 hz
  obtain rfl := Option.some.inj hsh_3
  refine W.widen (k := 1) (n := 62) (Nat.le_of_ble_eq_true rfl) (Nat.le_of_ble_eq_true rfl) ?_
  exact im_vret hx hb hr hlk hH d_Text_init_16
theorem wd_39 : (Jvm.Cond.methodLink "LanguageTags$Reader" (3 : Nat) ({ cls := "java/lang/Object", name := "<init>", desc := "()V" } : Jvm.MethodName)) ∈ im_T := im_memT (i := 39) (by decide +kernel) (by decide +kernel)
theorem wd_50 : (Jvm.Cond.arrayClass Jvm.ClassFile.FieldType.long) ∈ im_T := im_memT (i := 50) (by decide +kernel) (by decide +kernel)
theorem wd_51 : (Jvm.Cond.arrayClass Jvm.ClassFile.FieldType.int) ∈ im_T := im_memT (i := 51) (by decide +kernel) (by decide +kernel)
theorem d_Reader_init_0 : decode c_Reader_init 0 = .ok (.aload_n 0, 1) := by decide +kernel
theorem d_Reader_init_1 : decode c_Reader_init 1 = .ok (.invokespecial 3, 3) := by decide +kernel
theorem d_Reader_init_4 : decode c_Reader_init 4 = .ok (.aload_n 0, 1) := by decide +kernel
theorem d_Reader_init_5 : decode c_Reader_init 5 = .ok (.bipush (30), 2) := by decide +kernel
theorem d_Reader_init_7 : decode c_Reader_init 7 = .ok (.newarray .long, 2) := by decide +kernel
theorem d_Reader_init_9 : decode c_Reader_init 9 = .ok (.putfield 9, 3) := by decide +kernel
theorem d_Reader_init_12 : decode c_Reader_init 12 = .ok (.aload_n 0, 1) := by decide +kernel
theorem d_Reader_init_13 : decode c_Reader_init 13 = .ok (.bipush (30), 2) := by decide +kernel
theorem d_Reader_init_15 : decode c_Reader_init 15 = .ok (.newarray .int, 2) := by decide +kernel
theorem d_Reader_init_17 : decode c_Reader_init 17 = .ok (.putfield 15, 3) := by decide +kernel
theorem d_Reader_init_20 : decode c_Reader_init 20 = .ok (.aload_n 0, 1) := by decide +kernel
theorem d_Reader_init_21 : decode c_Reader_init 21 = .ok (.iconst 0, 1) := by decide +kernel
theorem d_Reader_init_22 : decode c_Reader_init 22 = .ok (.putfield 19, 3) := by decide +kernel
theorem d_Reader_init_25 : decode c_Reader_init 25 = .ok (.return_, 1) := by decide +kernel
def sh_Reader_init (F : Nat) (x0 : Nat) (w : im_W) : Option im_W :=
  im_b2 (im_al w (.inl (1, (30, .inr (.inl (fun _ => 0)))))) fun n1 w2 => (im_pV w2 5 x0 0 (.ref n1)).bind fun w4 => im_b2 (im_al w4 (.inl (0, (30, .inl (fun _ => 0))))) fun n6 w7 => (im_pV w7 5 x0 1 (.ref n6)).bind fun w9 => (im_pV w9 5 x0 2 (.int (0 : Int32))).bind fun w11 => some w11
set_option maxHeartbeats 4000000 in
set_option maxRecDepth 100000 in
theorem metc_Reader_init {F : Nat} {x0 : Nat} {w : im_W} {r : im_W} (hsh : sh_Reader_init F x0 w = some r) : Met l y_Reader_init (Cond.code y_Reader_init c_Reader_init 1 none :: im_T) (im_rmc 1 12 2 60) (im_PreC D vwCl tA lo im_NW [.ref (lo + x0)] w) (im_Post D vwCl tA lo none r) 2 60 (fun q => lo ≤ q) := by
  refine im_ofWC (cc := c_Reader_init) (nL := 1) (by decide) rfl (Nat.le_of_ble_eq_true rfl) ?_
  intro p e s m args below meth c X hin hlo hz hAO H locs ls hH hl
  obtain ⟨hx, hb, hr, hts, hown, hlk, hml, hK, hN⟩ := id X
  have hl : lv_has ls 1 [(0, .ref (lo + x0))] := hl
  unfold sh_Reader_init at hsh
  refine lv_aload_n hx hb d_Reader_init_0 rfl (lv_at hl 0 rfl) ?_
  refine W.objInit hx hb hown (hts _ wd_39) (hts _ wd_18) (hts _ wd_objcode) rfl (by rw [hml]; exact hl.1) rfl d_Reader_init_1 (Nat.le_of_ble_eq_true rfl) (Nat.le_of_ble_eq_true rfl) ?_
  refine W.eq (g2 := F0 m 4 ls []) rfl ?_
  refine lv_aload_n hx hb d_Reader_init_4 rfl (lv_at hl 0 rfl) ?_
  refine lv_bipush (v := 30) hx hb d_Reader_init_5 (by decide) ?_
  obtain ⟨n1, w2, h3, hsh_1⟩ := im_bd2 hsh
  clear hsh
  refine im_newa' (atype := .long) (t := 1) (a0 := (30, .inr (.inl (fun _ => 0)))) hx hb (hts _ wd_50) (by decide) rfl hK hH hlo hz (fun _ => rfl) (by decide) (N' := 30) (by decide) (by decide) (Nat.le_of_ble_eq_true rfl) (Nat.le_of_ble_eq_true rfl) h3 d_Reader_init_7 (fun H hH => ?_)
  have hz := im_z_al h3 hz
  obtain ⟨w4, h5, hsh_2⟩ := im_bd hsh_1
  clear hsh_1
  refine im_putF (v := .ref n1) hx hb hts inC_Reader tyC_Reader tyC_Reader_ok nmC_Reader hown hK hH (ci := 5) rfl 0 (by decide) (hts _ wd_40) rfl rfl hin rfl rfl rfl h5 d_Reader_init_9 (fun H locs hH => ?_)
  have hz := im_z_p h5 hz
  refine lv_aload_n hx hb d_Reader_init_12 rfl (lv_at hl 0 rfl) ?_
  refine lv_bipush (v := 30) hx hb d_Reader_init_13 (by decide) ?_
  obtain ⟨n6, w7, h8, hsh_3⟩ := im_bd2 hsh_2
  clear hsh_2
  refine im_newa' (atype := .int) (t := 0) (a0 := (30, .inl (fun _ => 0))) hx hb (hts _ wd_51) (by decide) rfl hK hH hlo hz (fun _ => rfl) (by decide) (N' := 30) (by decide) (by decide) (Nat.le_of_ble_eq_true rfl) (Nat.le_of_ble_eq_true rfl) h8 d_Reader_init_15 (fun H hH => ?_)
  have hz := im_z_al h8 hz
  obtain ⟨w9, h10, hsh_4⟩ := im_bd hsh_3
  clear hsh_3
  refine im_putF (v := .ref n6) hx hb hts inC_Reader tyC_Reader tyC_Reader_ok nmC_Reader hown hK hH (ci := 5) rfl 1 (by decide) (hts _ wd_41) rfl rfl hin rfl rfl rfl h10 d_Reader_init_17 (fun H locs hH => ?_)
  have hz := im_z_p h10 hz
  refine lv_aload_n hx hb d_Reader_init_20 rfl (lv_at hl 0 rfl) ?_
  refine lv_iconst (v := 0) hx hb d_Reader_init_21 (by decide) ?_
  obtain ⟨w11, h12, hsh_5⟩ := im_bd hsh_4
  clear hsh_4
  refine im_put (v := .int (0 : Int32)) hx hb hts inC_Reader tyC_Reader tyC_Reader_ok nmC_Reader hown hK hH (ci := 5) rfl 2 (by decide) (hts _ wd_42) rfl rfl rfl rfl h12 d_Reader_init_22 (fun H locs hH => ?_)
  have hz := im_z_p h12 hz
  obtain rfl := Option.some.inj hsh_5
  refine W.widen (k := 2) (n := 60) (Nat.le_of_ble_eq_true rfl) (Nat.le_of_ble_eq_true rfl) ?_
  exact im_vret hx hb hr hlk hH d_Reader_init_25
theorem wd_57 : (Jvm.Cond.methodLink "LanguageTags$Aliases" (3 : Nat) ({ cls := "java/lang/Object", name := "<init>", desc := "()V" } : Jvm.MethodName)) ∈ im_T := im_memT (i := 57) (by decide +kernel) (by decide +kernel)
theorem wd_71 : (Jvm.Cond.arrayClass Jvm.ClassFile.FieldType.boolean) ∈ im_T := im_memT (i := 71) (by decide +kernel) (by decide +kernel)
theorem d_Aliases_init_0 : decode c_Aliases_init 0 = .ok (.aload_n 0, 1) := by decide +kernel
theorem d_Aliases_init_1 : decode c_Aliases_init 1 = .ok (.invokespecial 3, 3) := by decide +kernel
theorem d_Aliases_init_4 : decode c_Aliases_init 4 = .ok (.aload_n 0, 1) := by decide +kernel
theorem d_Aliases_init_5 : decode c_Aliases_init 5 = .ok (.bipush (8), 2) := by decide +kernel
theorem d_Aliases_init_7 : decode c_Aliases_init 7 = .ok (.newarray .long, 2) := by decide +kernel
theorem d_Aliases_init_9 : decode c_Aliases_init 9 = .ok (.putfield 9, 3) := by decide +kernel
theorem d_Aliases_init_12 : decode c_Aliases_init 12 = .ok (.aload_n 0, 1) := by decide +kernel
theorem d_Aliases_init_13 : decode c_Aliases_init 13 = .ok (.bipush (8), 2) := by decide +kernel
theorem d_Aliases_init_15 : decode c_Aliases_init 15 = .ok (.newarray .long, 2) := by decide +kernel
theorem d_Aliases_init_17 : decode c_Aliases_init 17 = .ok (.putfield 15, 3) := by decide +kernel
theorem d_Aliases_init_20 : decode c_Aliases_init 20 = .ok (.aload_n 0, 1) := by decide +kernel
theorem d_Aliases_init_21 : decode c_Aliases_init 21 = .ok (.bipush (8), 2) := by decide +kernel
theorem d_Aliases_init_23 : decode c_Aliases_init 23 = .ok (.newarray .boolean, 2) := by decide +kernel
theorem d_Aliases_init_25 : decode c_Aliases_init 25 = .ok (.putfield 18, 3) := by decide +kernel
theorem d_Aliases_init_28 : decode c_Aliases_init 28 = .ok (.aload_n 0, 1) := by decide +kernel
theorem d_Aliases_init_29 : decode c_Aliases_init 29 = .ok (.iconst 0, 1) := by decide +kernel
theorem d_Aliases_init_30 : decode c_Aliases_init 30 = .ok (.putfield 22, 3) := by decide +kernel
theorem d_Aliases_init_33 : decode c_Aliases_init 33 = .ok (.return_, 1) := by decide +kernel
def sh_Aliases_init (F : Nat) (x0 : Nat) (w : im_W) : Option im_W :=
  im_b2 (im_al w (.inl (1, (8, .inr (.inl (fun _ => 0)))))) fun n1 w2 => (im_pV w2 0 x0 0 (.ref n1)).bind fun w4 => im_b2 (im_al w4 (.inl (1, (8, .inr (.inl (fun _ => 0)))))) fun n6 w7 => (im_pV w7 0 x0 1 (.ref n6)).bind fun w9 => im_b2 (im_al w9 (.inl (3, (8, .inl (fun _ => 0))))) fun n11 w12 => (im_pV w12 0 x0 2 (.ref n11)).bind fun w14 => (im_pV w14 0 x0 3 (.int (0 : Int32))).bind fun w16 => some w16
set_option maxHeartbeats 4000000 in
set_option maxRecDepth 100000 in
theorem metc_Aliases_init {F : Nat} {x0 : Nat} {w : im_W} {r : im_W} (hsh : sh_Aliases_init F x0 w = some r) : Met l y_Aliases_init (Cond.code y_Aliases_init c_Aliases_init 1 none :: im_T) (im_rmc 1 12 3 24) (im_PreC D vwCl tA lo im_NW [.ref (lo + x0)] w) (im_Post D vwCl tA lo none r) 3 24 (fun q => lo ≤ q) := by
  refine im_ofWC (cc := c_Aliases_init) (nL := 1) (by decide) rfl (Nat.le_of_ble_eq_true rfl) ?_
  intro p e s m args below meth c X hin hlo hz hAO H locs ls hH hl
  obtain ⟨hx, hb, hr, hts, hown, hlk, hml, hK, hN⟩ := id X
  have hl : lv_has ls 1 [(0, .ref (lo + x0))] := hl
  unfold sh_Aliases_init at hsh
  refine lv_aload_n hx hb d_Aliases_init_0 rfl (lv_at hl 0 rfl) ?_
  refine W.objInit hx hb hown (hts _ wd_57) (hts _ wd_18) (hts _ wd_objcode) rfl (by rw [hml]; exact hl.1) rfl d_Aliases_init_1 (Nat.le_of_ble_eq_true rfl) (Nat.le_of_ble_eq_true rfl) ?_
  refine W.eq (g2 := F0 m 4 ls []) rfl ?_
  refine lv_aload_n hx hb d_Aliases_init_4 rfl (lv_at hl 0 rfl) ?_
  refine lv_bipush (v := 8) hx hb d_Aliases_init_5 (by decide) ?_
  obtain ⟨n1, w2, h3, hsh_1⟩ := im_bd2 hsh
  clear hsh
  refine im_newa' (atype := .long) (t := 1) (a0 := (8, .inr (.inl (fun _ => 0)))) hx hb (hts _ wd_50) (by decide) rfl hK hH hlo hz (fun _ => rfl) (by decide) (N' := 8) (by decide) (by decide) (Nat.le_of_ble_eq_true rfl) (Nat.le_of_ble_eq_true rfl) h3 d_Aliases_init_7 (fun H hH => ?_)
  have hz := im_z_al h3 hz
  obtain ⟨w4, h5, hsh_2⟩ := im_bd hsh_1
  clear hsh_1
  refine im_putF (v := .ref n1) hx hb hts inC_Aliases tyC_Aliases tyC_Aliases_ok nmC_Aliases hown hK hH (ci := 0) rfl 0 (by decide) (hts _ wd_58) rfl rfl hin rfl rfl rfl h5 d_Aliases_init_9 (fun H locs hH => ?_)
  have hz := im_z_p h5 hz
  refine lv_aload_n hx hb d_Aliases_init_12 rfl (lv_at hl 0 rfl) ?_
  refine lv_bipush (v := 8) hx hb d_Aliases_init_13 (by decide) ?_
  obtain ⟨n6, w7, h8, hsh_3⟩ := im_bd2 hsh_2
  clear hsh_2
  refine im_newa' (atype := .long) (t := 1) (a0 := (8, .inr (.inl (fun _ => 0)))) hx hb (hts _ wd_50) (by decide) rfl hK hH hlo hz (fun _ => rfl) (by decide) (N' := 8) (by decide) (by decide) (Nat.le_of_ble_eq_true rfl) (Nat.le_of_ble_eq_true rfl) h8 d_Aliases_init_15 (fun H hH => ?_)
  have hz := im_z_al h8 hz
  obtain ⟨w9, h10, hsh_4⟩ := im_bd hsh_3
  clear hsh_3
  refine im_putF (v := .ref n6) hx hb hts inC_Aliases tyC_Aliases tyC_Aliases_ok nmC_Aliases hown hK hH (ci := 0) rfl 1 (by decide) (hts _ wd_59) rfl rfl hin rfl rfl rfl h10 d_Aliases_init_17 (fun H locs hH => ?_)
  have hz := im_z_p h10 hz
  refine lv_aload_n hx hb d_Aliases_init_20 rfl (lv_at hl 0 rfl) ?_
  refine lv_bipush (v := 8) hx hb d_Aliases_init_21 (by decide) ?_
  obtain ⟨n11, w12, h13, hsh_5⟩ := im_bd2 hsh_4
  clear hsh_4
  refine im_newa' (atype := .boolean) (t := 3) (a0 := (8, .inl (fun _ => 0))) hx hb (hts _ wd_71) (by decide) rfl hK hH hlo hz (fun _ => rfl) (by decide) (N' := 8) (by decide) (by decide) (Nat.le_of_ble_eq_true rfl) (Nat.le_of_ble_eq_true rfl) h13 d_Aliases_init_23 (fun H hH => ?_)
  have hz := im_z_al h13 hz
  obtain ⟨w14, h15, hsh_6⟩ := im_bd hsh_5
  clear hsh_5
  refine im_putF (v := .ref n11) hx hb hts inC_Aliases tyC_Aliases tyC_Aliases_ok nmC_Aliases hown hK hH (ci := 0) rfl 2 (by decide) (hts _ wd_60) rfl rfl hin rfl rfl rfl h15 d_Aliases_init_25 (fun H locs hH => ?_)
  have hz := im_z_p h15 hz
  refine lv_aload_n hx hb d_Aliases_init_28 rfl (lv_at hl 0 rfl) ?_
  refine lv_iconst (v := 0) hx hb d_Aliases_init_29 (by decide) ?_
  obtain ⟨w16, h17, hsh_7⟩ := im_bd hsh_6
  clear hsh_6
  refine im_put (v := .int (0 : Int32)) hx hb hts inC_Aliases tyC_Aliases tyC_Aliases_ok nmC_Aliases hown hK hH (ci := 0) rfl 3 (by decide) (hts _ wd_61) rfl rfl rfl rfl h17 d_Aliases_init_30 (fun H locs hH => ?_)
  have hz := im_z_p h17 hz
  obtain rfl := Option.some.inj hsh_7
  refine W.widen (k := 3) (n := 24) (Nat.le_of_ble_eq_true rfl) (Nat.le_of_ble_eq_true rfl) ?_
  exact im_vret hx hb hr hlk hH d_Aliases_init_33
theorem wd_90 : (Jvm.Cond.methodLink "LanguageTags$Core" (1 : Nat) ({ cls := "java/lang/Object", name := "<init>", desc := "()V" } : Jvm.MethodName)) ∈ im_T := im_memT (i := 90) (by decide +kernel) (by decide +kernel)
theorem d_Core_init_0 : decode c_Core_init 0 = .ok (.aload_n 0, 1) := by decide +kernel
theorem d_Core_init_1 : decode c_Core_init 1 = .ok (.invokespecial 1, 3) := by decide +kernel
theorem d_Core_init_4 : decode c_Core_init 4 = .ok (.aload_n 0, 1) := by decide +kernel
theorem d_Core_init_5 : decode c_Core_init 5 = .ok (.lconst 0, 1) := by decide +kernel
theorem d_Core_init_6 : decode c_Core_init 6 = .ok (.putfield 9, 3) := by decide +kernel
theorem d_Core_init_9 : decode c_Core_init 9 = .ok (.aload_n 0, 1) := by decide +kernel
theorem d_Core_init_10 : decode c_Core_init 10 = .ok (.lconst 0, 1) := by decide +kernel
theorem d_Core_init_11 : decode c_Core_init 11 = .ok (.putfield 15, 3) := by decide +kernel
theorem d_Core_init_14 : decode c_Core_init 14 = .ok (.aload_n 0, 1) := by decide +kernel
theorem d_Core_init_15 : decode c_Core_init 15 = .ok (.lconst 0, 1) := by decide +kernel
theorem d_Core_init_16 : decode c_Core_init 16 = .ok (.putfield 18, 3) := by decide +kernel
theorem d_Core_init_19 : decode c_Core_init 19 = .ok (.return_, 1) := by decide +kernel
def sh_Core_init (F : Nat) (x0 : Nat) (w : im_W) : Option im_W :=
  (im_pV w 1 x0 0 (.long (0 : Int64))).bind fun w1 => (im_pV w1 1 x0 1 (.long (0 : Int64))).bind fun w3 => (im_pV w3 1 x0 2 (.long (0 : Int64))).bind fun w5 => some w5
set_option maxHeartbeats 4000000 in
set_option maxRecDepth 100000 in
theorem metc_Core_init {F : Nat} {x0 : Nat} {w : im_W} {r : im_W} (hsh : sh_Core_init F x0 w = some r) : Met l y_Core_init (Cond.code y_Core_init c_Core_init 1 none :: im_T) (im_rmc 1 12 0 0) (im_PreC D vwCl tA lo im_NW [.ref (lo + x0)] w) (im_Post D vwCl tA lo none r) 0 0 (fun q => lo ≤ q) := by
  refine im_ofWC (cc := c_Core_init) (nL := 1) (by decide) rfl (Nat.le_of_ble_eq_true rfl) ?_
  intro p e s m args below meth c X hin hlo hz hAO H locs ls hH hl
  obtain ⟨hx, hb, hr, hts, hown, hlk, hml, hK, hN⟩ := id X
  have hl : lv_has ls 1 [(0, .ref (lo + x0))] := hl
  unfold sh_Core_init at hsh
  refine lv_aload_n hx hb d_Core_init_0 rfl (lv_at hl 0 rfl) ?_
  refine W.objInit hx hb hown (hts _ wd_90) (hts _ wd_18) (hts _ wd_objcode) rfl (by rw [hml]; exact hl.1) rfl d_Core_init_1 (Nat.le_of_ble_eq_true rfl) (Nat.le_of_ble_eq_true rfl) ?_
  refine W.eq (g2 := F0 m 4 ls []) rfl ?_
  refine lv_aload_n hx hb d_Core_init_4 rfl (lv_at hl 0 rfl) ?_
  refine lv_lconst (v := 0) hx hb d_Core_init_5 (by decide) ?_
  obtain ⟨w1, h2, hsh_1⟩ := im_bd hsh
  clear hsh
  refine im_put (v := .long (0 : Int64)) hx hb hts inC_Core tyC_Core tyC_Core_ok nmC_Core hown hK hH (ci := 1) rfl 0 (by decide) (hts _ wd_91) rfl rfl rfl rfl h2 d_Core_init_6 (fun H locs hH => ?_)
  have hz := im_z_p h2 hz
  refine lv_aload_n hx hb d_Core_init_9 rfl (lv_at hl 0 rfl) ?_
  refine lv_lconst (v := 0) hx hb d_Core_init_10 (by decide) ?_
  obtain ⟨w3, h4, hsh_2⟩ := im_bd hsh_1
  clear hsh_1
  refine im_put (v := .long (0 : Int64)) hx hb hts inC_Core tyC_Core tyC_Core_ok nmC_Core hown hK hH (ci := 1) rfl 1 (by decide) (hts _ wd_93) rfl rfl rfl rfl h4 d_Core_init_11 (fun H locs hH => ?_)
  have hz := im_z_p h4 hz
  refine lv_aload_n hx hb d_Core_init_14 rfl (lv_at hl 0 rfl) ?_
  refine lv_lconst (v := 0) hx hb d_Core_init_15 (by decide) ?_
  obtain ⟨w5, h6, hsh_3⟩ := im_bd hsh_2
  clear hsh_2
  refine im_put (v := .long (0 : Int64)) hx hb hts inC_Core tyC_Core tyC_Core_ok nmC_Core hown hK hH (ci := 1) rfl 2 (by decide) (hts _ wd_95) rfl rfl rfl rfl h6 d_Core_init_16 (fun H locs hH => ?_)
  have hz := im_z_p h6 hz
  obtain rfl := Option.some.inj hsh_3
  refine W.widen (k := 0) (n := 0) (Nat.le_of_ble_eq_true rfl) (Nat.le_of_ble_eq_true rfl) ?_
  exact im_vret hx hb hr hlk hH d_Core_init_19
theorem wd_84 : (Jvm.Cond.methodLink "LanguageTags$Form" (1 : Nat) ({ cls := "java/lang/Object", name := "<init>", desc := "()V" } : Jvm.MethodName)) ∈ im_T := im_memT (i := 84) (by decide +kernel) (by decide +kernel)
theorem wd_85 : (Jvm.Cond.classLink "LanguageTags$Form" (7 : Nat) "LanguageTags$Core") ∈ im_T := im_memT (i := 85) (by decide +kernel) (by decide +kernel)
theorem wd_86 : (Jvm.Cond.instantiable "LanguageTags$Core" (3 : Nat)) ∈ im_T := im_memT (i := 86) (by decide +kernel) (by decide +kernel)
theorem wd_87 : (Jvm.Cond.methodLink "LanguageTags$Form" (9 : Nat) ({ cls := "LanguageTags$Core", name := "<init>", desc := "()V" } : Jvm.MethodName)) ∈ im_T := im_memT (i := 87) (by decide +kernel) (by decide +kernel)
theorem wd_88 : (Jvm.Cond.instanceMethod ({ cls := "LanguageTags$Core", name := "<init>", desc := "()V" } : Jvm.MethodName)) ∈ im_T := im_memT (i := 88) (by decide +kernel) (by decide +kernel)
theorem wd_89 : (Jvm.Cond.code ({ cls := "LanguageTags$Core", name := "<init>", desc := "()V" } : Jvm.MethodName) prog_3_method_1_code (1 : Nat) (Option.none : Option Jvm.ClassFile.FieldType)) ∈ im_T := im_memT (i := 89) (by decide +kernel) (by decide +kernel)
theorem d_Form_init_0 : decode c_Form_init 0 = .ok (.aload_n 0, 1) := by decide +kernel
theorem d_Form_init_1 : decode c_Form_init 1 = .ok (.invokespecial 1, 3) := by decide +kernel
theorem d_Form_init_4 : decode c_Form_init 4 = .ok (.aload_n 0, 1) := by decide +kernel
theorem d_Form_init_5 : decode c_Form_init 5 = .ok (.new 7, 3) := by decide +kernel
theorem d_Form_init_8 : decode c_Form_init 8 = .ok (.dup, 1) := by decide +kernel
theorem d_Form_init_9 : decode c_Form_init 9 = .ok (.invokespecial 9, 3) := by decide +kernel
theorem d_Form_init_12 : decode c_Form_init 12 = .ok (.putfield 10, 3) := by decide +kernel
theorem d_Form_init_15 : decode c_Form_init 15 = .ok (.aload_n 0, 1) := by decide +kernel
theorem d_Form_init_16 : decode c_Form_init 16 = .ok (.iload_n 1, 1) := by decide +kernel
theorem d_Form_init_17 : decode c_Form_init 17 = .ok (.newarray .long, 2) := by decide +kernel
theorem d_Form_init_19 : decode c_Form_init 19 = .ok (.putfield 16, 3) := by decide +kernel
theorem d_Form_init_22 : decode c_Form_init 22 = .ok (.aload_n 0, 1) := by decide +kernel
theorem d_Form_init_23 : decode c_Form_init 23 = .ok (.iconst 0, 1) := by decide +kernel
theorem d_Form_init_24 : decode c_Form_init 24 = .ok (.putfield 20, 3) := by decide +kernel
theorem d_Form_init_27 : decode c_Form_init 27 = .ok (.return_, 1) := by decide +kernel
def sh_Form_init_3 (F : Nat) (x0 : Nat) (w : im_W) : Option im_W :=
  im_b2 (im_al w (.inr (1, df0_Core))) fun n1 w2 => (sh_Core_init F n1 w2).bind fun w4 => (im_sz w4 (w2.1 + 0)).bind fun _ => (im_pV w4 2 x0 0 (.ref n1)).bind fun w7 => im_b2 (im_al w7 (.inl (1, (3, .inr (.inl (fun _ => 0)))))) fun n9 w10 => (im_pV w10 2 x0 1 (.ref n9)).bind fun w12 => (im_pV w12 2 x0 2 (.int (0 : Int32))).bind fun w14 => some w14
set_option maxHeartbeats 4000000 in
set_option maxRecDepth 100000 in
theorem metc_Form_init_3 {F : Nat} {x0 : Nat} {w : im_W} {r : im_W} (hsh : sh_Form_init_3 F x0 w = some r) : Met l y_Form_init (Cond.code y_Form_init c_Form_init 2 none :: im_T) (im_rmc 2 32 2 6) (im_PreC D vwCl tA lo im_NW [.ref (lo + x0), .int (3 : Int32)] w) (im_Post D vwCl tA lo none r) 2 6 (fun q => lo ≤ q) := by
  refine im_ofWC (cc := c_Form_init) (nL := 2) (by decide) rfl (Nat.le_of_ble_eq_true rfl) ?_
  intro p e s m args below meth c X hin hlo hz hAO H locs ls hH hl
  obtain ⟨hx, hb, hr, hts, hown, hlk, hml, hK, hN⟩ := id X
  have hl : lv_has ls 2 [(0, .ref (lo + x0)), (1, .int (3 : Int32))] := hl
  unfold sh_Form_init_3 at hsh
  refine lv_aload_n hx hb d_Form_init_0 rfl (lv_at hl 0 rfl) ?_
  refine W.objInit hx hb hown (hts _ wd_84) (hts _ wd_18) (hts _ wd_objcode) rfl (by rw [hml]; exact hl.1) rfl d_Form_init_1 (Nat.le_of_ble_eq_true rfl) (Nat.le_of_ble_eq_true rfl) ?_
  refine W.eq (g2 := F0 m 4 ls []) rfl ?_
  refine lv_aload_n hx hb d_Form_init_4 rfl (lv_at hl 0 rfl) ?_
  obtain ⟨n1, w2, h3, hsh_1⟩ := im_bd2 hsh
  clear hsh
  refine im_new' (ci := 1) (fs := df0_Core) hx hb hts inC_Core tyC_Core tyC_Core_ok hown (hts _ wd_85) (hts _ wd_86) (hts _ wd_7) hK hH rfl hlo hz (dfC_Core lo) (Nat.le_of_ble_eq_true rfl) (Nat.le_of_ble_eq_true rfl) h3 d_Form_init_5 (fun H hH => ?_)
  have hz := im_z_al h3 hz
  refine lv_dup hx hb d_Form_init_8 rfl ?_
  obtain ⟨w4, h5, hsh_2⟩ := im_bd hsh_1
  clear hsh_1
  obtain ⟨_, h6, hsh_3⟩ := im_bd hsh_2
  clear hsh_2
  refine im_sized (fun hsz => ?_)
  have hHz : H.size = lo + w2.1 := Nat.le_antisymm (Nat.le_trans hsz (Nat.le_of_eq hz)) (im_low hH hlo)
  refine im_afterC (va_runI (As := []) (rest := [.ref (lo + n1), .ref (lo + x0)]) ⟨hx, hb, hml, hown, hts⟩ (metc_Core_init h5) ⟨(callB_of 0 hts (im_good wd_89) rfl rfl rfl (hts _ wd_7) (hts _ wd_87) (by decide +kernel) ⟨Nat.le_of_ble_eq_true rfl, Nat.le_of_ble_eq_true rfl⟩), rfl, hts _ wd_88⟩ (im_preC im_NW_ok hK hN hAO hH hHz _) rfl rfl hl.1 rfl (lv_room (Nat.le_of_ble_eq_true rfl)) d_Form_init_9 ⟨Nat.le_of_ble_eq_true rfl, Nat.le_of_ble_eq_true rfl⟩) hH (fun H locs hH => ?_)
  have hz := im_z_k h6 hz
  obtain ⟨w7, h8, hsh_4⟩ := im_bd hsh_3
  clear hsh_3
  refine im_putF (v := .ref n1) hx hb hts inC_Form tyC_Form tyC_Form_ok nmC_Form hown hK hH (ci := 2) rfl 0 (by decide) (hts _ wd_104) rfl rfl hin rfl rfl rfl h8 d_Form_init_12 (fun H locs hH => ?_)
  have hz := im_z_p h8 hz
  refine lv_aload_n hx hb d_Form_init_15 rfl (lv_at hl 0 rfl) ?_
  refine lv_iload_n hx hb d_Form_init_16 rfl (lv_at hl 1 rfl) ?_
  obtain ⟨n9, w10, h11, hsh_5⟩ := im_bd2 hsh_4
  clear hsh_4
  refine im_newa' (atype := .long) (t := 1) (a0 := (3, .inr (.inl (fun _ => 0)))) hx hb (hts _ wd_50) (by decide) rfl hK hH hlo hz (fun _ => rfl) (by decide) (N' := 3) (by decide) (by decide) (Nat.le_of_ble_eq_true rfl) (Nat.le_of_ble_eq_true rfl) h11 d_Form_init_17 (fun H hH => ?_)
  have hz := im_z_al h11 hz
  obtain ⟨w12, h13, hsh_6⟩ := im_bd hsh_5
  clear hsh_5
  refine im_putF (v := .ref n9) hx hb hts inC_Form tyC_Form tyC_Form_ok nmC_Form hown hK hH (ci := 2) rfl 1 (by decide) (hts _ wd_107) rfl rfl hin rfl rfl rfl h13 d_Form_init_19 (fun H locs hH => ?_)
  have hz := im_z_p h13 hz
  refine lv_aload_n hx hb d_Form_init_22 rfl (lv_at hl 0 rfl) ?_
  refine lv_iconst (v := 0) hx hb d_Form_init_23 (by decide) ?_
  obtain ⟨w14, h15, hsh_7⟩ := im_bd hsh_6
  clear hsh_6
  refine im_put (v := .int (0 : Int32)) hx hb hts inC_Form tyC_Form tyC_Form_ok nmC_Form hown hK hH (ci := 2) rfl 2 (by decide) (hts _ wd_108) rfl rfl rfl rfl h15 d_Form_init_24 (fun H locs hH => ?_)
  have hz := im_z_p h15 hz
  obtain rfl := Option.some.inj hsh_7
  refine W.widen (k := 2) (n := 6) (Nat.le_of_ble_eq_true rfl) (Nat.le_of_ble_eq_true rfl) ?_
  exact im_vret hx hb hr hlk hH d_Form_init_27
def sh_Form_init_30 (F : Nat) (x0 : Nat) (w : im_W) : Option im_W :=
  im_b2 (im_al w (.inr (1, df0_Core))) fun n1 w2 => (sh_Core_init F n1 w2).bind fun w4 => (im_sz w4 (w2.1 + 0)).bind fun _ => (im_pV w4 2 x0 0 (.ref n1)).bind fun w7 => im_b2 (im_al w7 (.inl (1, (30, .inr (.inl (fun _ => 0)))))) fun n9 w10 => (im_pV w10 2 x0 1 (.ref n9)).bind fun w12 => (im_pV w12 2 x0 2 (.int (0 : Int32))).bind fun w14 => some w14
set_option maxHeartbeats 4000000 in
set_option maxRecDepth 100000 in
theorem metc_Form_init_30 {F : Nat} {x0 : Nat} {w : im_W} {r : im_W} (hsh : sh_Form_init_30 F x0 w = some r) : Met l y_Form_init (Cond.code y_Form_init c_Form_init 2 none :: im_T) (im_rmc 2 32 2 33) (im_PreC D vwCl tA lo im_NW [.ref (lo + x0), .int (30 : Int32)] w) (im_Post D vwCl tA lo none r) 2 33 (fun q => lo ≤ q) := by
  refine im_ofWC (cc := c_Form_init) (nL := 2) (by decide) rfl (Nat.le_of_ble_eq_true rfl) ?_
  intro p e s m args below meth c X hin hlo hz hAO H locs ls hH hl
  obtain ⟨hx, hb, hr, hts, hown, hlk, hml, hK, hN⟩ := id X
  have hl : lv_has ls 2 [(0, .ref (lo + x0)), (1, .int (30 : Int32))] := hl
  unfold sh_Form_init_30 at hsh
  refine lv_aload_n hx hb d_Form_init_0 rfl (lv_at hl 0 rfl) ?_
  refine W.objInit hx hb hown (hts _ wd_84) (hts _ wd_18) (hts _ wd_objcode) rfl (by rw [hml]; exact hl.1) rfl d_Form_init_1 (Nat.le_of_ble_eq_true rfl) (Nat.le_of_ble_eq_true rfl) ?_
  refine W.eq (g2 := F0 m 4 ls []) rfl ?_
  refine lv_aload_n hx hb d_Form_init_4 rfl (lv_at hl 0 rfl) ?_
  obtain ⟨n1, w2, h3, hsh_1⟩ := im_bd2 hsh
  clear hsh
  refine im_new' (ci := 1) (fs := df0_Core) hx hb hts inC_Core tyC_Core tyC_Core_ok hown (hts _ wd_85) (hts _ wd_86) (hts _ wd_7) hK hH rfl hlo hz (dfC_Core lo) (Nat.le_of_ble_eq_true rfl) (Nat.le_of_ble_eq_true rfl) h3 d_Form_init_5 (fun H hH => ?_)
  have hz := im_z_al h3 hz
  refine lv_dup hx hb d_Form_init_8 rfl ?_
  obtain ⟨w4, h5, hsh_2⟩ := im_bd hsh_1
  clear hsh_1
  obtain ⟨_, h6, hsh_3⟩ := im_bd hsh_2
  clear hsh_2
  refine im_sized (fun hsz => ?_)
  have hHz : H.size = lo + w2.1 := Nat.le_antisymm (Nat.le_trans hsz (Nat.le_of_eq hz)) (im_low hH hlo)
  refine im_afterC (va_runI (As := []) (rest := [.ref (lo + n1), .ref (lo + x0)]) ⟨hx, hb, hml, hown, hts⟩ (metc_Core_init h5) ⟨(callB_of 0 hts (im_good wd_89) rfl rfl rfl (hts _ wd_7) (hts _ wd_87) (by decide +kernel) ⟨Nat.le_of_ble_eq_true rfl, Nat.le_of_ble_eq_true rfl⟩), rfl, hts _ wd_88⟩ (im_preC im_NW_ok hK hN hAO hH hHz _) rfl rfl hl.1 rfl (lv_room (Nat.le_of_ble_eq_true rfl)) d_Form_init_9 ⟨Nat.le_of_ble_eq_true rfl, Nat.le_of_ble_eq_true rfl⟩) hH (fun H locs hH => ?_)
  have hz := im_z_k h6 hz
  obtain ⟨w7, h8, hsh_4⟩ := im_bd hsh_3
  clear hsh_3
  refine im_putF (v := .ref n1) hx hb hts inC_Form tyC_Form tyC_Form_ok nmC_Form hown hK hH (ci := 2) rfl 0 (by decide) (hts _ wd_104) rfl rfl hin rfl rfl rfl h8 d_Form_init_12 (fun H locs hH => ?_)
  have hz := im_z_p h8 hz
  refine lv_aload_n hx hb d_Form_init_15 rfl (lv_at hl 0 rfl) ?_
  refine lv_iload_n hx hb d_Form_init_16 rfl (lv_at hl 1 rfl) ?_
  obtain ⟨n9, w10, h11, hsh_5⟩ := im_bd2 hsh_4
  clear hsh_4
  refine im_newa' (atype := .long) (t := 1) (a0 := (30, .inr (.inl (fun _ => 0)))) hx hb (hts _ wd_50) (by decide) rfl hK hH hlo hz (fun _ => rfl) (by decide) (N' := 30) (by decide) (by decide) (Nat.le_of_ble_eq_true rfl) (Nat.le_of_ble_eq_true rfl) h11 d_Form_init_17 (fun H hH => ?_)
  have hz := im_z_al h11 hz
  obtain ⟨w12, h13, hsh_6⟩ := im_bd hsh_5
  clear hsh_5
  refine im_putF (v := .ref n9) hx hb hts inC_Form tyC_Form tyC_Form_ok nmC_Form hown hK hH (ci := 2) rfl 1 (by decide) (hts _ wd_107) rfl rfl hin rfl rfl rfl h13 d_Form_init_19 (fun H locs hH => ?_)
  have hz := im_z_p h13 hz
  refine lv_aload_n hx hb d_Form_init_22 rfl (lv_at hl 0 rfl) ?_
  refine lv_iconst (v := 0) hx hb d_Form_init_23 (by decide) ?_
  obtain ⟨w14, h15, hsh_7⟩ := im_bd hsh_6
  clear hsh_6
  refine im_put (v := .int (0 : Int32)) hx hb hts inC_Form tyC_Form tyC_Form_ok nmC_Form hown hK hH (ci := 2) rfl 2 (by decide) (hts _ wd_108) rfl rfl rfl rfl h15 d_Form_init_24 (fun H locs hH => ?_)
  have hz := im_z_p h15 hz
  obtain rfl := Option.some.inj hsh_7
  refine W.widen (k := 2) (n := 33) (Nat.le_of_ble_eq_true rfl) (Nat.le_of_ble_eq_true rfl) ?_
  exact im_vret hx hb hr hlk hH d_Form_init_27
end GEN
