section GEN
variable {l : Launch} {D : va_G} {tA : Nat → ClassId} {lo : Nat} {p : Program} {e : Env} {s : State} {m : MethodId} {args : Array Value} {below : List Frame} {meth : Method} {c : Code}
theorem wd_662 : (Jvm.Cond.fieldLink "LanguageTagsModel" (208 : Nat) "LanguageTagsModel" "count" "I") ∈ im_T := im_memT (i := 662) (by decide +kernel) (by decide +kernel)
theorem wd_663 : (Jvm.Cond.fieldLink "LanguageTagsModel" (63 : Nat) "LanguageTagsModel" "forms" "[C") ∈ im_T := im_memT (i := 663) (by decide +kernel) (by decide +kernel)
theorem wd_664 : (Jvm.Cond.fieldLink "LanguageTagsModel" (66 : Nat) "LanguageTagsModel" "formLengths" "[I") ∈ im_T := im_memT (i := 664) (by decide +kernel) (by decide +kernel)
theorem d_Model_find_0 : decode c_Model_find 0 = .ok (.iconst 0, 1) := by decide +kernel
theorem d_Model_find_1 : decode c_Model_find 1 = .ok (.istore_n 1, 1) := by decide +kernel
theorem d_Model_find_2 : decode c_Model_find 2 = .ok (.iload_n 1, 1) := by decide +kernel
theorem d_Model_find_3 : decode c_Model_find 3 = .ok (.aload_n 0, 1) := by decide +kernel
theorem d_Model_find_4 : decode c_Model_find 4 = .ok (.getfield 208, 3) := by decide +kernel
theorem d_Model_find_7 : decode c_Model_find 7 = .ok (.if_icmp .ge (80), 3) := by decide +kernel
theorem d_Model_find_10 : decode c_Model_find 10 = .ok (.aload_n 0, 1) := by decide +kernel
theorem d_Model_find_11 : decode c_Model_find 11 = .ok (.getfield 66, 3) := by decide +kernel
theorem d_Model_find_14 : decode c_Model_find 14 = .ok (.iload_n 1, 1) := by decide +kernel
theorem d_Model_find_15 : decode c_Model_find 15 = .ok (.iaload, 1) := by decide +kernel
theorem d_Model_find_16 : decode c_Model_find 16 = .ok (.aload_n 0, 1) := by decide +kernel
theorem d_Model_find_17 : decode c_Model_find 17 = .ok (.getfield 177, 3) := by decide +kernel
theorem d_Model_find_20 : decode c_Model_find 20 = .ok (.if_icmp .ne (7), 3) := by decide +kernel
theorem d_Model_find_23 : decode c_Model_find 23 = .ok (.iconst 1, 1) := by decide +kernel
theorem d_Model_find_24 : decode c_Model_find 24 = .ok (.goto (4), 3) := by decide +kernel
theorem d_Model_find_27 : decode c_Model_find 27 = .ok (.iconst 0, 1) := by decide +kernel
theorem d_Model_find_28 : decode c_Model_find 28 = .ok (.istore_n 2, 1) := by decide +kernel
theorem d_Model_find_29 : decode c_Model_find 29 = .ok (.iconst 0, 1) := by decide +kernel
theorem d_Model_find_30 : decode c_Model_find 30 = .ok (.istore_n 3, 1) := by decide +kernel
theorem d_Model_find_31 : decode c_Model_find 31 = .ok (.iload_n 3, 1) := by decide +kernel
theorem d_Model_find_32 : decode c_Model_find 32 = .ok (.aload_n 0, 1) := by decide +kernel
theorem d_Model_find_33 : decode c_Model_find 33 = .ok (.getfield 177, 3) := by decide +kernel
theorem d_Model_find_36 : decode c_Model_find 36 = .ok (.if_icmp .ge (39), 3) := by decide +kernel
theorem d_Model_find_39 : decode c_Model_find 39 = .ok (.iload_n 2, 1) := by decide +kernel
theorem d_Model_find_40 : decode c_Model_find 40 = .ok (.ifCond .eq (35), 3) := by decide +kernel
theorem d_Model_find_43 : decode c_Model_find 43 = .ok (.aload_n 0, 1) := by decide +kernel
theorem d_Model_find_44 : decode c_Model_find 44 = .ok (.getfield 63, 3) := by decide +kernel
theorem d_Model_find_47 : decode c_Model_find 47 = .ok (.bipush (80), 2) := by decide +kernel
theorem d_Model_find_49 : decode c_Model_find 49 = .ok (.iload_n 1, 1) := by decide +kernel
theorem d_Model_find_50 : decode c_Model_find 50 = .ok (.imul, 1) := by decide +kernel
theorem d_Model_find_51 : decode c_Model_find 51 = .ok (.iload_n 3, 1) := by decide +kernel
theorem d_Model_find_52 : decode c_Model_find 52 = .ok (.iadd, 1) := by decide +kernel
theorem d_Model_find_53 : decode c_Model_find 53 = .ok (.caload, 1) := by decide +kernel
theorem d_Model_find_54 : decode c_Model_find 54 = .ok (.aload_n 0, 1) := by decide +kernel
theorem d_Model_find_55 : decode c_Model_find 55 = .ok (.getfield 26, 3) := by decide +kernel
theorem d_Model_find_58 : decode c_Model_find 58 = .ok (.iload_n 3, 1) := by decide +kernel
theorem d_Model_find_59 : decode c_Model_find 59 = .ok (.caload, 1) := by decide +kernel
theorem d_Model_find_60 : decode c_Model_find 60 = .ok (.if_icmp .ne (7), 3) := by decide +kernel
theorem d_Model_find_63 : decode c_Model_find 63 = .ok (.iconst 1, 1) := by decide +kernel
theorem d_Model_find_64 : decode c_Model_find 64 = .ok (.goto (4), 3) := by decide +kernel
theorem d_Model_find_67 : decode c_Model_find 67 = .ok (.iconst 0, 1) := by decide +kernel
theorem d_Model_find_68 : decode c_Model_find 68 = .ok (.istore_n 2, 1) := by decide +kernel
theorem d_Model_find_69 : decode c_Model_find 69 = .ok (.iinc 3 (1), 3) := by decide +kernel
theorem d_Model_find_72 : decode c_Model_find 72 = .ok (.goto (-41), 3) := by decide +kernel
theorem d_Model_find_75 : decode c_Model_find 75 = .ok (.iload_n 2, 1) := by decide +kernel
theorem d_Model_find_76 : decode c_Model_find 76 = .ok (.ifCond .eq (5), 3) := by decide +kernel
theorem d_Model_find_79 : decode c_Model_find 79 = .ok (.iload_n 1, 1) := by decide +kernel
theorem d_Model_find_80 : decode c_Model_find 80 = .ok (.ireturn, 1) := by decide +kernel
theorem d_Model_find_81 : decode c_Model_find 81 = .ok (.iinc 1 (1), 3) := by decide +kernel
theorem d_Model_find_84 : decode c_Model_find 84 = .ok (.goto (-82), 3) := by decide +kernel
theorem d_Model_find_87 : decode c_Model_find 87 = .ok (.iconst (-1), 1) := by decide +kernel
theorem d_Model_find_88 : decode c_Model_find 88 = .ok (.ireturn, 1) := by decide +kernel
def sh_Model_find_68 (F : Nat) (k2 : Nat → Int32 → im_W → Option (Int32 × im_W)) (k31 : Nat → Int32 → Int32 → Int32 → im_W → Option (Int32 × im_W)) (x0 : Nat) (x1 : Int32) (x3 : Int32) (y0 : Int32) (w : im_W) : Option (Int32 × im_W) :=
  k31 x0 x1 y0 (x3 + (1 : Int32)) w
set_option maxHeartbeats 4000000 in
set_option maxRecDepth 100000 in
theorem bk_Model_find_68 {F : Nat} {r : Int32 × im_W} (X : im_X D vwCl tA lo im_NW c_Model_find 4 (some .int) RC_Model im_T p s m args meth c) {k2 : Nat → Int32 → im_W → Option (Int32 × im_W)} (hk2 : ∀ (x0 : Nat) (x1 : Int32) (w : im_W), k2 x0 x1 w = some r → im_WW D vwCl tA lo 4 p l e (im_rm 0 0) s m args below meth c 0 0 (MQ below (im_Post D vwCl tA lo (some (.int r.1)) r.2) args s 0 0 (fun q => lo ≤ q)) 2 [(0, .ref (lo + x0)), (1, .int x1)] [] w) {k31 : Nat → Int32 → Int32 → Int32 → im_W → Option (Int32 × im_W)} (hk31 : ∀ (x0 : Nat) (x1 : Int32) (x2 : Int32) (x3 : Int32) (w : im_W), k31 x0 x1 x2 x3 w = some r → im_WW D vwCl tA lo 4 p l e (im_rm 0 0) s m args below meth c 0 0 (MQ below (im_Post D vwCl tA lo (some (.int r.1)) r.2) args s 0 0 (fun q => lo ≤ q)) 31 [(0, .ref (lo + x0)), (1, .int x1), (2, .int x2), (3, .int x3)] [] w) (x0 : Nat) (x1 : Int32) (x3 : Int32) (y0 : Int32) (w : im_W) (hsh : sh_Model_find_68 F k2 k31 x0 x1 x3 y0 w = some r) : im_WW D vwCl tA lo 4 p l e (im_rm 0 0) s m args below meth c 0 0 (MQ below (im_Post D vwCl tA lo (some (.int r.1)) r.2) args s 0 0 (fun q => lo ≤ q)) 68 [(0, .ref (lo + x0)), (1, .int x1), (3, .int x3)] [.int y0] w := by
  obtain ⟨hx, hb, hr, hts, hown, hlk, hml, hK, hN⟩ := id X
  intro H locs ls hH hl
  unfold sh_Model_find_68 at hsh
  refine lv_istore_n (lv' := [(2, .int y0), (0, .ref (lo + x0)), (1, .int x1), (3, .int x3)]) hx hb d_Model_find_68 rfl hl (by decide) rfl (fun ls hl => ?_)
  refine lv_iinc (v := (x3 + (1 : Int32))) (lv' := [(3, .int (x3 + (1 : Int32))), (2, .int y0), (0, .ref (lo + x0)), (1, .int x1)]) hx hb d_Model_find_69 hl (k := 3) rfl rfl (by decide) rfl (fun ls hl => ?_)
  refine lv_goto (tgt := 31) hx hb d_Model_find_72 (by decide) ?_
  exact hk31 x0 x1 y0 (x3 + (1 : Int32)) w hsh H locs ls hH (lv_sub hl [2, 3, 1, 0] rfl)
def sh_Model_find_75 (F : Nat) (k2 : Nat → Int32 → im_W → Option (Int32 × im_W)) (x0 : Nat) (x1 : Int32) (x2 : Int32) (w : im_W) : Option (Int32 × im_W) :=
  (if x2 = 0 then k2 x0 (x1 + (1 : Int32)) w else some (x1, w))
set_option maxHeartbeats 4000000 in
set_option maxRecDepth 100000 in
theorem bk_Model_find_75 {F : Nat} {r : Int32 × im_W} (X : im_X D vwCl tA lo im_NW c_Model_find 4 (some .int) RC_Model im_T p s m args meth c) {k2 : Nat → Int32 → im_W → Option (Int32 × im_W)} (hk2 : ∀ (x0 : Nat) (x1 : Int32) (w : im_W), k2 x0 x1 w = some r → im_WW D vwCl tA lo 4 p l e (im_rm 0 0) s m args below meth c 0 0 (MQ below (im_Post D vwCl tA lo (some (.int r.1)) r.2) args s 0 0 (fun q => lo ≤ q)) 2 [(0, .ref (lo + x0)), (1, .int x1)] [] w) (x0 : Nat) (x1 : Int32) (x2 : Int32) (w : im_W) (hsh : sh_Model_find_75 F k2 x0 x1 x2 w = some r) : im_WW D vwCl tA lo 4 p l e (im_rm 0 0) s m args below meth c 0 0 (MQ below (im_Post D vwCl tA lo (some (.int r.1)) r.2) args s 0 0 (fun q => lo ≤ q)) 75 [(0, .ref (lo + x0)), (1, .int x1), (2, .int x2)] [] w := by
  obtain ⟨hx, hb, hr, hts, hown, hlk, hml, hK, hN⟩ := id X
  intro H locs ls hH hl
  unfold sh_Model_find_75 at hsh
  refine lv_iload_n hx hb d_Model_find_75 rfl (lv_at hl 2 rfl) ?_
  refine lv_if_eq (tgt := 81) hx hb d_Model_find_76 (by decide) (fun cc => ?_) (fun cc => ?_)
  · have hsh := im_it hsh cc
    refine lv_iinc (v := (x1 + (1 : Int32))) (lv' := [(1, .int (x1 + (1 : Int32))), (0, .ref (lo + x0)), (2, .int x2)]) hx hb d_Model_find_81 hl (k := 1) rfl rfl (by decide) rfl (fun ls hl => ?_)
    refine lv_goto (tgt := 2) hx hb d_Model_find_84 (by decide) ?_
    exact hk2 x0 (x1 + (1 : Int32)) w hsh H locs ls hH (lv_sub hl [1, 0] rfl)
  · have hsh := im_if hsh cc
    refine lv_iload_n hx hb d_Model_find_79 rfl (lv_at hl 1 rfl) ?_
    obtain rfl := Option.some.inj hsh
    exact im_iret hx hb hr hlk hH d_Model_find_80
def sh_Model_find_31 (F : Nat) (k2 : Nat → Int32 → im_W → Option (Int32 × im_W)) : Nat → Nat → Int32 → Int32 → Int32 → im_W → Option (Int32 × im_W)
  | 0, _, _, _, _, _ => none
  | f + 1, x0, x1, x2, x3, w => (im_gI w 9 x0 13).bind fun f1 => (if f1 ≤ x3 then sh_Model_find_75 F k2 x0 x1 x2 w else (if x2 = 0 then sh_Model_find_75 F k2 x0 x1 x2 w else (im_gR w 9 x0 32).bind fun f3 => (im_lI w 2 f3 (((80 : Int32) * x1) + x3)).bind fun e5 => (im_gR w 9 x0 14).bind fun f7 => (im_lI w 2 f7 x3).bind fun e9 => (if e5 = e9 then sh_Model_find_68 F k2 (sh_Model_find_31 F k2 f) x0 x1 x3 (1 : Int32) w else sh_Model_find_68 F k2 (sh_Model_find_31 F k2 f) x0 x1 x3 (0 : Int32) w)))
set_option maxHeartbeats 4000000 in
set_option maxRecDepth 100000 in
theorem bk_Model_find_31 {F : Nat} {r : Int32 × im_W} (X : im_X D vwCl tA lo im_NW c_Model_find 4 (some .int) RC_Model im_T p s m args meth c) {k2 : Nat → Int32 → im_W → Option (Int32 × im_W)} (hk2 : ∀ (x0 : Nat) (x1 : Int32) (w : im_W), k2 x0 x1 w = some r → im_WW D vwCl tA lo 4 p l e (im_rm 0 0) s m args below meth c 0 0 (MQ below (im_Post D vwCl tA lo (some (.int r.1)) r.2) args s 0 0 (fun q => lo ≤ q)) 2 [(0, .ref (lo + x0)), (1, .int x1)] [] w) : ∀ (f : Nat) (x0 : Nat) (x1 : Int32) (x2 : Int32) (x3 : Int32) (w : im_W), sh_Model_find_31 F k2 f x0 x1 x2 x3 w = some r → im_WW D vwCl tA lo 4 p l e (im_rm 0 0) s m args below meth c 0 0 (MQ below (im_Post D vwCl tA lo (some (.int r.1)) r.2) args s 0 0 (fun q => lo ≤ q)) 31 [(0, .ref (lo + x0)), (1, .int x1), (2, .int x2), (3, .int x3)] [] w := by
  obtain ⟨hx, hb, hr, hts, hown, hlk, hml, hK, hN⟩ := id X
  intro f
  induction f with
  | zero =>
    intro x0 x1 x2 x3 w hsh
    cases hsh
  | succ f ih =>
    intro x0 x1 x2 x3 w hsh H locs ls hH hl
    unfold sh_Model_find_31 at hsh
    refine lv_iload_n hx hb d_Model_find_31 rfl (lv_at hl 3 rfl) ?_
    refine lv_aload_n hx hb d_Model_find_32 rfl (lv_at hl 0 rfl) ?_
    obtain ⟨f1, h2, hsh⟩ := im_bd hsh
    refine im_getI hx hb hts inC_Model hown hK hH (ci := 9) rfl 13 (by decide) (hts _ wd_644) rfl h2 d_Model_find_33 ?_
    refine lv_icmp_ge (tgt := 75) hx hb d_Model_find_36 (by decide) (fun cc => ?_) (fun cc => ?_)
    · have hsh := im_it hsh cc
      exact bk_Model_find_75 X hk2 x0 x1 x2 w hsh H locs ls hH (lv_sub hl [0, 1, 2] rfl)
    · have hsh := im_if hsh cc
      refine lv_iload_n hx hb d_Model_find_39 rfl (lv_at hl 2 rfl) ?_
      refine lv_if_eq (tgt := 75) hx hb d_Model_find_40 (by decide) (fun cc => ?_) (fun cc => ?_)
      · have hsh := im_it hsh cc
        exact bk_Model_find_75 X hk2 x0 x1 x2 w hsh H locs ls hH (lv_sub hl [0, 1, 2] rfl)
      · have hsh := im_if hsh cc
        refine lv_aload_n hx hb d_Model_find_43 rfl (lv_at hl 0 rfl) ?_
        obtain ⟨f3, h4, hsh⟩ := im_bd hsh
        refine im_getR hx hb hts inC_Model hown hK hH (ci := 9) rfl 32 (by decide) (hts _ wd_663) rfl h4 d_Model_find_44 ?_
        refine lv_bipush (v := 80) hx hb d_Model_find_47 (by decide) ?_
        refine lv_iload_n hx hb d_Model_find_49 rfl (lv_at hl 1 rfl) ?_
        refine lv_imul hx hb d_Model_find_50 ?_
        refine lv_iload_n hx hb d_Model_find_51 rfl (lv_at hl 3 rfl) ?_
        refine lv_iadd hx hb d_Model_find_52 ?_
        obtain ⟨e5, h6, hsh⟩ := im_bd hsh
        refine im_cald hx hb hK hH h6 d_Model_find_53 ?_
        refine lv_aload_n hx hb d_Model_find_54 rfl (lv_at hl 0 rfl) ?_
        obtain ⟨f7, h8, hsh⟩ := im_bd hsh
        refine im_getR hx hb hts inC_Model hown hK hH (ci := 9) rfl 14 (by decide) (hts _ wd_645) rfl h8 d_Model_find_55 ?_
        refine lv_iload_n hx hb d_Model_find_58 rfl (lv_at hl 3 rfl) ?_
        obtain ⟨e9, h10, hsh⟩ := im_bd hsh
        refine im_cald hx hb hK hH h10 d_Model_find_59 ?_
        refine lv_icmp_ne (tgt := 67) hx hb d_Model_find_60 (by decide) (fun cc => ?_) (fun cc => ?_)
        · have hsh := im_if hsh cc
          refine lv_iconst (v := 0) hx hb d_Model_find_67 (by decide) ?_
          exact bk_Model_find_68 X hk2 ih x0 x1 x3 (0 : Int32) w hsh H locs ls hH (lv_sub hl [0, 1, 3] rfl)
        · have hsh := im_it hsh cc
          refine lv_iconst (v := 1) hx hb d_Model_find_63 (by decide) ?_
          refine lv_goto (tgt := 68) hx hb d_Model_find_64 (by decide) ?_
          exact bk_Model_find_68 X hk2 ih x0 x1 x3 (1 : Int32) w hsh H locs ls hH (lv_sub hl [0, 1, 3] rfl)
def sh_Model_find_28 (F : Nat) (k2 : Nat → Int32 → im_W → Option (Int32 × im_W)) (x0 : Nat) (x1 : Int32) (y0 : Int32) (w : im_W) : Option (Int32 × im_W) :=
  sh_Model_find_31 F k2 F x0 x1 y0 (0 : Int32) w
set_option maxHeartbeats 4000000 in
set_option maxRecDepth 100000 in
theorem bk_Model_find_28 {F : Nat} {r : Int32 × im_W} (X : im_X D vwCl tA lo im_NW c_Model_find 4 (some .int) RC_Model im_T p s m args meth c) {k2 : Nat → Int32 → im_W → Option (Int32 × im_W)} (hk2 : ∀ (x0 : Nat) (x1 : Int32) (w : im_W), k2 x0 x1 w = some r → im_WW D vwCl tA lo 4 p l e (im_rm 0 0) s m args below meth c 0 0 (MQ below (im_Post D vwCl tA lo (some (.int r.1)) r.2) args s 0 0 (fun q => lo ≤ q)) 2 [(0, .ref (lo + x0)), (1, .int x1)] [] w) (x0 : Nat) (x1 : Int32) (y0 : Int32) (w : im_W) (hsh : sh_Model_find_28 F k2 x0 x1 y0 w = some r) : im_WW D vwCl tA lo 4 p l e (im_rm 0 0) s m args below meth c 0 0 (MQ below (im_Post D vwCl tA lo (some (.int r.1)) r.2) args s 0 0 (fun q => lo ≤ q)) 28 [(0, .ref (lo + x0)), (1, .int x1)] [.int y0] w := by
  obtain ⟨hx, hb, hr, hts, hown, hlk, hml, hK, hN⟩ := id X
  intro H locs ls hH hl
  unfold sh_Model_find_28 at hsh
  refine lv_istore_n (lv' := [(2, .int y0), (0, .ref (lo + x0)), (1, .int x1)]) hx hb d_Model_find_28 rfl hl (by decide) rfl (fun ls hl => ?_)
  refine lv_iconst (v := 0) hx hb d_Model_find_29 (by decide) ?_
  refine lv_istore_n (lv' := [(3, .int (0 : Int32)), (2, .int y0), (0, .ref (lo + x0)), (1, .int x1)]) hx hb d_Model_find_30 rfl hl (by decide) rfl (fun ls hl => ?_)
  exact bk_Model_find_31 X hk2 F x0 x1 y0 (0 : Int32) w hsh H locs ls hH (lv_sub hl [2, 3, 1, 0] rfl)
def sh_Model_find_2 (F : Nat) : Nat → Nat → Int32 → im_W → Option (Int32 × im_W)
  | 0, _, _, _ => none
  | f + 1, x0, x1, w => (im_gI w 9 x0 31).bind fun f1 => (if f1 ≤ x1 then some ((-1 : Int32), w) else (im_gR w 9 x0 33).bind fun f3 => (im_lI w 0 f3 x1).bind fun e5 => (im_gI w 9 x0 13).bind fun f7 => (if e5 = f7 then sh_Model_find_28 F (sh_Model_find_2 F f) x0 x1 (1 : Int32) w else sh_Model_find_28 F (sh_Model_find_2 F f) x0 x1 (0 : Int32) w))
set_option maxHeartbeats 4000000 in
set_option maxRecDepth 100000 in
theorem bk_Model_find_2 {F : Nat} {r : Int32 × im_W} (X : im_X D vwCl tA lo im_NW c_Model_find 4 (some .int) RC_Model im_T p s m args meth c) : ∀ (f : Nat) (x0 : Nat) (x1 : Int32) (w : im_W), sh_Model_find_2 F f x0 x1 w = some r → im_WW D vwCl tA lo 4 p l e (im_rm 0 0) s m args below meth c 0 0 (MQ below (im_Post D vwCl tA lo (some (.int r.1)) r.2) args s 0 0 (fun q => lo ≤ q)) 2 [(0, .ref (lo + x0)), (1, .int x1)] [] w := by
  obtain ⟨hx, hb, hr, hts, hown, hlk, hml, hK, hN⟩ := id X
  intro f
  induction f with
  | zero =>
    intro x0 x1 w hsh
    cases hsh
  | succ f ih =>
    intro x0 x1 w hsh H locs ls hH hl
    unfold sh_Model_find_2 at hsh
    refine lv_iload_n hx hb d_Model_find_2 rfl (lv_at hl 1 rfl) ?_
    refine lv_aload_n hx hb d_Model_find_3 rfl (lv_at hl 0 rfl) ?_
    obtain ⟨f1, h2, hsh⟩ := im_bd hsh
    refine im_getI hx hb hts inC_Model hown hK hH (ci := 9) rfl 31 (by decide) (hts _ wd_662) rfl h2 d_Model_find_4 ?_
    refine lv_icmp_ge (tgt := 87) hx hb d_Model_find_7 (by decide) (fun cc => ?_) (fun cc => ?_)
    · have hsh := im_it hsh cc
      refine lv_iconst (v := -1) hx hb d_Model_find_87 (by decide) ?_
      obtain rfl := Option.some.inj hsh
      exact im_iret hx hb hr hlk hH d_Model_find_88
    · have hsh := im_if hsh cc
      refine lv_aload_n hx hb d_Model_find_10 rfl (lv_at hl 0 rfl) ?_
      obtain ⟨f3, h4, hsh⟩ := im_bd hsh
      refine im_getR hx hb hts inC_Model hown hK hH (ci := 9) rfl 33 (by decide) (hts _ wd_664) rfl h4 d_Model_find_11 ?_
      refine lv_iload_n hx hb d_Model_find_14 rfl (lv_at hl 1 rfl) ?_
      obtain ⟨e5, h6, hsh⟩ := im_bd hsh
      refine im_iald hx hb hK hH h6 d_Model_find_15 ?_
      refine lv_aload_n hx hb d_Model_find_16 rfl (lv_at hl 0 rfl) ?_
      obtain ⟨f7, h8, hsh⟩ := im_bd hsh
      refine im_getI hx hb hts inC_Model hown hK hH (ci := 9) rfl 13 (by decide) (hts _ wd_644) rfl h8 d_Model_find_17 ?_
      refine lv_icmp_ne (tgt := 27) hx hb d_Model_find_20 (by decide) (fun cc => ?_) (fun cc => ?_)
      · have hsh := im_if hsh cc
        refine lv_iconst (v := 0) hx hb d_Model_find_27 (by decide) ?_
        exact bk_Model_find_28 X ih x0 x1 (0 : Int32) w hsh H locs ls hH (lv_sub hl [0, 1] rfl)
      · have hsh := im_it hsh cc
        refine lv_iconst (v := 1) hx hb d_Model_find_23 (by decide) ?_
        refine lv_goto (tgt := 28) hx hb d_Model_find_24 (by decide) ?_
        exact bk_Model_find_28 X ih x0 x1 (1 : Int32) w hsh H locs ls hH (lv_sub hl [0, 1] rfl)
def sh_Model_find (F : Nat) (x0 : Nat) (w : im_W) : Option (Int32 × im_W) :=
  sh_Model_find_2 F F x0 (0 : Int32) w
set_option maxHeartbeats 4000000 in
set_option maxRecDepth 100000 in
theorem met_Model_find {F : Nat} {x0 : Nat} {w : im_W} {r : Int32 × im_W} (hsh : sh_Model_find F x0 w = some r) : Met l y_Model_find (Cond.code y_Model_find c_Model_find 4 (some .int) :: im_T) (im_rm 0 0) (im_Pre D vwCl tA lo im_NW [.ref (lo + x0)] w) (im_Post D vwCl tA lo (some (.int r.1)) r.2) 0 0 (fun q => lo ≤ q) := by
  refine im_ofW (cc := c_Model_find) (nL := 4) (ret := (some .int)) (by decide) (Nat.le_of_ble_eq_true rfl) ?_
  intro p e s m args below meth c X H locs ls hH hl
  obtain ⟨hx, hb, hr, hts, hown, hlk, hml, hK, hN⟩ := id X
  have hl : lv_has ls 4 [(0, .ref (lo + x0))] := hl
  unfold sh_Model_find at hsh
  refine lv_iconst (v := 0) hx hb d_Model_find_0 (by decide) ?_
  refine lv_istore_n (lv' := [(1, .int (0 : Int32)), (0, .ref (lo + x0))]) hx hb d_Model_find_1 rfl hl (by decide) rfl (fun ls hl => ?_)
  exact bk_Model_find_2 X F x0 (0 : Int32) w hsh H locs ls hH (lv_sub hl [1, 0] rfl)
theorem d_Model_equalSign_0 : decode c_Model_equalSign 0 = .ok (.iconst (-1), 1) := by decide +kernel
theorem d_Model_equalSign_1 : decode c_Model_equalSign 1 = .ok (.istore_n 1, 1) := by decide +kernel
theorem d_Model_equalSign_2 : decode c_Model_equalSign 2 = .ok (.iconst 0, 1) := by decide +kernel
theorem d_Model_equalSign_3 : decode c_Model_equalSign 3 = .ok (.istore_n 2, 1) := by decide +kernel
theorem d_Model_equalSign_4 : decode c_Model_equalSign 4 = .ok (.iconst 0, 1) := by decide +kernel
theorem d_Model_equalSign_5 : decode c_Model_equalSign 5 = .ok (.istore_n 3, 1) := by decide +kernel
theorem d_Model_equalSign_6 : decode c_Model_equalSign 6 = .ok (.iload_n 3, 1) := by decide +kernel
theorem d_Model_equalSign_7 : decode c_Model_equalSign 7 = .ok (.aload_n 0, 1) := by decide +kernel
theorem d_Model_equalSign_8 : decode c_Model_equalSign 8 = .ok (.getfield 101, 3) := by decide +kernel
theorem d_Model_equalSign_11 : decode c_Model_equalSign 11 = .ok (.if_icmp .ge (25), 3) := by decide +kernel
theorem d_Model_equalSign_14 : decode c_Model_equalSign 14 = .ok (.aload_n 0, 1) := by decide +kernel
theorem d_Model_equalSign_15 : decode c_Model_equalSign 15 = .ok (.getfield 7, 3) := by decide +kernel
theorem d_Model_equalSign_18 : decode c_Model_equalSign 18 = .ok (.iload_n 3, 1) := by decide +kernel
theorem d_Model_equalSign_19 : decode c_Model_equalSign 19 = .ok (.caload, 1) := by decide +kernel
theorem d_Model_equalSign_20 : decode c_Model_equalSign 20 = .ok (.bipush (61), 2) := by decide +kernel
theorem d_Model_equalSign_22 : decode c_Model_equalSign 22 = .ok (.if_icmp .ne (8), 3) := by decide +kernel
theorem d_Model_equalSign_25 : decode c_Model_equalSign 25 = .ok (.iload_n 3, 1) := by decide +kernel
theorem d_Model_equalSign_26 : decode c_Model_equalSign 26 = .ok (.istore_n 1, 1) := by decide +kernel
theorem d_Model_equalSign_27 : decode c_Model_equalSign 27 = .ok (.iinc 2 (1), 3) := by decide +kernel
theorem d_Model_equalSign_30 : decode c_Model_equalSign 30 = .ok (.iinc 3 (1), 3) := by decide +kernel
theorem d_Model_equalSign_33 : decode c_Model_equalSign 33 = .ok (.goto (-27), 3) := by decide +kernel
theorem d_Model_equalSign_36 : decode c_Model_equalSign 36 = .ok (.iload_n 2, 1) := by decide +kernel
theorem d_Model_equalSign_37 : decode c_Model_equalSign 37 = .ok (.iconst 1, 1) := by decide +kernel
theorem d_Model_equalSign_38 : decode c_Model_equalSign 38 = .ok (.if_icmp .ne (7), 3) := by decide +kernel
theorem d_Model_equalSign_41 : decode c_Model_equalSign 41 = .ok (.iload_n 1, 1) := by decide +kernel
theorem d_Model_equalSign_42 : decode c_Model_equalSign 42 = .ok (.goto (4), 3) := by decide +kernel
theorem d_Model_equalSign_45 : decode c_Model_equalSign 45 = .ok (.iconst (-1), 1) := by decide +kernel
theorem d_Model_equalSign_46 : decode c_Model_equalSign 46 = .ok (.ireturn, 1) := by decide +kernel
def sh_Model_equalSign_30 (F : Nat) (k6 : Nat → Int32 → Int32 → Int32 → im_W → Option (Int32 × im_W)) (x0 : Nat) (x1 : Int32) (x2 : Int32) (x3 : Int32) (w : im_W) : Option (Int32 × im_W) :=
  k6 x0 x1 x2 (x3 + (1 : Int32)) w
set_option maxHeartbeats 4000000 in
set_option maxRecDepth 100000 in
theorem bk_Model_equalSign_30 {F : Nat} {r : Int32 × im_W} (X : im_X D vwCl tA lo im_NW c_Model_equalSign 4 (some .int) RC_Model im_T p s m args meth c) {k6 : Nat → Int32 → Int32 → Int32 → im_W → Option (Int32 × im_W)} (hk6 : ∀ (x0 : Nat) (x1 : Int32) (x2 : Int32) (x3 : Int32) (w : im_W), k6 x0 x1 x2 x3 w = some r → im_WW D vwCl tA lo 4 p l e (im_rm 0 0) s m args below meth c 0 0 (MQ below (im_Post D vwCl tA lo (some (.int r.1)) r.2) args s 0 0 (fun q => lo ≤ q)) 6 [(0, .ref (lo + x0)), (1, .int x1), (2, .int x2), (3, .int x3)] [] w) (x0 : Nat) (x1 : Int32) (x2 : Int32) (x3 : Int32) (w : im_W) (hsh : sh_Model_equalSign_30 F k6 x0 x1 x2 x3 w = some r) : im_WW D vwCl tA lo 4 p l e (im_rm 0 0) s m args below meth c 0 0 (MQ below (im_Post D vwCl tA lo (some (.int r.1)) r.2) args s 0 0 (fun q => lo ≤ q)) 30 [(0, .ref (lo + x0)), (1, .int x1), (2, .int x2), (3, .int x3)] [] w := by
  obtain ⟨hx, hb, hr, hts, hown, hlk, hml, hK, hN⟩ := id X
  intro H locs ls hH hl
  unfold sh_Model_equalSign_30 at hsh
  refine lv_iinc (v := (x3 + (1 : Int32))) (lv' := [(3, .int (x3 + (1 : Int32))), (0, .ref (lo + x0)), (1, .int x1), (2, .int x2)]) hx hb d_Model_equalSign_30 hl (k := 3) rfl rfl (by decide) rfl (fun ls hl => ?_)
  refine lv_goto (tgt := 6) hx hb d_Model_equalSign_33 (by decide) ?_
  exact hk6 x0 x1 x2 (x3 + (1 : Int32)) w hsh H locs ls hH (lv_sub hl [1, 2, 3, 0] rfl)
def sh_Model_equalSign_46 (F : Nat) (y0 : Int32) (w : im_W) : Option (Int32 × im_W) :=
  some (y0, w)
set_option maxHeartbeats 4000000 in
set_option maxRecDepth 100000 in
theorem bk_Model_equalSign_46 {F : Nat} {r : Int32 × im_W} (X : im_X D vwCl tA lo im_NW c_Model_equalSign 4 (some .int) RC_Model im_T p s m args meth c) (y0 : Int32) (w : im_W) (hsh : sh_Model_equalSign_46 F y0 w = some r) : im_WW D vwCl tA lo 4 p l e (im_rm 0 0) s m args below meth c 0 0 (MQ below (im_Post D vwCl tA lo (some (.int r.1)) r.2) args s 0 0 (fun q => lo ≤ q)) 46 [] [.int y0] w := by
  obtain ⟨hx, hb, hr, hts, hown, hlk, hml, hK, hN⟩ := id X
  intro H locs ls hH hl
  unfold sh_Model_equalSign_46 at hsh
  obtain rfl := Option.some.inj hsh
  exact im_iret hx hb hr hlk hH d_Model_equalSign_46
def sh_Model_equalSign_6 (F : Nat) : Nat → Nat → Int32 → Int32 → Int32 → im_W → Option (Int32 × im_W)
  | 0, _, _, _, _, _ => none
  | f + 1, x0, x1, x2, x3, w => (im_gI w 9 x0 0).bind fun f1 => (if f1 ≤ x3 then (if x2 = (1 : Int32) then sh_Model_equalSign_46 F x1 w else sh_Model_equalSign_46 F (-1 : Int32) w) else (im_gR w 9 x0 1).bind fun f3 => (im_lI w 2 f3 x3).bind fun e5 => (if e5 = (61 : Int32) then sh_Model_equalSign_30 F (sh_Model_equalSign_6 F f) x0 x3 (x2 + (1 : Int32)) x3 w else sh_Model_equalSign_30 F (sh_Model_equalSign_6 F f) x0 x1 x2 x3 w))
set_option maxHeartbeats 4000000 in
set_option maxRecDepth 100000 in
theorem bk_Model_equalSign_6 {F : Nat} {r : Int32 × im_W} (X : im_X D vwCl tA lo im_NW c_Model_equalSign 4 (some .int) RC_Model im_T p s m args meth c) : ∀ (f : Nat) (x0 : Nat) (x1 : Int32) (x2 : Int32) (x3 : Int32) (w : im_W), sh_Model_equalSign_6 F f x0 x1 x2 x3 w = some r → im_WW D vwCl tA lo 4 p l e (im_rm 0 0) s m args below meth c 0 0 (MQ below (im_Post D vwCl tA lo (some (.int r.1)) r.2) args s 0 0 (fun q => lo ≤ q)) 6 [(0, .ref (lo + x0)), (1, .int x1), (2, .int x2), (3, .int x3)] [] w := by
  obtain ⟨hx, hb, hr, hts, hown, hlk, hml, hK, hN⟩ := id X
  intro f
  induction f with
  | zero =>
    intro x0 x1 x2 x3 w hsh
    cases hsh
  | succ f ih =>
    intro x0 x1 x2 x3 w hsh H locs ls hH hl
    unfold sh_Model_equalSign_6 at hsh
    refine lv_iload_n hx hb d_Model_equalSign_6 rfl (lv_at hl 3 rfl) ?_
    refine lv_aload_n hx hb d_Model_equalSign_7 rfl (lv_at hl 0 rfl) ?_
    obtain ⟨f1, h2, hsh⟩ := im_bd hsh
    refine im_getI hx hb hts inC_Model hown hK hH (ci := 9) rfl 0 (by decide) (hts _ wd_631) rfl h2 d_Model_equalSign_8 ?_
    refine lv_icmp_ge (tgt := 36) hx hb d_Model_equalSign_11 (by decide) (fun cc => ?_) (fun cc => ?_)
    · have hsh := im_it hsh cc
      refine lv_iload_n hx hb d_Model_equalSign_36 rfl (lv_at hl 2 rfl) ?_
      refine lv_iconst (v := 1) hx hb d_Model_equalSign_37 (by decide) ?_
      refine lv_icmp_ne (tgt := 45) hx hb d_Model_equalSign_38 (by decide) (fun cc => ?_) (fun cc => ?_)
      · have hsh := im_if hsh cc
        refine lv_iconst (v := -1) hx hb d_Model_equalSign_45 (by decide) ?_
        exact bk_Model_equalSign_46 X (-1 : Int32) w hsh H locs ls hH (lv_sub hl [] rfl)
      · have hsh := im_it hsh cc
        refine lv_iload_n hx hb d_Model_equalSign_41 rfl (lv_at hl 1 rfl) ?_
        refine lv_goto (tgt := 46) hx hb d_Model_equalSign_42 (by decide) ?_
        exact bk_Model_equalSign_46 X x1 w hsh H locs ls hH (lv_sub hl [] rfl)
    · have hsh := im_if hsh cc
      refine lv_aload_n hx hb d_Model_equalSign_14 rfl (lv_at hl 0 rfl) ?_
      obtain ⟨f3, h4, hsh⟩ := im_bd hsh
      refine im_getR hx hb hts inC_Model hown hK hH (ci := 9) rfl 1 (by decide) (hts _ wd_632) rfl h4 d_Model_equalSign_15 ?_
      refine lv_iload_n hx hb d_Model_equalSign_18 rfl (lv_at hl 3 rfl) ?_
      obtain ⟨e5, h6, hsh⟩ := im_bd hsh
      refine im_cald hx hb hK hH h6 d_Model_equalSign_19 ?_
      refine lv_bipush (v := 61) hx hb d_Model_equalSign_20 (by decide) ?_
      refine lv_icmp_ne (tgt := 30) hx hb d_Model_equalSign_22 (by decide) (fun cc => ?_) (fun cc => ?_)
      · have hsh := im_if hsh cc
        exact bk_Model_equalSign_30 X ih x0 x1 x2 x3 w hsh H locs ls hH (lv_sub hl [0, 1, 2, 3] rfl)
      · have hsh := im_it hsh cc
        refine lv_iload_n hx hb d_Model_equalSign_25 rfl (lv_at hl 3 rfl) ?_
        refine lv_istore_n (lv' := [(1, .int x3), (0, .ref (lo + x0)), (2, .int x2), (3, .int x3)]) hx hb d_Model_equalSign_26 rfl hl (by decide) rfl (fun ls hl => ?_)
        refine lv_iinc (v := (x2 + (1 : Int32))) (lv' := [(2, .int (x2 + (1 : Int32))), (1, .int x3), (0, .ref (lo + x0)), (3, .int x3)]) hx hb d_Model_equalSign_27 hl (k := 2) rfl rfl (by decide) rfl (fun ls hl => ?_)
        exact bk_Model_equalSign_30 X ih x0 x3 (x2 + (1 : Int32)) x3 w hsh H locs ls hH (lv_sub hl [2, 1, 0, 3] rfl)
def sh_Model_equalSign (F : Nat) (x0 : Nat) (w : im_W) : Option (Int32 × im_W) :=
  sh_Model_equalSign_6 F F x0 (-1 : Int32) (0 : Int32) (0 : Int32) w
set_option maxHeartbeats 4000000 in
set_option maxRecDepth 100000 in
theorem met_Model_equalSign {F : Nat} {x0 : Nat} {w : im_W} {r : Int32 × im_W} (hsh : sh_Model_equalSign F x0 w = some r) : Met l y_Model_equalSign (Cond.code y_Model_equalSign c_Model_equalSign 4 (some .int) :: im_T) (im_rm 0 0) (im_Pre D vwCl tA lo im_NW [.ref (lo + x0)] w) (im_Post D vwCl tA lo (some (.int r.1)) r.2) 0 0 (fun q => lo ≤ q) := by
  refine im_ofW (cc := c_Model_equalSign) (nL := 4) (ret := (some .int)) (by decide) (Nat.le_of_ble_eq_true rfl) ?_
  intro p e s m args below meth c X H locs ls hH hl
  obtain ⟨hx, hb, hr, hts, hown, hlk, hml, hK, hN⟩ := id X
  have hl : lv_has ls 4 [(0, .ref (lo + x0))] := hl
  unfold sh_Model_equalSign at hsh
  refine lv_iconst (v := -1) hx hb d_Model_equalSign_0 (by decide) ?_
  refine lv_istore_n (lv' := [(1, .int (-1 : Int32)), (0, .ref (lo + x0))]) hx hb d_Model_equalSign_1 rfl hl (by decide) rfl (fun ls hl => ?_)
  refine lv_iconst (v := 0) hx hb d_Model_equalSign_2 (by decide) ?_
  refine lv_istore_n (lv' := [(2, .int (0 : Int32)), (1, .int (-1 : Int32)), (0, .ref (lo + x0))]) hx hb d_Model_equalSign_3 rfl hl (by decide) rfl (fun ls hl => ?_)
  refine lv_iconst (v := 0) hx hb d_Model_equalSign_4 (by decide) ?_
  refine lv_istore_n (lv' := [(3, .int (0 : Int32)), (2, .int (0 : Int32)), (1, .int (-1 : Int32)), (0, .ref (lo + x0))]) hx hb d_Model_equalSign_5 rfl hl (by decide) rfl (fun ls hl => ?_)
  exact bk_Model_equalSign_6 X F x0 (-1 : Int32) (0 : Int32) (0 : Int32) w hsh H locs ls hH (lv_sub hl [3, 2, 1, 0] rfl)
theorem wd_652 : (Jvm.Cond.fieldLink "LanguageTagsModel" (42 : Nat) "LanguageTagsModel" "pairs" "[I") ∈ im_T := im_memT (i := 652) (by decide +kernel) (by decide +kernel)
theorem wd_788 : (Jvm.Cond.methodLink "LanguageTagsModel" (211 : Nat) ({ cls := "LanguageTagsModel", name := "equalSign", desc := "()I" } : Jvm.MethodName)) ∈ im_T := im_memT (i := 788) (by decide +kernel) (by decide +kernel)
theorem wd_790 : (Jvm.Cond.instanceMethod ({ cls := "LanguageTagsModel", name := "equalSign", desc := "()I" } : Jvm.MethodName)) ∈ im_T := im_memT (i := 790) (by decide +kernel) (by decide +kernel)
theorem wd_791 : (Jvm.Cond.code ({ cls := "LanguageTagsModel", name := "equalSign", desc := "()I" } : Jvm.MethodName) prog_12_method_32_code (4 : Nat) (Option.some Jvm.ClassFile.FieldType.int)) ∈ im_T := im_memT (i := 791) (by decide +kernel) (by decide +kernel)
theorem d_Model_alias_0 : decode c_Model_alias 0 = .ok (.aload_n 0, 1) := by decide +kernel
theorem d_Model_alias_1 : decode c_Model_alias 1 = .ok (.invokevirtual 211, 3) := by decide +kernel
theorem d_Model_alias_4 : decode c_Model_alias 4 = .ok (.istore_n 2, 1) := by decide +kernel
theorem d_Model_alias_5 : decode c_Model_alias 5 = .ok (.iload_n 2, 1) := by decide +kernel
theorem d_Model_alias_6 : decode c_Model_alias 6 = .ok (.ifCond .ge (5), 3) := by decide +kernel
theorem d_Model_alias_9 : decode c_Model_alias 9 = .ok (.iconst (-1), 1) := by decide +kernel
theorem d_Model_alias_10 : decode c_Model_alias 10 = .ok (.ireturn, 1) := by decide +kernel
theorem d_Model_alias_11 : decode c_Model_alias 11 = .ok (.iload_n 1, 1) := by decide +kernel
theorem d_Model_alias_12 : decode c_Model_alias 12 = .ok (.ifCond .eq (34), 3) := by decide +kernel
theorem d_Model_alias_15 : decode c_Model_alias 15 = .ok (.aload_n 0, 1) := by decide +kernel
theorem d_Model_alias_16 : decode c_Model_alias 16 = .ok (.iconst 0, 1) := by decide +kernel
theorem d_Model_alias_17 : decode c_Model_alias 17 = .ok (.iload_n 2, 1) := by decide +kernel
theorem d_Model_alias_18 : decode c_Model_alias 18 = .ok (.invokevirtual 131, 3) := by decide +kernel
theorem d_Model_alias_21 : decode c_Model_alias 21 = .ok (.ifCond .eq (21), 3) := by decide +kernel
theorem d_Model_alias_24 : decode c_Model_alias 24 = .ok (.aload_n 0, 1) := by decide +kernel
theorem d_Model_alias_25 : decode c_Model_alias 25 = .ok (.iload_n 2, 1) := by decide +kernel
theorem d_Model_alias_26 : decode c_Model_alias 26 = .ok (.iconst 1, 1) := by decide +kernel
theorem d_Model_alias_27 : decode c_Model_alias 27 = .ok (.iadd, 1) := by decide +kernel
theorem d_Model_alias_28 : decode c_Model_alias 28 = .ok (.aload_n 0, 1) := by decide +kernel
theorem d_Model_alias_29 : decode c_Model_alias 29 = .ok (.getfield 101, 3) := by decide +kernel
theorem d_Model_alias_32 : decode c_Model_alias 32 = .ok (.invokevirtual 131, 3) := by decide +kernel
theorem d_Model_alias_35 : decode c_Model_alias 35 = .ok (.ifCond .eq (7), 3) := by decide +kernel
theorem d_Model_alias_38 : decode c_Model_alias 38 = .ok (.iconst 1, 1) := by decide +kernel
theorem d_Model_alias_39 : decode c_Model_alias 39 = .ok (.goto (35), 3) := by decide +kernel
theorem d_Model_alias_42 : decode c_Model_alias 42 = .ok (.iconst 0, 1) := by decide +kernel
theorem d_Model_alias_43 : decode c_Model_alias 43 = .ok (.goto (31), 3) := by decide +kernel
theorem d_Model_alias_46 : decode c_Model_alias 46 = .ok (.aload_n 0, 1) := by decide +kernel
theorem d_Model_alias_47 : decode c_Model_alias 47 = .ok (.iconst 0, 1) := by decide +kernel
theorem d_Model_alias_48 : decode c_Model_alias 48 = .ok (.iload_n 2, 1) := by decide +kernel
theorem d_Model_alias_49 : decode c_Model_alias 49 = .ok (.invokevirtual 115, 3) := by decide +kernel
theorem d_Model_alias_52 : decode c_Model_alias 52 = .ok (.ifCond .eq (21), 3) := by decide +kernel
theorem d_Model_alias_55 : decode c_Model_alias 55 = .ok (.aload_n 0, 1) := by decide +kernel
theorem d_Model_alias_56 : decode c_Model_alias 56 = .ok (.iload_n 2, 1) := by decide +kernel
theorem d_Model_alias_57 : decode c_Model_alias 57 = .ok (.iconst 1, 1) := by decide +kernel
theorem d_Model_alias_58 : decode c_Model_alias 58 = .ok (.iadd, 1) := by decide +kernel
theorem d_Model_alias_59 : decode c_Model_alias 59 = .ok (.aload_n 0, 1) := by decide +kernel
theorem d_Model_alias_60 : decode c_Model_alias 60 = .ok (.getfield 101, 3) := by decide +kernel
theorem d_Model_alias_63 : decode c_Model_alias 63 = .ok (.invokevirtual 115, 3) := by decide +kernel
theorem d_Model_alias_66 : decode c_Model_alias 66 = .ok (.ifCond .eq (7), 3) := by decide +kernel
theorem d_Model_alias_69 : decode c_Model_alias 69 = .ok (.iconst 1, 1) := by decide +kernel
theorem d_Model_alias_70 : decode c_Model_alias 70 = .ok (.goto (4), 3) := by decide +kernel
theorem d_Model_alias_73 : decode c_Model_alias 73 = .ok (.iconst 0, 1) := by decide +kernel
theorem d_Model_alias_74 : decode c_Model_alias 74 = .ok (.istore_n 3, 1) := by decide +kernel
theorem d_Model_alias_75 : decode c_Model_alias 75 = .ok (.iload_n 3, 1) := by decide +kernel
theorem d_Model_alias_76 : decode c_Model_alias 76 = .ok (.ifCond .eq (19), 3) := by decide +kernel
theorem d_Model_alias_79 : decode c_Model_alias 79 = .ok (.aload_n 0, 1) := by decide +kernel
theorem d_Model_alias_80 : decode c_Model_alias 80 = .ok (.iconst 0, 1) := by decide +kernel
theorem d_Model_alias_81 : decode c_Model_alias 81 = .ok (.iload_n 2, 1) := by decide +kernel
theorem d_Model_alias_82 : decode c_Model_alias 82 = .ok (.iload_n 2, 1) := by decide +kernel
theorem d_Model_alias_83 : decode c_Model_alias 83 = .ok (.iconst 1, 1) := by decide +kernel
theorem d_Model_alias_84 : decode c_Model_alias 84 = .ok (.iadd, 1) := by decide +kernel
theorem d_Model_alias_85 : decode c_Model_alias 85 = .ok (.aload_n 0, 1) := by decide +kernel
theorem d_Model_alias_86 : decode c_Model_alias 86 = .ok (.getfield 101, 3) := by decide +kernel
theorem d_Model_alias_89 : decode c_Model_alias 89 = .ok (.invokevirtual 157, 3) := by decide +kernel
theorem d_Model_alias_92 : decode c_Model_alias 92 = .ok (.ifCond .eq (5), 3) := by decide +kernel
theorem d_Model_alias_95 : decode c_Model_alias 95 = .ok (.iconst (-1), 1) := by decide +kernel
theorem d_Model_alias_96 : decode c_Model_alias 96 = .ok (.ireturn, 1) := by decide +kernel
theorem d_Model_alias_97 : decode c_Model_alias 97 = .ok (.aload_n 0, 1) := by decide +kernel
theorem d_Model_alias_98 : decode c_Model_alias 98 = .ok (.getfield 208, 3) := by decide +kernel
theorem d_Model_alias_101 : decode c_Model_alias 101 = .ok (.ifCond .gt (30), 3) := by decide +kernel
theorem d_Model_alias_104 : decode c_Model_alias 104 = .ok (.aload_n 0, 1) := by decide +kernel
theorem d_Model_alias_105 : decode c_Model_alias 105 = .ok (.getfield 42, 3) := by decide +kernel
theorem d_Model_alias_108 : decode c_Model_alias 108 = .ok (.iconst 0, 1) := by decide +kernel
theorem d_Model_alias_109 : decode c_Model_alias 109 = .ok (.iaload, 1) := by decide +kernel
theorem d_Model_alias_110 : decode c_Model_alias 110 = .ok (.ifCond .gt (21), 3) := by decide +kernel
theorem d_Model_alias_113 : decode c_Model_alias 113 = .ok (.aload_n 0, 1) := by decide +kernel
theorem d_Model_alias_114 : decode c_Model_alias 114 = .ok (.getfield 42, 3) := by decide +kernel
theorem d_Model_alias_117 : decode c_Model_alias 117 = .ok (.iconst 1, 1) := by decide +kernel
theorem d_Model_alias_118 : decode c_Model_alias 118 = .ok (.iaload, 1) := by decide +kernel
theorem d_Model_alias_119 : decode c_Model_alias 119 = .ok (.ifCond .gt (12), 3) := by decide +kernel
theorem d_Model_alias_122 : decode c_Model_alias 122 = .ok (.aload_n 0, 1) := by decide +kernel
theorem d_Model_alias_123 : decode c_Model_alias 123 = .ok (.getfield 174, 3) := by decide +kernel
theorem d_Model_alias_126 : decode c_Model_alias 126 = .ok (.bipush (8), 2) := by decide +kernel
theorem d_Model_alias_128 : decode c_Model_alias 128 = .ok (.if_icmp .ne (6), 3) := by decide +kernel
theorem d_Model_alias_131 : decode c_Model_alias 131 = .ok (.bipush (-2), 2) := by decide +kernel
theorem d_Model_alias_133 : decode c_Model_alias 133 = .ok (.ireturn, 1) := by decide +kernel
theorem d_Model_alias_134 : decode c_Model_alias 134 = .ok (.aload_n 0, 1) := by decide +kernel
theorem d_Model_alias_135 : decode c_Model_alias 135 = .ok (.iconst 0, 1) := by decide +kernel
theorem d_Model_alias_136 : decode c_Model_alias 136 = .ok (.iload_n 2, 1) := by decide +kernel
theorem d_Model_alias_137 : decode c_Model_alias 137 = .ok (.invokevirtual 118, 3) := by decide +kernel
theorem d_Model_alias_140 : decode c_Model_alias 140 = .ok (.istore 4, 2) := by decide +kernel
theorem d_Model_alias_142 : decode c_Model_alias 142 = .ok (.aload_n 0, 1) := by decide +kernel
theorem d_Model_alias_143 : decode c_Model_alias 143 = .ok (.iload_n 2, 1) := by decide +kernel
theorem d_Model_alias_144 : decode c_Model_alias 144 = .ok (.iconst 1, 1) := by decide +kernel
theorem d_Model_alias_145 : decode c_Model_alias 145 = .ok (.iadd, 1) := by decide +kernel
theorem d_Model_alias_146 : decode c_Model_alias 146 = .ok (.aload_n 0, 1) := by decide +kernel
theorem d_Model_alias_147 : decode c_Model_alias 147 = .ok (.getfield 101, 3) := by decide +kernel
theorem d_Model_alias_150 : decode c_Model_alias 150 = .ok (.invokevirtual 118, 3) := by decide +kernel
theorem d_Model_alias_153 : decode c_Model_alias 153 = .ok (.istore 5, 2) := by decide +kernel
theorem d_Model_alias_155 : decode c_Model_alias 155 = .ok (.aload_n 0, 1) := by decide +kernel
theorem d_Model_alias_156 : decode c_Model_alias 156 = .ok (.iload 4, 2) := by decide +kernel
theorem d_Model_alias_158 : decode c_Model_alias 158 = .ok (.iload_n 1, 1) := by decide +kernel
theorem d_Model_alias_159 : decode c_Model_alias 159 = .ok (.invokevirtual 170, 3) := by decide +kernel
theorem d_Model_alias_162 : decode c_Model_alias 162 = .ok (.iload 4, 2) := by decide +kernel
theorem d_Model_alias_164 : decode c_Model_alias 164 = .ok (.if_icmp .ne (15), 3) := by decide +kernel
theorem d_Model_alias_167 : decode c_Model_alias 167 = .ok (.aload_n 0, 1) := by decide +kernel
theorem d_Model_alias_168 : decode c_Model_alias 168 = .ok (.iload 5, 2) := by decide +kernel
theorem d_Model_alias_170 : decode c_Model_alias 170 = .ok (.iload_n 1, 1) := by decide +kernel
theorem d_Model_alias_171 : decode c_Model_alias 171 = .ok (.invokevirtual 170, 3) := by decide +kernel
theorem d_Model_alias_174 : decode c_Model_alias 174 = .ok (.iload 4, 2) := by decide +kernel
theorem d_Model_alias_176 : decode c_Model_alias 176 = .ok (.if_icmp .ne (6), 3) := by decide +kernel
theorem d_Model_alias_179 : decode c_Model_alias 179 = .ok (.bipush (-3), 2) := by decide +kernel
theorem d_Model_alias_181 : decode c_Model_alias 181 = .ok (.ireturn, 1) := by decide +kernel
theorem d_Model_alias_182 : decode c_Model_alias 182 = .ok (.aload_n 0, 1) := by decide +kernel
theorem d_Model_alias_183 : decode c_Model_alias 183 = .ok (.getfield 32, 3) := by decide +kernel
theorem d_Model_alias_186 : decode c_Model_alias 186 = .ok (.aload_n 0, 1) := by decide +kernel
theorem d_Model_alias_187 : decode c_Model_alias 187 = .ok (.getfield 174, 3) := by decide +kernel
theorem d_Model_alias_190 : decode c_Model_alias 190 = .ok (.iload 4, 2) := by decide +kernel
theorem d_Model_alias_192 : decode c_Model_alias 192 = .ok (.iastore, 1) := by decide +kernel
theorem d_Model_alias_193 : decode c_Model_alias 193 = .ok (.aload_n 0, 1) := by decide +kernel
theorem d_Model_alias_194 : decode c_Model_alias 194 = .ok (.getfield 35, 3) := by decide +kernel
theorem d_Model_alias_197 : decode c_Model_alias 197 = .ok (.aload_n 0, 1) := by decide +kernel
theorem d_Model_alias_198 : decode c_Model_alias 198 = .ok (.getfield 174, 3) := by decide +kernel
theorem d_Model_alias_201 : decode c_Model_alias 201 = .ok (.iload 5, 2) := by decide +kernel
theorem d_Model_alias_203 : decode c_Model_alias 203 = .ok (.iastore, 1) := by decide +kernel
theorem d_Model_alias_204 : decode c_Model_alias 204 = .ok (.aload_n 0, 1) := by decide +kernel
theorem d_Model_alias_205 : decode c_Model_alias 205 = .ok (.getfield 38, 3) := by decide +kernel
theorem d_Model_alias_208 : decode c_Model_alias 208 = .ok (.aload_n 0, 1) := by decide +kernel
theorem d_Model_alias_209 : decode c_Model_alias 209 = .ok (.getfield 174, 3) := by decide +kernel
theorem d_Model_alias_212 : decode c_Model_alias 212 = .ok (.iload_n 1, 1) := by decide +kernel
theorem d_Model_alias_213 : decode c_Model_alias 213 = .ok (.bastore, 1) := by decide +kernel
theorem d_Model_alias_214 : decode c_Model_alias 214 = .ok (.aload_n 0, 1) := by decide +kernel
theorem d_Model_alias_215 : decode c_Model_alias 215 = .ok (.dup, 1) := by decide +kernel
theorem d_Model_alias_216 : decode c_Model_alias 216 = .ok (.getfield 174, 3) := by decide +kernel
theorem d_Model_alias_219 : decode c_Model_alias 219 = .ok (.iconst 1, 1) := by decide +kernel
theorem d_Model_alias_220 : decode c_Model_alias 220 = .ok (.iadd, 1) := by decide +kernel
theorem d_Model_alias_221 : decode c_Model_alias 221 = .ok (.putfield 174, 3) := by decide +kernel
theorem d_Model_alias_224 : decode c_Model_alias 224 = .ok (.aload_n 0, 1) := by decide +kernel
theorem d_Model_alias_225 : decode c_Model_alias 225 = .ok (.iconst 0, 1) := by decide +kernel
theorem d_Model_alias_226 : decode c_Model_alias 226 = .ok (.putfield 101, 3) := by decide +kernel
theorem d_Model_alias_229 : decode c_Model_alias 229 = .ok (.aload_n 0, 1) := by decide +kernel
theorem d_Model_alias_230 : decode c_Model_alias 230 = .ok (.getfield 174, 3) := by decide +kernel
theorem d_Model_alias_233 : decode c_Model_alias 233 = .ok (.ireturn, 1) := by decide +kernel
def sh_Model_alias_95 (F : Nat)  (w : im_W) : Option (Int32 × im_W) :=
  some ((-1 : Int32), w)
set_option maxHeartbeats 4000000 in
set_option maxRecDepth 100000 in
theorem bk_Model_alias_95 {F : Nat} {r : Int32 × im_W} (X : im_X D vwCl tA lo im_NW c_Model_alias 6 (some .int) RC_Model im_T p s m args meth c)  (w : im_W) (hsh : sh_Model_alias_95 F w = some r) : im_WW D vwCl tA lo 6 p l e (im_rm 4 88) s m args below meth c 0 0 (MQ below (im_Post D vwCl tA lo (some (.int r.1)) r.2) args s 0 0 (fun q => lo ≤ q)) 95 [] [] w := by
  obtain ⟨hx, hb, hr, hts, hown, hlk, hml, hK, hN⟩ := id X
  intro H locs ls hH hl
  unfold sh_Model_alias_95 at hsh
  refine lv_iconst (v := -1) hx hb d_Model_alias_95 (by decide) ?_
  obtain rfl := Option.some.inj hsh
  exact im_iret hx hb hr hlk hH d_Model_alias_96
def sh_Model_alias_131 (F : Nat)  (w : im_W) : Option (Int32 × im_W) :=
  some ((-2 : Int32), w)
set_option maxHeartbeats 4000000 in
set_option maxRecDepth 100000 in
theorem bk_Model_alias_131 {F : Nat} {r : Int32 × im_W} (X : im_X D vwCl tA lo im_NW c_Model_alias 6 (some .int) RC_Model im_T p s m args meth c)  (w : im_W) (hsh : sh_Model_alias_131 F w = some r) : im_WW D vwCl tA lo 6 p l e (im_rm 4 88) s m args below meth c 0 0 (MQ below (im_Post D vwCl tA lo (some (.int r.1)) r.2) args s 0 0 (fun q => lo ≤ q)) 131 [] [] w := by
  obtain ⟨hx, hb, hr, hts, hown, hlk, hml, hK, hN⟩ := id X
  intro H locs ls hH hl
  unfold sh_Model_alias_131 at hsh
  refine lv_bipush (v := -2) hx hb d_Model_alias_131 (by decide) ?_
  obtain rfl := Option.some.inj hsh
  exact im_iret hx hb hr hlk hH d_Model_alias_133
def sh_Model_alias_179 (F : Nat)  (w : im_W) : Option (Int32 × im_W) :=
  some ((-3 : Int32), w)
set_option maxHeartbeats 4000000 in
set_option maxRecDepth 100000 in
theorem bk_Model_alias_179 {F : Nat} {r : Int32 × im_W} (X : im_X D vwCl tA lo im_NW c_Model_alias 6 (some .int) RC_Model im_T p s m args meth c)  (w : im_W) (hsh : sh_Model_alias_179 F w = some r) : im_WW D vwCl tA lo 6 p l e (im_rm 4 88) s m args below meth c 0 0 (MQ below (im_Post D vwCl tA lo (some (.int r.1)) r.2) args s 0 0 (fun q => lo ≤ q)) 179 [] [] w := by
  obtain ⟨hx, hb, hr, hts, hown, hlk, hml, hK, hN⟩ := id X
  intro H locs ls hH hl
  unfold sh_Model_alias_179 at hsh
  refine lv_bipush (v := -3) hx hb d_Model_alias_179 (by decide) ?_
  obtain rfl := Option.some.inj hsh
  exact im_iret hx hb hr hlk hH d_Model_alias_181
def sh_Model_alias_74 (F : Nat) (x0 : Nat) (x1 : Int32) (x2 : Int32) (y0 : Int32) (w : im_W) : Option (Int32 × im_W) :=
  (if y0 = 0 then sh_Model_alias_95 F w else (im_gI w 9 x0 0).bind fun f1 => (im_is w 9 x0).bind fun u3 => im_b2 (sh_Model_same F x0 (0 : Int32) x2 (x2 + (1 : Int32)) f1 w) fun v9 w7 => (if v9 = 0 then (im_gI w7 9 x0 31).bind fun f10 => (if 0 < f10 then sh_Model_alias_131 F w7 else (im_gR w7 9 x0 21).bind fun f12 => (im_lI w7 0 f12 (0 : Int32)).bind fun e14 => (if 0 < e14 then sh_Model_alias_131 F w7 else (im_gR w7 9 x0 21).bind fun f16 => (im_lI w7 0 f16 (1 : Int32)).bind fun e18 => (if 0 < e18 then sh_Model_alias_131 F w7 else (im_gI w7 9 x0 17).bind fun f20 => (if f20 = (8 : Int32) then sh_Model_alias_131 F w7 else (im_is w7 9 x0).bind fun u22 => im_b2 (sh_Model_number F x0 (0 : Int32) x2 w7) fun v28 w26 => (im_gI w26 9 x0 0).bind fun f29 => (im_is w26 9 x0).bind fun u31 => im_b2 (sh_Model_number F x0 (x2 + (1 : Int32)) f29 w26) fun v37 w35 => (im_is w35 9 x0).bind fun u38 => im_b2 (sh_Model_replaced F x0 v28 x1 w35) fun v44 w42 => (if v44 = v28 then (im_is w42 9 x0).bind fun u45 => im_b2 (sh_Model_replaced F x0 v37 x1 w42) fun v51 w49 => (if v51 = v28 then sh_Model_alias_179 F w49 else (im_gR w49 9 x0 18).bind fun f52 => (im_gI w49 9 x0 17).bind fun f54 => (im_sI w49 0 f52 f54 v28).bind fun w56 => (im_gR w56 9 x0 19).bind fun f58 => (im_gI w56 9 x0 17).bind fun f60 => (im_sI w56 0 f58 f60 v37).bind fun w62 => (im_gR w62 9 x0 20).bind fun f64 => (im_gI w62 9 x0 17).bind fun f66 => (im_sI w62 3 f64 f66 (vp_nar .boolean x1)).bind fun w68 => (im_gI w68 9 x0 17).bind fun f70 => (im_pV w68 9 x0 17 (.int (f70 + (1 : Int32)))).bind fun w72 => (im_pV w72 9 x0 0 (.int (0 : Int32))).bind fun w74 => (im_gI w74 9 x0 17).bind fun f76 => some (f76, w74)) else sh_Model_alias_179 F w42))))) else sh_Model_alias_95 F w7))
set_option maxHeartbeats 4000000 in
set_option maxRecDepth 100000 in
theorem bk_Model_alias_74 {F : Nat} {r : Int32 × im_W} (X : im_X D vwCl tA lo im_NW c_Model_alias 6 (some .int) RC_Model im_T p s m args meth c) (x0 : Nat) (x1 : Int32) (x2 : Int32) (y0 : Int32) (w : im_W) (hsh : sh_Model_alias_74 F x0 x1 x2 y0 w = some r) : im_WW D vwCl tA lo 6 p l e (im_rm 4 88) s m args below meth c 0 0 (MQ below (im_Post D vwCl tA lo (some (.int r.1)) r.2) args s 0 0 (fun q => lo ≤ q)) 74 [(0, .ref (lo + x0)), (1, .int x1), (2, .int x2)] [.int y0] w := by
  obtain ⟨hx, hb, hr, hts, hown, hlk, hml, hK, hN⟩ := id X
  intro H locs ls hH hl
  unfold sh_Model_alias_74 at hsh
  refine lv_istore_n (lv' := [(3, .int y0), (0, .ref (lo + x0)), (1, .int x1), (2, .int x2)]) hx hb d_Model_alias_74 rfl hl (by decide) rfl (fun ls hl => ?_)
  refine lv_iload_n hx hb d_Model_alias_75 rfl (lv_at hl 0 rfl) ?_
  refine lv_if_eq (tgt := 95) hx hb d_Model_alias_76 (by decide) (fun cc => ?_) (fun cc => ?_)
  · have hsh := im_it hsh cc
    exact bk_Model_alias_95 X w hsh H locs ls hH (lv_sub hl [] rfl)
  · have hsh := im_if hsh cc
    refine lv_aload_n hx hb d_Model_alias_79 rfl (lv_at hl 1 rfl) ?_
    refine lv_iconst (v := 0) hx hb d_Model_alias_80 (by decide) ?_
    refine lv_iload_n hx hb d_Model_alias_81 rfl (lv_at hl 3 rfl) ?_
    refine lv_iload_n hx hb d_Model_alias_82 rfl (lv_at hl 3 rfl) ?_
    refine lv_iconst (v := 1) hx hb d_Model_alias_83 (by decide) ?_
    refine lv_iadd hx hb d_Model_alias_84 ?_
    refine lv_aload_n hx hb d_Model_alias_85 rfl (lv_at hl 1 rfl) ?_
    obtain ⟨f1, h2, hsh⟩ := im_bd hsh
    refine im_getI hx hb hts inC_Model hown hK hH (ci := 9) rfl 0 (by decide) (hts _ wd_631) rfl h2 d_Model_alias_86 ?_
    obtain ⟨u3, h4, hsh⟩ := im_bd hsh
    obtain ⟨g5, h6⟩ := im_is_s h4
    obtain ⟨v9, w7, h8, hsh⟩ := im_bd2 hsh
    refine im_afterI (va_runV (As := [.int (0 : Int32), .int x2, .int (x2 + (1 : Int32)), .int f1]) (rest := []) (C := RC_Model) ⟨hx, hb, hml, hown, hts⟩ (met_Model_same h8) ⟨(callB_of 4 hts (im_good wd_811) rfl rfl rfl (hts _ wd_10) (hts _ wd_808) (by decide +kernel) ⟨Nat.le_of_ble_eq_true rfl, Nat.le_of_ble_eq_true rfl⟩), hts _ wd_810, hts _ sl_Model_same⟩ (im_preV im_NW_ok hK hN hH (ci := 9) rfl rfl h6 _) rfl rfl hl.1 rfl (lv_room (Nat.le_of_ble_eq_true rfl)) d_Model_alias_89 ⟨Nat.le_of_ble_eq_true rfl, Nat.le_of_ble_eq_true rfl⟩) hH (fun H locs hH => ?_)
    refine lv_if_eq (tgt := 97) hx hb d_Model_alias_92 (by decide) (fun cc => ?_) (fun cc => ?_)
    · have hsh := im_it hsh cc
      refine lv_aload_n hx hb d_Model_alias_97 rfl (lv_at hl 1 rfl) ?_
      obtain ⟨f10, h11, hsh⟩ := im_bd hsh
      refine im_getI hx hb hts inC_Model hown hK hH (ci := 9) rfl 31 (by decide) (hts _ wd_662) rfl h11 d_Model_alias_98 ?_
      refine lv_if_gt (tgt := 131) hx hb d_Model_alias_101 (by decide) (fun cc => ?_) (fun cc => ?_)
      · have hsh := im_it hsh cc
        exact bk_Model_alias_131 X w7 hsh H locs ls hH (lv_sub hl [] rfl)
      · have hsh := im_if hsh cc
        refine lv_aload_n hx hb d_Model_alias_104 rfl (lv_at hl 1 rfl) ?_
        obtain ⟨f12, h13, hsh⟩ := im_bd hsh
        refine im_getR hx hb hts inC_Model hown hK hH (ci := 9) rfl 21 (by decide) (hts _ wd_652) rfl h13 d_Model_alias_105 ?_
        refine lv_iconst (v := 0) hx hb d_Model_alias_108 (by decide) ?_
        obtain ⟨e14, h15, hsh⟩ := im_bd hsh
        refine im_iald hx hb hK hH h15 d_Model_alias_109 ?_
        refine lv_if_gt (tgt := 131) hx hb d_Model_alias_110 (by decide) (fun cc => ?_) (fun cc => ?_)
        · have hsh := im_it hsh cc
          exact bk_Model_alias_131 X w7 hsh H locs ls hH (lv_sub hl [] rfl)
        · have hsh := im_if hsh cc
          refine lv_aload_n hx hb d_Model_alias_113 rfl (lv_at hl 1 rfl) ?_
          obtain ⟨f16, h17, hsh⟩ := im_bd hsh
          refine im_getR hx hb hts inC_Model hown hK hH (ci := 9) rfl 21 (by decide) (hts _ wd_652) rfl h17 d_Model_alias_114 ?_
          refine lv_iconst (v := 1) hx hb d_Model_alias_117 (by decide) ?_
          obtain ⟨e18, h19, hsh⟩ := im_bd hsh
          refine im_iald hx hb hK hH h19 d_Model_alias_118 ?_
          refine lv_if_gt (tgt := 131) hx hb d_Model_alias_119 (by decide) (fun cc => ?_) (fun cc => ?_)
          · have hsh := im_it hsh cc
            exact bk_Model_alias_131 X w7 hsh H locs ls hH (lv_sub hl [] rfl)
          · have hsh := im_if hsh cc
            refine lv_aload_n hx hb d_Model_alias_122 rfl (lv_at hl 1 rfl) ?_
            obtain ⟨f20, h21, hsh⟩ := im_bd hsh
            refine im_getI hx hb hts inC_Model hown hK hH (ci := 9) rfl 17 (by decide) (hts _ wd_648) rfl h21 d_Model_alias_123 ?_
            refine lv_bipush (v := 8) hx hb d_Model_alias_126 (by decide) ?_
            refine lv_icmp_ne (tgt := 134) hx hb d_Model_alias_128 (by decide) (fun cc => ?_) (fun cc => ?_)
            · have hsh := im_if hsh cc
              refine lv_aload_n hx hb d_Model_alias_134 rfl (lv_at hl 1 rfl) ?_
              refine lv_iconst (v := 0) hx hb d_Model_alias_135 (by decide) ?_
              refine lv_iload_n hx hb d_Model_alias_136 rfl (lv_at hl 3 rfl) ?_
              obtain ⟨u22, h23, hsh⟩ := im_bd hsh
              obtain ⟨g24, h25⟩ := im_is_s h23
              obtain ⟨v28, w26, h27, hsh⟩ := im_bd2 hsh
              refine im_afterI (va_runV (As := [.int (0 : Int32), .int x2]) (rest := []) (C := RC_Model) ⟨hx, hb, hml, hown, hts⟩ (met_Model_number h27) ⟨(callB_of 2 hts (im_good wd_815) rfl rfl rfl (hts _ wd_10) (hts _ wd_812) (by decide +kernel) ⟨Nat.le_of_ble_eq_true rfl, Nat.le_of_ble_eq_true rfl⟩), hts _ wd_814, hts _ sl_Model_number⟩ (im_preV im_NW_ok hK hN hH (ci := 9) rfl rfl h25 _) rfl rfl hl.1 rfl (lv_room (Nat.le_of_ble_eq_true rfl)) d_Model_alias_137 ⟨Nat.le_of_ble_eq_true rfl, Nat.le_of_ble_eq_true rfl⟩) hH (fun H locs hH => ?_)
              refine lv_istore (lv' := [(4, .int v28), (3, .int y0), (0, .ref (lo + x0)), (1, .int x1), (2, .int x2)]) hx hb d_Model_alias_140 hl (by decide) rfl (fun ls hl => ?_)
              refine lv_aload_n hx hb d_Model_alias_142 rfl (lv_at hl 2 rfl) ?_
              refine lv_iload_n hx hb d_Model_alias_143 rfl (lv_at hl 4 rfl) ?_
              refine lv_iconst (v := 1) hx hb d_Model_alias_144 (by decide) ?_
              refine lv_iadd hx hb d_Model_alias_145 ?_
              refine lv_aload_n hx hb d_Model_alias_146 rfl (lv_at hl 2 rfl) ?_
              obtain ⟨f29, h30, hsh⟩ := im_bd hsh
              refine im_getI hx hb hts inC_Model hown hK hH (ci := 9) rfl 0 (by decide) (hts _ wd_631) rfl h30 d_Model_alias_147 ?_
              obtain ⟨u31, h32, hsh⟩ := im_bd hsh
              obtain ⟨g33, h34⟩ := im_is_s h32
              obtain ⟨v37, w35, h36, hsh⟩ := im_bd2 hsh
              refine im_afterI (va_runV (As := [.int (x2 + (1 : Int32)), .int f29]) (rest := []) (C := RC_Model) ⟨hx, hb, hml, hown, hts⟩ (met_Model_number h36) ⟨(callB_of 2 hts (im_good wd_815) rfl rfl rfl (hts _ wd_10) (hts _ wd_812) (by decide +kernel) ⟨Nat.le_of_ble_eq_true rfl, Nat.le_of_ble_eq_true rfl⟩), hts _ wd_814, hts _ sl_Model_number⟩ (im_preV im_NW_ok hK hN hH (ci := 9) rfl rfl h34 _) rfl rfl hl.1 rfl (lv_room (Nat.le_of_ble_eq_true rfl)) d_Model_alias_150 ⟨Nat.le_of_ble_eq_true rfl, Nat.le_of_ble_eq_true rfl⟩) hH (fun H locs hH => ?_)
              refine lv_istore (lv' := [(5, .int v37), (4, .int v28), (3, .int y0), (0, .ref (lo + x0)), (1, .int x1), (2, .int x2)]) hx hb d_Model_alias_153 hl (by decide) rfl (fun ls hl => ?_)
              refine lv_aload_n hx hb d_Model_alias_155 rfl (lv_at hl 3 rfl) ?_
              refine lv_iload hx hb d_Model_alias_156 (lv_at hl 1 rfl) ?_
              refine lv_iload_n hx hb d_Model_alias_158 rfl (lv_at hl 4 rfl) ?_
              obtain ⟨u38, h39, hsh⟩ := im_bd hsh
              obtain ⟨g40, h41⟩ := im_is_s h39
              obtain ⟨v44, w42, h43, hsh⟩ := im_bd2 hsh
              refine im_afterI (va_runV (As := [.int v28, .int x1]) (rest := []) (C := RC_Model) ⟨hx, hb, hml, hown, hts⟩ (met_Model_replaced h43) ⟨(callB_of 2 hts (im_good wd_819) rfl rfl rfl (hts _ wd_10) (hts _ wd_816) (by decide +kernel) ⟨Nat.le_of_ble_eq_true rfl, Nat.le_of_ble_eq_true rfl⟩), hts _ wd_818, hts _ sl_Model_replaced⟩ (im_preV im_NW_ok hK hN hH (ci := 9) rfl rfl h41 _) rfl rfl hl.1 rfl (lv_room (Nat.le_of_ble_eq_true rfl)) d_Model_alias_159 ⟨Nat.le_of_ble_eq_true rfl, Nat.le_of_ble_eq_true rfl⟩) hH (fun H locs hH => ?_)
              refine lv_iload hx hb d_Model_alias_162 (lv_at hl 1 rfl) ?_
              refine lv_icmp_ne (tgt := 179) hx hb d_Model_alias_164 (by decide) (fun cc => ?_) (fun cc => ?_)
              · have hsh := im_if hsh cc
                exact bk_Model_alias_179 X w42 hsh H locs ls hH (lv_sub hl [] rfl)
              · have hsh := im_it hsh cc
                refine lv_aload_n hx hb d_Model_alias_167 rfl (lv_at hl 3 rfl) ?_
                refine lv_iload hx hb d_Model_alias_168 (lv_at hl 0 rfl) ?_
                refine lv_iload_n hx hb d_Model_alias_170 rfl (lv_at hl 4 rfl) ?_
                obtain ⟨u45, h46, hsh⟩ := im_bd hsh
                obtain ⟨g47, h48⟩ := im_is_s h46
                obtain ⟨v51, w49, h50, hsh⟩ := im_bd2 hsh
                refine im_afterI (va_runV (As := [.int v37, .int x1]) (rest := []) (C := RC_Model) ⟨hx, hb, hml, hown, hts⟩ (met_Model_replaced h50) ⟨(callB_of 2 hts (im_good wd_819) rfl rfl rfl (hts _ wd_10) (hts _ wd_816) (by decide +kernel) ⟨Nat.le_of_ble_eq_true rfl, Nat.le_of_ble_eq_true rfl⟩), hts _ wd_818, hts _ sl_Model_replaced⟩ (im_preV im_NW_ok hK hN hH (ci := 9) rfl rfl h48 _) rfl rfl hl.1 rfl (lv_room (Nat.le_of_ble_eq_true rfl)) d_Model_alias_171 ⟨Nat.le_of_ble_eq_true rfl, Nat.le_of_ble_eq_true rfl⟩) hH (fun H locs hH => ?_)
                refine lv_iload hx hb d_Model_alias_174 (lv_at hl 1 rfl) ?_
                refine lv_icmp_ne (tgt := 182) hx hb d_Model_alias_176 (by decide) (fun cc => ?_) (fun cc => ?_)
                · have hsh := im_if hsh cc
                  refine lv_aload_n hx hb d_Model_alias_182 rfl (lv_at hl 3 rfl) ?_
                  obtain ⟨f52, h53, hsh⟩ := im_bd hsh
                  refine im_getR hx hb hts inC_Model hown hK hH (ci := 9) rfl 18 (by decide) (hts _ wd_649) rfl h53 d_Model_alias_183 ?_
                  refine lv_aload_n hx hb d_Model_alias_186 rfl (lv_at hl 3 rfl) ?_
                  obtain ⟨f54, h55, hsh⟩ := im_bd hsh
                  refine im_getI hx hb hts inC_Model hown hK hH (ci := 9) rfl 17 (by decide) (hts _ wd_648) rfl h55 d_Model_alias_187 ?_
                  refine lv_iload hx hb d_Model_alias_190 (lv_at hl 1 rfl) ?_
                  obtain ⟨w56, h57, hsh⟩ := im_bd hsh
                  refine im_iast hx hb hK hH h57 d_Model_alias_192 (fun H locs hH => ?_)
                  refine lv_aload_n hx hb d_Model_alias_193 rfl (lv_at hl 3 rfl) ?_
                  obtain ⟨f58, h59, hsh⟩ := im_bd hsh
                  refine im_getR hx hb hts inC_Model hown hK hH (ci := 9) rfl 19 (by decide) (hts _ wd_650) rfl h59 d_Model_alias_194 ?_
                  refine lv_aload_n hx hb d_Model_alias_197 rfl (lv_at hl 3 rfl) ?_
                  obtain ⟨f60, h61, hsh⟩ := im_bd hsh
                  refine im_getI hx hb hts inC_Model hown hK hH (ci := 9) rfl 17 (by decide) (hts _ wd_648) rfl h61 d_Model_alias_198 ?_
                  refine lv_iload hx hb d_Model_alias_201 (lv_at hl 0 rfl) ?_
                  obtain ⟨w62, h63, hsh⟩ := im_bd hsh
                  refine im_iast hx hb hK hH h63 d_Model_alias_203 (fun H locs hH => ?_)
                  refine lv_aload_n hx hb d_Model_alias_204 rfl (lv_at hl 3 rfl) ?_
                  obtain ⟨f64, h65, hsh⟩ := im_bd hsh
                  refine im_getR hx hb hts inC_Model hown hK hH (ci := 9) rfl 20 (by decide) (hts _ wd_651) rfl h65 d_Model_alias_205 ?_
                  refine lv_aload_n hx hb d_Model_alias_208 rfl (lv_at hl 3 rfl) ?_
                  obtain ⟨f66, h67, hsh⟩ := im_bd hsh
                  refine im_getI hx hb hts inC_Model hown hK hH (ci := 9) rfl 17 (by decide) (hts _ wd_648) rfl h67 d_Model_alias_209 ?_
                  refine lv_iload_n hx hb d_Model_alias_212 rfl (lv_at hl 4 rfl) ?_
                  obtain ⟨w68, h69, hsh⟩ := im_bd hsh
                  refine im_zast hx hb hK hH h69 d_Model_alias_213 (fun H locs hH => ?_)
                  refine lv_aload_n hx hb d_Model_alias_214 rfl (lv_at hl 3 rfl) ?_
                  refine lv_dup hx hb d_Model_alias_215 rfl ?_
                  obtain ⟨f70, h71, hsh⟩ := im_bd hsh
                  refine im_getI hx hb hts inC_Model hown hK hH (ci := 9) rfl 17 (by decide) (hts _ wd_648) rfl h71 d_Model_alias_216 ?_
                  refine lv_iconst (v := 1) hx hb d_Model_alias_219 (by decide) ?_
                  refine lv_iadd hx hb d_Model_alias_220 ?_
                  obtain ⟨w72, h73, hsh⟩ := im_bd hsh
                  refine im_put (v := .int (f70 + (1 : Int32))) hx hb hts inC_Model tyC_Model tyC_Model_ok nmC_Model hown hK hH (ci := 9) rfl 17 (by decide) (hts _ wd_648) rfl rfl rfl rfl h73 d_Model_alias_221 (fun H locs hH => ?_)
                  refine lv_aload_n hx hb d_Model_alias_224 rfl (lv_at hl 3 rfl) ?_
                  refine lv_iconst (v := 0) hx hb d_Model_alias_225 (by decide) ?_
                  obtain ⟨w74, h75, hsh⟩ := im_bd hsh
                  refine im_put (v := .int (0 : Int32)) hx hb hts inC_Model tyC_Model tyC_Model_ok nmC_Model hown hK hH (ci := 9) rfl 0 (by decide) (hts _ wd_631) rfl rfl rfl rfl h75 d_Model_alias_226 (fun H locs hH => ?_)
                  refine lv_aload_n hx hb d_Model_alias_229 rfl (lv_at hl 3 rfl) ?_
                  obtain ⟨f76, h77, hsh⟩ := im_bd hsh
                  refine im_getI hx hb hts inC_Model hown hK hH (ci := 9) rfl 17 (by decide) (hts _ wd_648) rfl h77 d_Model_alias_230 ?_
                  obtain rfl := Option.some.inj hsh
                  exact im_iret hx hb hr hlk hH d_Model_alias_233
                · have hsh := im_it hsh cc
                  exact bk_Model_alias_179 X w49 hsh H locs ls hH (lv_sub hl [] rfl)
            · have hsh := im_it hsh cc
              exact bk_Model_alias_131 X w7 hsh H locs ls hH (lv_sub hl [] rfl)
    · have hsh := im_if hsh cc
      exact bk_Model_alias_95 X w7 hsh H locs ls hH (lv_sub hl [] rfl)
def sh_Model_alias_42 (F : Nat) (x0 : Nat) (x1 : Int32) (x2 : Int32) (w : im_W) : Option (Int32 × im_W) :=
  sh_Model_alias_74 F x0 x1 x2 (0 : Int32) w
set_option maxHeartbeats 4000000 in
set_option maxRecDepth 100000 in
theorem bk_Model_alias_42 {F : Nat} {r : Int32 × im_W} (X : im_X D vwCl tA lo im_NW c_Model_alias 6 (some .int) RC_Model im_T p s m args meth c) (x0 : Nat) (x1 : Int32) (x2 : Int32) (w : im_W) (hsh : sh_Model_alias_42 F x0 x1 x2 w = some r) : im_WW D vwCl tA lo 6 p l e (im_rm 4 88) s m args below meth c 0 0 (MQ below (im_Post D vwCl tA lo (some (.int r.1)) r.2) args s 0 0 (fun q => lo ≤ q)) 42 [(0, .ref (lo + x0)), (1, .int x1), (2, .int x2)] [] w := by
  obtain ⟨hx, hb, hr, hts, hown, hlk, hml, hK, hN⟩ := id X
  intro H locs ls hH hl
  unfold sh_Model_alias_42 at hsh
  refine lv_iconst (v := 0) hx hb d_Model_alias_42 (by decide) ?_
  refine lv_goto (tgt := 74) hx hb d_Model_alias_43 (by decide) ?_
  exact bk_Model_alias_74 X x0 x1 x2 (0 : Int32) w hsh H locs ls hH (lv_sub hl [0, 1, 2] rfl)
def sh_Model_alias_73 (F : Nat) (x0 : Nat) (x1 : Int32) (x2 : Int32) (w : im_W) : Option (Int32 × im_W) :=
  sh_Model_alias_74 F x0 x1 x2 (0 : Int32) w
set_option maxHeartbeats 4000000 in
set_option maxRecDepth 100000 in
theorem bk_Model_alias_73 {F : Nat} {r : Int32 × im_W} (X : im_X D vwCl tA lo im_NW c_Model_alias 6 (some .int) RC_Model im_T p s m args meth c) (x0 : Nat) (x1 : Int32) (x2 : Int32) (w : im_W) (hsh : sh_Model_alias_73 F x0 x1 x2 w = some r) : im_WW D vwCl tA lo 6 p l e (im_rm 4 88) s m args below meth c 0 0 (MQ below (im_Post D vwCl tA lo (some (.int r.1)) r.2) args s 0 0 (fun q => lo ≤ q)) 73 [(0, .ref (lo + x0)), (1, .int x1), (2, .int x2)] [] w := by
  obtain ⟨hx, hb, hr, hts, hown, hlk, hml, hK, hN⟩ := id X
  intro H locs ls hH hl
  unfold sh_Model_alias_73 at hsh
  refine lv_iconst (v := 0) hx hb d_Model_alias_73 (by decide) ?_
  exact bk_Model_alias_74 X x0 x1 x2 (0 : Int32) w hsh H locs ls hH (lv_sub hl [0, 1, 2] rfl)
def sh_Model_alias (F : Nat) (x0 : Nat) (x1 : Int32) (w : im_W) : Option (Int32 × im_W) :=
  (im_is w 9 x0).bind fun u1 => im_b2 (sh_Model_equalSign F x0 w) fun v7 w5 => (if 0 ≤ v7 then (if x1 = 0 then (im_is w5 9 x0).bind fun u8 => im_b2 (sh_Model_isLanguage F x0 (0 : Int32) v7 w5) fun v14 w12 => (if v14 = 0 then sh_Model_alias_73 F x0 x1 v7 w12 else (im_gI w12 9 x0 0).bind fun f15 => (im_is w12 9 x0).bind fun u17 => im_b2 (sh_Model_isLanguage F x0 (v7 + (1 : Int32)) f15 w12) fun v23 w21 => (if v23 = 0 then sh_Model_alias_73 F x0 x1 v7 w21 else sh_Model_alias_74 F x0 x1 v7 (1 : Int32) w21)) else (im_is w5 9 x0).bind fun u24 => im_b2 (sh_Model_isRegion F x0 (0 : Int32) v7 w5) fun v30 w28 => (if v30 = 0 then sh_Model_alias_42 F x0 x1 v7 w28 else (im_gI w28 9 x0 0).bind fun f31 => (im_is w28 9 x0).bind fun u33 => im_b2 (sh_Model_isRegion F x0 (v7 + (1 : Int32)) f31 w28) fun v39 w37 => (if v39 = 0 then sh_Model_alias_42 F x0 x1 v7 w37 else sh_Model_alias_74 F x0 x1 v7 (1 : Int32) w37))) else some ((-1 : Int32), w5))
set_option maxHeartbeats 4000000 in
set_option maxRecDepth 100000 in
theorem met_Model_alias {F : Nat} {x0 : Nat} {x1 : Int32} {w : im_W} {r : Int32 × im_W} (hsh : sh_Model_alias F x0 x1 w = some r) : Met l y_Model_alias (Cond.code y_Model_alias c_Model_alias 6 (some .int) :: im_T) (im_rm 4 88) (im_Pre D vwCl tA lo im_NW [.ref (lo + x0), .int x1] w) (im_Post D vwCl tA lo (some (.int r.1)) r.2) 0 0 (fun q => lo ≤ q) := by
  refine im_ofW (cc := c_Model_alias) (nL := 6) (ret := (some .int)) (by decide) (Nat.le_of_ble_eq_true rfl) ?_
  intro p e s m args below meth c X H locs ls hH hl
  obtain ⟨hx, hb, hr, hts, hown, hlk, hml, hK, hN⟩ := id X
  have hl : lv_has ls 6 [(0, .ref (lo + x0)), (1, .int x1)] := hl
  unfold sh_Model_alias at hsh
  refine lv_aload_n hx hb d_Model_alias_0 rfl (lv_at hl 0 rfl) ?_
  obtain ⟨u1, h2, hsh⟩ := im_bd hsh
  obtain ⟨g3, h4⟩ := im_is_s h2
  obtain ⟨v7, w5, h6, hsh⟩ := im_bd2 hsh
  refine im_afterI (va_runV (As := []) (rest := []) (C := RC_Model) ⟨hx, hb, hml, hown, hts⟩ (met_Model_equalSign h6) ⟨(callB_of 0 hts (im_good wd_791) rfl rfl rfl (hts _ wd_10) (hts _ wd_788) (by decide +kernel) ⟨Nat.le_of_ble_eq_true rfl, Nat.le_of_ble_eq_true rfl⟩), hts _ wd_790, hts _ sl_Model_equalSign⟩ (im_preV im_NW_ok hK hN hH (ci := 9) rfl rfl h4 _) rfl rfl hl.1 rfl (lv_room (Nat.le_of_ble_eq_true rfl)) d_Model_alias_1 ⟨Nat.le_of_ble_eq_true rfl, Nat.le_of_ble_eq_true rfl⟩) hH (fun H locs hH => ?_)
  refine lv_istore_n (lv' := [(2, .int v7), (0, .ref (lo + x0)), (1, .int x1)]) hx hb d_Model_alias_4 rfl hl (by decide) rfl (fun ls hl => ?_)
  refine lv_iload_n hx hb d_Model_alias_5 rfl (lv_at hl 0 rfl) ?_
  refine lv_if_ge (tgt := 11) hx hb d_Model_alias_6 (by decide) (fun cc => ?_) (fun cc => ?_)
  · have hsh := im_it hsh cc
    refine lv_iload_n hx hb d_Model_alias_11 rfl (lv_at hl 2 rfl) ?_
    refine lv_if_eq (tgt := 46) hx hb d_Model_alias_12 (by decide) (fun cc => ?_) (fun cc => ?_)
    · have hsh := im_it hsh cc
      refine lv_aload_n hx hb d_Model_alias_46 rfl (lv_at hl 1 rfl) ?_
      refine lv_iconst (v := 0) hx hb d_Model_alias_47 (by decide) ?_
      refine lv_iload_n hx hb d_Model_alias_48 rfl (lv_at hl 0 rfl) ?_
      obtain ⟨u8, h9, hsh⟩ := im_bd hsh
      obtain ⟨g10, h11⟩ := im_is_s h9
      obtain ⟨v14, w12, h13, hsh⟩ := im_bd2 hsh
      refine im_afterI (va_runV (As := [.int (0 : Int32), .int v7]) (rest := []) (C := RC_Model) ⟨hx, hb, hml, hown, hts⟩ (met_Model_isLanguage h13) ⟨(callB_of 2 hts (im_good wd_807) rfl rfl rfl (hts _ wd_10) (hts _ wd_804) (by decide +kernel) ⟨Nat.le_of_ble_eq_true rfl, Nat.le_of_ble_eq_true rfl⟩), hts _ wd_806, hts _ sl_Model_isLanguage⟩ (im_preV im_NW_ok hK hN hH (ci := 9) rfl rfl h11 _) rfl rfl hl.1 rfl (lv_room (Nat.le_of_ble_eq_true rfl)) d_Model_alias_49 ⟨Nat.le_of_ble_eq_true rfl, Nat.le_of_ble_eq_true rfl⟩) hH (fun H locs hH => ?_)
      refine lv_if_eq (tgt := 73) hx hb d_Model_alias_52 (by decide) (fun cc => ?_) (fun cc => ?_)
      · have hsh := im_it hsh cc
        exact bk_Model_alias_73 X x0 x1 v7 w12 hsh H locs ls hH (lv_sub hl [1, 2, 0] rfl)
      · have hsh := im_if hsh cc
        refine lv_aload_n hx hb d_Model_alias_55 rfl (lv_at hl 1 rfl) ?_
        refine lv_iload_n hx hb d_Model_alias_56 rfl (lv_at hl 0 rfl) ?_
        refine lv_iconst (v := 1) hx hb d_Model_alias_57 (by decide) ?_
        refine lv_iadd hx hb d_Model_alias_58 ?_
        refine lv_aload_n hx hb d_Model_alias_59 rfl (lv_at hl 1 rfl) ?_
        obtain ⟨f15, h16, hsh⟩ := im_bd hsh
        refine im_getI hx hb hts inC_Model hown hK hH (ci := 9) rfl 0 (by decide) (hts _ wd_631) rfl h16 d_Model_alias_60 ?_
        obtain ⟨u17, h18, hsh⟩ := im_bd hsh
        obtain ⟨g19, h20⟩ := im_is_s h18
        obtain ⟨v23, w21, h22, hsh⟩ := im_bd2 hsh
        refine im_afterI (va_runV (As := [.int (v7 + (1 : Int32)), .int f15]) (rest := []) (C := RC_Model) ⟨hx, hb, hml, hown, hts⟩ (met_Model_isLanguage h22) ⟨(callB_of 2 hts (im_good wd_807) rfl rfl rfl (hts _ wd_10) (hts _ wd_804) (by decide +kernel) ⟨Nat.le_of_ble_eq_true rfl, Nat.le_of_ble_eq_true rfl⟩), hts _ wd_806, hts _ sl_Model_isLanguage⟩ (im_preV im_NW_ok hK hN hH (ci := 9) rfl rfl h20 _) rfl rfl hl.1 rfl (lv_room (Nat.le_of_ble_eq_true rfl)) d_Model_alias_63 ⟨Nat.le_of_ble_eq_true rfl, Nat.le_of_ble_eq_true rfl⟩) hH (fun H locs hH => ?_)
        refine lv_if_eq (tgt := 73) hx hb d_Model_alias_66 (by decide) (fun cc => ?_) (fun cc => ?_)
        · have hsh := im_it hsh cc
          exact bk_Model_alias_73 X x0 x1 v7 w21 hsh H locs ls hH (lv_sub hl [1, 2, 0] rfl)
        · have hsh := im_if hsh cc
          refine lv_iconst (v := 1) hx hb d_Model_alias_69 (by decide) ?_
          refine lv_goto (tgt := 74) hx hb d_Model_alias_70 (by decide) ?_
          exact bk_Model_alias_74 X x0 x1 v7 (1 : Int32) w21 hsh H locs ls hH (lv_sub hl [1, 2, 0] rfl)
    · have hsh := im_if hsh cc
      refine lv_aload_n hx hb d_Model_alias_15 rfl (lv_at hl 1 rfl) ?_
      refine lv_iconst (v := 0) hx hb d_Model_alias_16 (by decide) ?_
      refine lv_iload_n hx hb d_Model_alias_17 rfl (lv_at hl 0 rfl) ?_
      obtain ⟨u24, h25, hsh⟩ := im_bd hsh
      obtain ⟨g26, h27⟩ := im_is_s h25
      obtain ⟨v30, w28, h29, hsh⟩ := im_bd2 hsh
      refine im_afterI (va_runV (As := [.int (0 : Int32), .int v7]) (rest := []) (C := RC_Model) ⟨hx, hb, hml, hown, hts⟩ (met_Model_isRegion h29) ⟨(callB_of 2 hts (im_good wd_795) rfl rfl rfl (hts _ wd_10) (hts _ wd_792) (by decide +kernel) ⟨Nat.le_of_ble_eq_true rfl, Nat.le_of_ble_eq_true rfl⟩), hts _ wd_794, hts _ sl_Model_isRegion⟩ (im_preV im_NW_ok hK hN hH (ci := 9) rfl rfl h27 _) rfl rfl hl.1 rfl (lv_room (Nat.le_of_ble_eq_true rfl)) d_Model_alias_18 ⟨Nat.le_of_ble_eq_true rfl, Nat.le_of_ble_eq_true rfl⟩) hH (fun H locs hH => ?_)
      refine lv_if_eq (tgt := 42) hx hb d_Model_alias_21 (by decide) (fun cc => ?_) (fun cc => ?_)
      · have hsh := im_it hsh cc
        exact bk_Model_alias_42 X x0 x1 v7 w28 hsh H locs ls hH (lv_sub hl [1, 2, 0] rfl)
      · have hsh := im_if hsh cc
        refine lv_aload_n hx hb d_Model_alias_24 rfl (lv_at hl 1 rfl) ?_
        refine lv_iload_n hx hb d_Model_alias_25 rfl (lv_at hl 0 rfl) ?_
        refine lv_iconst (v := 1) hx hb d_Model_alias_26 (by decide) ?_
        refine lv_iadd hx hb d_Model_alias_27 ?_
        refine lv_aload_n hx hb d_Model_alias_28 rfl (lv_at hl 1 rfl) ?_
        obtain ⟨f31, h32, hsh⟩ := im_bd hsh
        refine im_getI hx hb hts inC_Model hown hK hH (ci := 9) rfl 0 (by decide) (hts _ wd_631) rfl h32 d_Model_alias_29 ?_
        obtain ⟨u33, h34, hsh⟩ := im_bd hsh
        obtain ⟨g35, h36⟩ := im_is_s h34
        obtain ⟨v39, w37, h38, hsh⟩ := im_bd2 hsh
        refine im_afterI (va_runV (As := [.int (v7 + (1 : Int32)), .int f31]) (rest := []) (C := RC_Model) ⟨hx, hb, hml, hown, hts⟩ (met_Model_isRegion h38) ⟨(callB_of 2 hts (im_good wd_795) rfl rfl rfl (hts _ wd_10) (hts _ wd_792) (by decide +kernel) ⟨Nat.le_of_ble_eq_true rfl, Nat.le_of_ble_eq_true rfl⟩), hts _ wd_794, hts _ sl_Model_isRegion⟩ (im_preV im_NW_ok hK hN hH (ci := 9) rfl rfl h36 _) rfl rfl hl.1 rfl (lv_room (Nat.le_of_ble_eq_true rfl)) d_Model_alias_32 ⟨Nat.le_of_ble_eq_true rfl, Nat.le_of_ble_eq_true rfl⟩) hH (fun H locs hH => ?_)
        refine lv_if_eq (tgt := 42) hx hb d_Model_alias_35 (by decide) (fun cc => ?_) (fun cc => ?_)
        · have hsh := im_it hsh cc
          exact bk_Model_alias_42 X x0 x1 v7 w37 hsh H locs ls hH (lv_sub hl [1, 2, 0] rfl)
        · have hsh := im_if hsh cc
          refine lv_iconst (v := 1) hx hb d_Model_alias_38 (by decide) ?_
          refine lv_goto (tgt := 74) hx hb d_Model_alias_39 (by decide) ?_
          exact bk_Model_alias_74 X x0 x1 v7 (1 : Int32) w37 hsh H locs ls hH (lv_sub hl [1, 2, 0] rfl)
  · have hsh := im_if hsh cc
    refine lv_iconst (v := -1) hx hb d_Model_alias_9 (by decide) ?_
    obtain rfl := Option.some.inj hsh
    exact im_iret hx hb hr hlk hH d_Model_alias_10
theorem wd_665 : (Jvm.Cond.fieldLink "LanguageTagsModel" (69 : Nat) "LanguageTagsModel" "tagLanguage" "[I") ∈ im_T := im_memT (i := 665) (by decide +kernel) (by decide +kernel)
theorem wd_666 : (Jvm.Cond.fieldLink "LanguageTagsModel" (72 : Nat) "LanguageTagsModel" "tagScript" "[I") ∈ im_T := im_memT (i := 666) (by decide +kernel) (by decide +kernel)
theorem wd_667 : (Jvm.Cond.fieldLink "LanguageTagsModel" (75 : Nat) "LanguageTagsModel" "tagRegion" "[I") ∈ im_T := im_memT (i := 667) (by decide +kernel) (by decide +kernel)
theorem wd_824 : (Jvm.Cond.methodLink "LanguageTagsModel" (215 : Nat) ({ cls := "LanguageTagsModel", name := "parse", desc := "(II)I" } : Jvm.MethodName)) ∈ im_T := im_memT (i := 824) (by decide +kernel) (by decide +kernel)
theorem wd_826 : (Jvm.Cond.instanceMethod ({ cls := "LanguageTagsModel", name := "parse", desc := "(II)I" } : Jvm.MethodName)) ∈ im_T := im_memT (i := 826) (by decide +kernel) (by decide +kernel)
theorem wd_827 : (Jvm.Cond.code ({ cls := "LanguageTagsModel", name := "parse", desc := "(II)I" } : Jvm.MethodName) prog_12_method_20_code (6 : Nat) (Option.some Jvm.ClassFile.FieldType.int)) ∈ im_T := im_memT (i := 827) (by decide +kernel) (by decide +kernel)
theorem wd_856 : (Jvm.Cond.methodLink "LanguageTagsModel" (218 : Nat) ({ cls := "LanguageTagsModel", name := "makeForm", desc := "()V" } : Jvm.MethodName)) ∈ im_T := im_memT (i := 856) (by decide +kernel) (by decide +kernel)
theorem wd_858 : (Jvm.Cond.instanceMethod ({ cls := "LanguageTagsModel", name := "makeForm", desc := "()V" } : Jvm.MethodName)) ∈ im_T := im_memT (i := 858) (by decide +kernel) (by decide +kernel)
theorem wd_859 : (Jvm.Cond.code ({ cls := "LanguageTagsModel", name := "makeForm", desc := "()V" } : Jvm.MethodName) prog_12_method_29_code (6 : Nat) (Option.none : Option Jvm.ClassFile.FieldType)) ∈ im_T := im_memT (i := 859) (by decide +kernel) (by decide +kernel)
theorem wd_892 : (Jvm.Cond.methodLink "LanguageTagsModel" (221 : Nat) ({ cls := "LanguageTagsModel", name := "find", desc := "()I" } : Jvm.MethodName)) ∈ im_T := im_memT (i := 892) (by decide +kernel) (by decide +kernel)
theorem wd_894 : (Jvm.Cond.instanceMethod ({ cls := "LanguageTagsModel", name := "find", desc := "()I" } : Jvm.MethodName)) ∈ im_T := im_memT (i := 894) (by decide +kernel) (by decide +kernel)
theorem wd_895 : (Jvm.Cond.code ({ cls := "LanguageTagsModel", name := "find", desc := "()I" } : Jvm.MethodName) prog_12_method_31_code (4 : Nat) (Option.some Jvm.ClassFile.FieldType.int)) ∈ im_T := im_memT (i := 895) (by decide +kernel) (by decide +kernel)
theorem d_Model_read_0 : decode c_Model_read 0 = .ok (.aload_n 0, 1) := by decide +kernel
theorem d_Model_read_1 : decode c_Model_read 1 = .ok (.iconst 0, 1) := by decide +kernel
theorem d_Model_read_2 : decode c_Model_read 2 = .ok (.aload_n 0, 1) := by decide +kernel
theorem d_Model_read_3 : decode c_Model_read 3 = .ok (.getfield 101, 3) := by decide +kernel
theorem d_Model_read_6 : decode c_Model_read 6 = .ok (.invokevirtual 215, 3) := by decide +kernel
theorem d_Model_read_9 : decode c_Model_read 9 = .ok (.istore_n 1, 1) := by decide +kernel
theorem d_Model_read_10 : decode c_Model_read 10 = .ok (.iload_n 1, 1) := by decide +kernel
theorem d_Model_read_11 : decode c_Model_read 11 = .ok (.ifCond .lt (9), 3) := by decide +kernel
theorem d_Model_read_14 : decode c_Model_read 14 = .ok (.sipush (-1000), 3) := by decide +kernel
theorem d_Model_read_17 : decode c_Model_read 17 = .ok (.iload_n 1, 1) := by decide +kernel
theorem d_Model_read_18 : decode c_Model_read 18 = .ok (.isub, 1) := by decide +kernel
theorem d_Model_read_19 : decode c_Model_read 19 = .ok (.ireturn, 1) := by decide +kernel
theorem d_Model_read_20 : decode c_Model_read 20 = .ok (.aload_n 0, 1) := by decide +kernel
theorem d_Model_read_21 : decode c_Model_read 21 = .ok (.invokevirtual 218, 3) := by decide +kernel
theorem d_Model_read_24 : decode c_Model_read 24 = .ok (.aload_n 0, 1) := by decide +kernel
theorem d_Model_read_25 : decode c_Model_read 25 = .ok (.invokevirtual 221, 3) := by decide +kernel
theorem d_Model_read_28 : decode c_Model_read 28 = .ok (.istore_n 2, 1) := by decide +kernel
theorem d_Model_read_29 : decode c_Model_read 29 = .ok (.iload_n 2, 1) := by decide +kernel
theorem d_Model_read_30 : decode c_Model_read 30 = .ok (.ifCond .ge (14), 3) := by decide +kernel
theorem d_Model_read_33 : decode c_Model_read 33 = .ok (.aload_n 0, 1) := by decide +kernel
theorem d_Model_read_34 : decode c_Model_read 34 = .ok (.getfield 208, 3) := by decide +kernel
theorem d_Model_read_37 : decode c_Model_read 37 = .ok (.bipush (16), 2) := by decide +kernel
theorem d_Model_read_39 : decode c_Model_read 39 = .ok (.if_icmp .ne (5), 3) := by decide +kernel
theorem d_Model_read_42 : decode c_Model_read 42 = .ok (.iconst (-1), 1) := by decide +kernel
theorem d_Model_read_43 : decode c_Model_read 43 = .ok (.ireturn, 1) := by decide +kernel
theorem d_Model_read_44 : decode c_Model_read 44 = .ok (.aload_n 0, 1) := by decide +kernel
theorem d_Model_read_45 : decode c_Model_read 45 = .ok (.iconst 0, 1) := by decide +kernel
theorem d_Model_read_46 : decode c_Model_read 46 = .ok (.putfield 101, 3) := by decide +kernel
theorem d_Model_read_49 : decode c_Model_read 49 = .ok (.iload_n 2, 1) := by decide +kernel
theorem d_Model_read_50 : decode c_Model_read 50 = .ok (.ifCond .lt (5), 3) := by decide +kernel
theorem d_Model_read_53 : decode c_Model_read 53 = .ok (.iload_n 2, 1) := by decide +kernel
theorem d_Model_read_54 : decode c_Model_read 54 = .ok (.ireturn, 1) := by decide +kernel
theorem d_Model_read_55 : decode c_Model_read 55 = .ok (.iconst 0, 1) := by decide +kernel
theorem d_Model_read_56 : decode c_Model_read 56 = .ok (.istore_n 3, 1) := by decide +kernel
theorem d_Model_read_57 : decode c_Model_read 57 = .ok (.iload_n 3, 1) := by decide +kernel
theorem d_Model_read_58 : decode c_Model_read 58 = .ok (.aload_n 0, 1) := by decide +kernel
theorem d_Model_read_59 : decode c_Model_read 59 = .ok (.getfield 177, 3) := by decide +kernel
theorem d_Model_read_62 : decode c_Model_read 62 = .ok (.if_icmp .ge (29), 3) := by decide +kernel
theorem d_Model_read_65 : decode c_Model_read 65 = .ok (.aload_n 0, 1) := by decide +kernel
theorem d_Model_read_66 : decode c_Model_read 66 = .ok (.getfield 63, 3) := by decide +kernel
theorem d_Model_read_69 : decode c_Model_read 69 = .ok (.bipush (80), 2) := by decide +kernel
theorem d_Model_read_71 : decode c_Model_read 71 = .ok (.aload_n 0, 1) := by decide +kernel
theorem d_Model_read_72 : decode c_Model_read 72 = .ok (.getfield 208, 3) := by decide +kernel
theorem d_Model_read_75 : decode c_Model_read 75 = .ok (.imul, 1) := by decide +kernel
theorem d_Model_read_76 : decode c_Model_read 76 = .ok (.iload_n 3, 1) := by decide +kernel
theorem d_Model_read_77 : decode c_Model_read 77 = .ok (.iadd, 1) := by decide +kernel
theorem d_Model_read_78 : decode c_Model_read 78 = .ok (.aload_n 0, 1) := by decide +kernel
theorem d_Model_read_79 : decode c_Model_read 79 = .ok (.getfield 26, 3) := by decide +kernel
theorem d_Model_read_82 : decode c_Model_read 82 = .ok (.iload_n 3, 1) := by decide +kernel
theorem d_Model_read_83 : decode c_Model_read 83 = .ok (.caload, 1) := by decide +kernel
theorem d_Model_read_84 : decode c_Model_read 84 = .ok (.castore, 1) := by decide +kernel
theorem d_Model_read_85 : decode c_Model_read 85 = .ok (.iinc 3 (1), 3) := by decide +kernel
theorem d_Model_read_88 : decode c_Model_read 88 = .ok (.goto (-31), 3) := by decide +kernel
theorem d_Model_read_91 : decode c_Model_read 91 = .ok (.aload_n 0, 1) := by decide +kernel
theorem d_Model_read_92 : decode c_Model_read 92 = .ok (.getfield 66, 3) := by decide +kernel
theorem d_Model_read_95 : decode c_Model_read 95 = .ok (.aload_n 0, 1) := by decide +kernel
theorem d_Model_read_96 : decode c_Model_read 96 = .ok (.getfield 208, 3) := by decide +kernel
theorem d_Model_read_99 : decode c_Model_read 99 = .ok (.aload_n 0, 1) := by decide +kernel
theorem d_Model_read_100 : decode c_Model_read 100 = .ok (.getfield 177, 3) := by decide +kernel
theorem d_Model_read_103 : decode c_Model_read 103 = .ok (.iastore, 1) := by decide +kernel
theorem d_Model_read_104 : decode c_Model_read 104 = .ok (.aload_n 0, 1) := by decide +kernel
theorem d_Model_read_105 : decode c_Model_read 105 = .ok (.getfield 69, 3) := by decide +kernel
theorem d_Model_read_108 : decode c_Model_read 108 = .ok (.aload_n 0, 1) := by decide +kernel
theorem d_Model_read_109 : decode c_Model_read 109 = .ok (.getfield 208, 3) := by decide +kernel
theorem d_Model_read_112 : decode c_Model_read 112 = .ok (.aload_n 0, 1) := by decide +kernel
theorem d_Model_read_113 : decode c_Model_read 113 = .ok (.getfield 122, 3) := by decide +kernel
theorem d_Model_read_116 : decode c_Model_read 116 = .ok (.iastore, 1) := by decide +kernel
theorem d_Model_read_117 : decode c_Model_read 117 = .ok (.aload_n 0, 1) := by decide +kernel
theorem d_Model_read_118 : decode c_Model_read 118 = .ok (.getfield 72, 3) := by decide +kernel
theorem d_Model_read_121 : decode c_Model_read 121 = .ok (.aload_n 0, 1) := by decide +kernel
theorem d_Model_read_122 : decode c_Model_read 122 = .ok (.getfield 208, 3) := by decide +kernel
theorem d_Model_read_125 : decode c_Model_read 125 = .ok (.aload_n 0, 1) := by decide +kernel
theorem d_Model_read_126 : decode c_Model_read 126 = .ok (.getfield 128, 3) := by decide +kernel
theorem d_Model_read_129 : decode c_Model_read 129 = .ok (.iastore, 1) := by decide +kernel
theorem d_Model_read_130 : decode c_Model_read 130 = .ok (.aload_n 0, 1) := by decide +kernel
theorem d_Model_read_131 : decode c_Model_read 131 = .ok (.getfield 75, 3) := by decide +kernel
theorem d_Model_read_134 : decode c_Model_read 134 = .ok (.aload_n 0, 1) := by decide +kernel
theorem d_Model_read_135 : decode c_Model_read 135 = .ok (.getfield 208, 3) := by decide +kernel
theorem d_Model_read_138 : decode c_Model_read 138 = .ok (.aload_n 0, 1) := by decide +kernel
theorem d_Model_read_139 : decode c_Model_read 139 = .ok (.getfield 134, 3) := by decide +kernel
theorem d_Model_read_142 : decode c_Model_read 142 = .ok (.iastore, 1) := by decide +kernel
theorem d_Model_read_143 : decode c_Model_read 143 = .ok (.aload_n 0, 1) := by decide +kernel
theorem d_Model_read_144 : decode c_Model_read 144 = .ok (.dup, 1) := by decide +kernel
theorem d_Model_read_145 : decode c_Model_read 145 = .ok (.getfield 208, 3) := by decide +kernel
theorem d_Model_read_148 : decode c_Model_read 148 = .ok (.iconst 1, 1) := by decide +kernel
theorem d_Model_read_149 : decode c_Model_read 149 = .ok (.iadd, 1) := by decide +kernel
theorem d_Model_read_150 : decode c_Model_read 150 = .ok (.putfield 208, 3) := by decide +kernel
theorem d_Model_read_153 : decode c_Model_read 153 = .ok (.aload_n 0, 1) := by decide +kernel
theorem d_Model_read_154 : decode c_Model_read 154 = .ok (.getfield 208, 3) := by decide +kernel
theorem d_Model_read_157 : decode c_Model_read 157 = .ok (.iconst 1, 1) := by decide +kernel
theorem d_Model_read_158 : decode c_Model_read 158 = .ok (.isub, 1) := by decide +kernel
theorem d_Model_read_159 : decode c_Model_read 159 = .ok (.ireturn, 1) := by decide +kernel
def sh_Model_read_57 (F : Nat) : Nat → Nat → Int32 → im_W → Option (Int32 × im_W)
  | 0, _, _, _ => none
  | f + 1, x0, x3, w => (im_gI w 9 x0 13).bind fun f1 => (if f1 ≤ x3 then (im_gR w 9 x0 33).bind fun f3 => (im_gI w 9 x0 31).bind fun f5 => (im_gI w 9 x0 13).bind fun f7 => (im_sI w 0 f3 f5 f7).bind fun w9 => (im_gR w9 9 x0 34).bind fun f11 => (im_gI w9 9 x0 31).bind fun f13 => (im_gI w9 9 x0 2).bind fun f15 => (im_sI w9 0 f11 f13 f15).bind fun w17 => (im_gR w17 9 x0 35).bind fun f19 => (im_gI w17 9 x0 31).bind fun f21 => (im_gI w17 9 x0 3).bind fun f23 => (im_sI w17 0 f19 f21 f23).bind fun w25 => (im_gR w25 9 x0 36).bind fun f27 => (im_gI w25 9 x0 31).bind fun f29 => (im_gI w25 9 x0 4).bind fun f31 => (im_sI w25 0 f27 f29 f31).bind fun w33 => (im_gI w33 9 x0 31).bind fun f35 => (im_pV w33 9 x0 31 (.int (f35 + (1 : Int32)))).bind fun w37 => (im_gI w37 9 x0 31).bind fun f39 => some ((f39 - (1 : Int32)), w37) else (im_gR w 9 x0 32).bind fun f41 => (im_gI w 9 x0 31).bind fun f43 => (im_gR w 9 x0 14).bind fun f45 => (im_lI w 2 f45 x3).bind fun e47 => (im_sI w 2 f41 (((80 : Int32) * f43) + x3) (vp_nar .char e47)).bind fun w49 => (sh_Model_read_57 F f) x0 (x3 + (1 : Int32)) w49)
set_option maxHeartbeats 4000000 in
set_option maxRecDepth 100000 in
theorem bk_Model_read_57 {F : Nat} {r : Int32 × im_W} (X : im_X D vwCl tA lo im_NW c_Model_read 4 (some .int) RC_Model im_T p s m args meth c) : ∀ (f : Nat) (x0 : Nat) (x3 : Int32) (w : im_W), sh_Model_read_57 F f x0 x3 w = some r → im_WW D vwCl tA lo 4 p l e (im_rm 7 162) s m args below meth c 0 0 (MQ below (im_Post D vwCl tA lo (some (.int r.1)) r.2) args s 0 0 (fun q => lo ≤ q)) 57 [(0, .ref (lo + x0)), (3, .int x3)] [] w := by
  obtain ⟨hx, hb, hr, hts, hown, hlk, hml, hK, hN⟩ := id X
  intro f
  induction f with
  | zero =>
    intro x0 x3 w hsh
    cases hsh
  | succ f ih =>
    intro x0 x3 w hsh H locs ls hH hl
    unfold sh_Model_read_57 at hsh
    refine lv_iload_n hx hb d_Model_read_57 rfl (lv_at hl 1 rfl) ?_
    refine lv_aload_n hx hb d_Model_read_58 rfl (lv_at hl 0 rfl) ?_
    obtain ⟨f1, h2, hsh⟩ := im_bd hsh
    refine im_getI hx hb hts inC_Model hown hK hH (ci := 9) rfl 13 (by decide) (hts _ wd_644) rfl h2 d_Model_read_59 ?_
    refine lv_icmp_ge (tgt := 91) hx hb d_Model_read_62 (by decide) (fun cc => ?_) (fun cc => ?_)
    · have hsh := im_it hsh cc
      refine lv_aload_n hx hb d_Model_read_91 rfl (lv_at hl 0 rfl) ?_
      obtain ⟨f3, h4, hsh⟩ := im_bd hsh
      refine im_getR hx hb hts inC_Model hown hK hH (ci := 9) rfl 33 (by decide) (hts _ wd_664) rfl h4 d_Model_read_92 ?_
      refine lv_aload_n hx hb d_Model_read_95 rfl (lv_at hl 0 rfl) ?_
      obtain ⟨f5, h6, hsh⟩ := im_bd hsh
      refine im_getI hx hb hts inC_Model hown hK hH (ci := 9) rfl 31 (by decide) (hts _ wd_662) rfl h6 d_Model_read_96 ?_
      refine lv_aload_n hx hb d_Model_read_99 rfl (lv_at hl 0 rfl) ?_
      obtain ⟨f7, h8, hsh⟩ := im_bd hsh
      refine im_getI hx hb hts inC_Model hown hK hH (ci := 9) rfl 13 (by decide) (hts _ wd_644) rfl h8 d_Model_read_100 ?_
      obtain ⟨w9, h10, hsh⟩ := im_bd hsh
      refine im_iast hx hb hK hH h10 d_Model_read_103 (fun H locs hH => ?_)
      refine lv_aload_n hx hb d_Model_read_104 rfl (lv_at hl 0 rfl) ?_
      obtain ⟨f11, h12, hsh⟩ := im_bd hsh
      refine im_getR hx hb hts inC_Model hown hK hH (ci := 9) rfl 34 (by decide) (hts _ wd_665) rfl h12 d_Model_read_105 ?_
      refine lv_aload_n hx hb d_Model_read_108 rfl (lv_at hl 0 rfl) ?_
      obtain ⟨f13, h14, hsh⟩ := im_bd hsh
      refine im_getI hx hb hts inC_Model hown hK hH (ci := 9) rfl 31 (by decide) (hts _ wd_662) rfl h14 d_Model_read_109 ?_
      refine lv_aload_n hx hb d_Model_read_112 rfl (lv_at hl 0 rfl) ?_
      obtain ⟨f15, h16, hsh⟩ := im_bd hsh
      refine im_getI hx hb hts inC_Model hown hK hH (ci := 9) rfl 2 (by decide) (hts _ wd_633) rfl h16 d_Model_read_113 ?_
      obtain ⟨w17, h18, hsh⟩ := im_bd hsh
      refine im_iast hx hb hK hH h18 d_Model_read_116 (fun H locs hH => ?_)
      refine lv_aload_n hx hb d_Model_read_117 rfl (lv_at hl 0 rfl) ?_
      obtain ⟨f19, h20, hsh⟩ := im_bd hsh
      refine im_getR hx hb hts inC_Model hown hK hH (ci := 9) rfl 35 (by decide) (hts _ wd_666) rfl h20 d_Model_read_118 ?_
      refine lv_aload_n hx hb d_Model_read_121 rfl (lv_at hl 0 rfl) ?_
      obtain ⟨f21, h22, hsh⟩ := im_bd hsh
      refine im_getI hx hb hts inC_Model hown hK hH (ci := 9) rfl 31 (by decide) (hts _ wd_662) rfl h22 d_Model_read_122 ?_
      refine lv_aload_n hx hb d_Model_read_125 rfl (lv_at hl 0 rfl) ?_
      obtain ⟨f23, h24, hsh⟩ := im_bd hsh
      refine im_getI hx hb hts inC_Model hown hK hH (ci := 9) rfl 3 (by decide) (hts _ wd_634) rfl h24 d_Model_read_126 ?_
      obtain ⟨w25, h26, hsh⟩ := im_bd hsh
      refine im_iast hx hb hK hH h26 d_Model_read_129 (fun H locs hH => ?_)
      refine lv_aload_n hx hb d_Model_read_130 rfl (lv_at hl 0 rfl) ?_
      obtain ⟨f27, h28, hsh⟩ := im_bd hsh
      refine im_getR hx hb hts inC_Model hown hK hH (ci := 9) rfl 36 (by decide) (hts _ wd_667) rfl h28 d_Model_read_131 ?_
      refine lv_aload_n hx hb d_Model_read_134 rfl (lv_at hl 0 rfl) ?_
      obtain ⟨f29, h30, hsh⟩ := im_bd hsh
      refine im_getI hx hb hts inC_Model hown hK hH (ci := 9) rfl 31 (by decide) (hts _ wd_662) rfl h30 d_Model_read_135 ?_
      refine lv_aload_n hx hb d_Model_read_138 rfl (lv_at hl 0 rfl) ?_
      obtain ⟨f31, h32, hsh⟩ := im_bd hsh
      refine im_getI hx hb hts inC_Model hown hK hH (ci := 9) rfl 4 (by decide) (hts _ wd_635) rfl h32 d_Model_read_139 ?_
      obtain ⟨w33, h34, hsh⟩ := im_bd hsh
      refine im_iast hx hb hK hH h34 d_Model_read_142 (fun H locs hH => ?_)
      refine lv_aload_n hx hb d_Model_read_143 rfl (lv_at hl 0 rfl) ?_
      refine lv_dup hx hb d_Model_read_144 rfl ?_
      obtain ⟨f35, h36, hsh⟩ := im_bd hsh
      refine im_getI hx hb hts inC_Model hown hK hH (ci := 9) rfl 31 (by decide) (hts _ wd_662) rfl h36 d_Model_read_145 ?_
      refine lv_iconst (v := 1) hx hb d_Model_read_148 (by decide) ?_
      refine lv_iadd hx hb d_Model_read_149 ?_
      obtain ⟨w37, h38, hsh⟩ := im_bd hsh
      refine im_put (v := .int (f35 + (1 : Int32))) hx hb hts inC_Model tyC_Model tyC_Model_ok nmC_Model hown hK hH (ci := 9) rfl 31 (by decide) (hts _ wd_662) rfl rfl rfl rfl h38 d_Model_read_150 (fun H locs hH => ?_)
      refine lv_aload_n hx hb d_Model_read_153 rfl (lv_at hl 0 rfl) ?_
      obtain ⟨f39, h40, hsh⟩ := im_bd hsh
      refine im_getI hx hb hts inC_Model hown hK hH (ci := 9) rfl 31 (by decide) (hts _ wd_662) rfl h40 d_Model_read_154 ?_
      refine lv_iconst (v := 1) hx hb d_Model_read_157 (by decide) ?_
      refine lv_isub hx hb d_Model_read_158 ?_
      obtain rfl := Option.some.inj hsh
      exact im_iret hx hb hr hlk hH d_Model_read_159
    · have hsh := im_if hsh cc
      refine lv_aload_n hx hb d_Model_read_65 rfl (lv_at hl 0 rfl) ?_
      obtain ⟨f41, h42, hsh⟩ := im_bd hsh
      refine im_getR hx hb hts inC_Model hown hK hH (ci := 9) rfl 32 (by decide) (hts _ wd_663) rfl h42 d_Model_read_66 ?_
      refine lv_bipush (v := 80) hx hb d_Model_read_69 (by decide) ?_
      refine lv_aload_n hx hb d_Model_read_71 rfl (lv_at hl 0 rfl) ?_
      obtain ⟨f43, h44, hsh⟩ := im_bd hsh
      refine im_getI hx hb hts inC_Model hown hK hH (ci := 9) rfl 31 (by decide) (hts _ wd_662) rfl h44 d_Model_read_72 ?_
      refine lv_imul hx hb d_Model_read_75 ?_
      refine lv_iload_n hx hb d_Model_read_76 rfl (lv_at hl 1 rfl) ?_
      refine lv_iadd hx hb d_Model_read_77 ?_
      refine lv_aload_n hx hb d_Model_read_78 rfl (lv_at hl 0 rfl) ?_
      obtain ⟨f45, h46, hsh⟩ := im_bd hsh
      refine im_getR hx hb hts inC_Model hown hK hH (ci := 9) rfl 14 (by decide) (hts _ wd_645) rfl h46 d_Model_read_79 ?_
      refine lv_iload_n hx hb d_Model_read_82 rfl (lv_at hl 1 rfl) ?_
      obtain ⟨e47, h48, hsh⟩ := im_bd hsh
      refine im_cald hx hb hK hH h48 d_Model_read_83 ?_
      obtain ⟨w49, h50, hsh⟩ := im_bd hsh
      refine im_cast hx hb hK hH h50 d_Model_read_84 (fun H locs hH => ?_)
      refine lv_iinc (v := (x3 + (1 : Int32))) (lv' := [(3, .int (x3 + (1 : Int32))), (0, .ref (lo + x0))]) hx hb d_Model_read_85 hl (k := 1) rfl rfl (by decide) rfl (fun ls hl => ?_)
      refine lv_goto (tgt := 57) hx hb d_Model_read_88 (by decide) ?_
      exact ih x0 (x3 + (1 : Int32)) w49 hsh H locs ls hH (lv_sub hl [1, 0] rfl)
def sh_Model_read_44 (F : Nat) (x0 : Nat) (x2 : Int32) (w : im_W) : Option (Int32 × im_W) :=
  (im_pV w 9 x0 0 (.int (0 : Int32))).bind fun w1 => (if x2 < 0 then sh_Model_read_57 F F x0 (0 : Int32) w1 else some (x2, w1))
set_option maxHeartbeats 4000000 in
set_option maxRecDepth 100000 in
theorem bk_Model_read_44 {F : Nat} {r : Int32 × im_W} (X : im_X D vwCl tA lo im_NW c_Model_read 4 (some .int) RC_Model im_T p s m args meth c) (x0 : Nat) (x2 : Int32) (w : im_W) (hsh : sh_Model_read_44 F x0 x2 w = some r) : im_WW D vwCl tA lo 4 p l e (im_rm 7 162) s m args below meth c 0 0 (MQ below (im_Post D vwCl tA lo (some (.int r.1)) r.2) args s 0 0 (fun q => lo ≤ q)) 44 [(0, .ref (lo + x0)), (2, .int x2)] [] w := by
  obtain ⟨hx, hb, hr, hts, hown, hlk, hml, hK, hN⟩ := id X
  intro H locs ls hH hl
  unfold sh_Model_read_44 at hsh
  refine lv_aload_n hx hb d_Model_read_44 rfl (lv_at hl 0 rfl) ?_
  refine lv_iconst (v := 0) hx hb d_Model_read_45 (by decide) ?_
  obtain ⟨w1, h2, hsh⟩ := im_bd hsh
  refine im_put (v := .int (0 : Int32)) hx hb hts inC_Model tyC_Model tyC_Model_ok nmC_Model hown hK hH (ci := 9) rfl 0 (by decide) (hts _ wd_631) rfl rfl rfl rfl h2 d_Model_read_46 (fun H locs hH => ?_)
  refine lv_iload_n hx hb d_Model_read_49 rfl (lv_at hl 1 rfl) ?_
  refine lv_if_lt (tgt := 55) hx hb d_Model_read_50 (by decide) (fun cc => ?_) (fun cc => ?_)
  · have hsh := im_it hsh cc
    refine lv_iconst (v := 0) hx hb d_Model_read_55 (by decide) ?_
    refine lv_istore_n (lv' := [(3, .int (0 : Int32)), (0, .ref (lo + x0)), (2, .int x2)]) hx hb d_Model_read_56 rfl hl (by decide) rfl (fun ls hl => ?_)
    exact bk_Model_read_57 X F x0 (0 : Int32) w1 hsh H locs ls hH (lv_sub hl [1, 0] rfl)
  · have hsh := im_if hsh cc
    refine lv_iload_n hx hb d_Model_read_53 rfl (lv_at hl 1 rfl) ?_
    obtain rfl := Option.some.inj hsh
    exact im_iret hx hb hr hlk hH d_Model_read_54
def sh_Model_read (F : Nat) (x0 : Nat) (w : im_W) : Option (Int32 × im_W) :=
  (im_gI w 9 x0 0).bind fun f1 => (im_is w 9 x0).bind fun u3 => im_b2 (sh_Model_parse F x0 (0 : Int32) f1 w) fun v9 w7 => (if v9 < 0 then (im_is w7 9 x0).bind fun u10 => (sh_Model_makeForm F x0 w7).bind fun w14 => (im_is w14 9 x0).bind fun u16 => im_b2 (sh_Model_find F x0 w14) fun v22 w20 => (if 0 ≤ v22 then sh_Model_read_44 F x0 v22 w20 else (im_gI w20 9 x0 31).bind fun f23 => (if f23 = (16 : Int32) then some ((-1 : Int32), w20) else sh_Model_read_44 F x0 v22 w20)) else some (((-1000 : Int32) - v9), w7))
set_option maxHeartbeats 4000000 in
set_option maxRecDepth 100000 in
theorem met_Model_read {F : Nat} {x0 : Nat} {w : im_W} {r : Int32 × im_W} (hsh : sh_Model_read F x0 w = some r) : Met l y_Model_read (Cond.code y_Model_read c_Model_read 4 (some .int) :: im_T) (im_rm 7 162) (im_Pre D vwCl tA lo im_NW [.ref (lo + x0)] w) (im_Post D vwCl tA lo (some (.int r.1)) r.2) 0 0 (fun q => lo ≤ q) := by
  refine im_ofW (cc := c_Model_read) (nL := 4) (ret := (some .int)) (by decide) (Nat.le_of_ble_eq_true rfl) ?_
  intro p e s m args below meth c X H locs ls hH hl
  obtain ⟨hx, hb, hr, hts, hown, hlk, hml, hK, hN⟩ := id X
  have hl : lv_has ls 4 [(0, .ref (lo + x0))] := hl
  unfold sh_Model_read at hsh
  refine lv_aload_n hx hb d_Model_read_0 rfl (lv_at hl 0 rfl) ?_
  refine lv_iconst (v := 0) hx hb d_Model_read_1 (by decide) ?_
  refine lv_aload_n hx hb d_Model_read_2 rfl (lv_at hl 0 rfl) ?_
  obtain ⟨f1, h2, hsh⟩ := im_bd hsh
  refine im_getI hx hb hts inC_Model hown hK hH (ci := 9) rfl 0 (by decide) (hts _ wd_631) rfl h2 d_Model_read_3 ?_
  obtain ⟨u3, h4, hsh⟩ := im_bd hsh
  obtain ⟨g5, h6⟩ := im_is_s h4
  obtain ⟨v9, w7, h8, hsh⟩ := im_bd2 hsh
  refine im_afterI (va_runV (As := [.int (0 : Int32), .int f1]) (rest := []) (C := RC_Model) ⟨hx, hb, hml, hown, hts⟩ (met_Model_parse h8) ⟨(callB_of 2 hts (im_good wd_827) rfl rfl rfl (hts _ wd_10) (hts _ wd_824) (by decide +kernel) ⟨Nat.le_of_ble_eq_true rfl, Nat.le_of_ble_eq_true rfl⟩), hts _ wd_826, hts _ sl_Model_parse⟩ (im_preV im_NW_ok hK hN hH (ci := 9) rfl rfl h6 _) rfl rfl hl.1 rfl (lv_room (Nat.le_of_ble_eq_true rfl)) d_Model_read_6 ⟨Nat.le_of_ble_eq_true rfl, Nat.le_of_ble_eq_true rfl⟩) hH (fun H locs hH => ?_)
  refine lv_istore_n (lv' := [(1, .int v9), (0, .ref (lo + x0))]) hx hb d_Model_read_9 rfl hl (by decide) rfl (fun ls hl => ?_)
  refine lv_iload_n hx hb d_Model_read_10 rfl (lv_at hl 0 rfl) ?_
  refine lv_if_lt (tgt := 20) hx hb d_Model_read_11 (by decide) (fun cc => ?_) (fun cc => ?_)
  · have hsh := im_it hsh cc
    refine lv_aload_n hx hb d_Model_read_20 rfl (lv_at hl 1 rfl) ?_
    obtain ⟨u10, h11, hsh⟩ := im_bd hsh
    obtain ⟨g12, h13⟩ := im_is_s h11
    obtain ⟨w14, h15, hsh⟩ := im_bd hsh
    refine im_afterV (va_runV (As := []) (rest := []) (C := RC_Model) ⟨hx, hb, hml, hown, hts⟩ (met_Model_makeForm h15) ⟨(callB_of 0 hts (im_good wd_859) rfl rfl rfl (hts _ wd_10) (hts _ wd_856) (by decide +kernel) ⟨Nat.le_of_ble_eq_true rfl, Nat.le_of_ble_eq_true rfl⟩), hts _ wd_858, hts _ sl_Model_makeForm⟩ (im_preV im_NW_ok hK hN hH (ci := 9) rfl rfl h13 _) rfl rfl hl.1 rfl (lv_room (Nat.le_of_ble_eq_true rfl)) d_Model_read_21 ⟨Nat.le_of_ble_eq_true rfl, Nat.le_of_ble_eq_true rfl⟩) hH (fun H locs hH => ?_)
    refine lv_aload_n hx hb d_Model_read_24 rfl (lv_at hl 1 rfl) ?_
    obtain ⟨u16, h17, hsh⟩ := im_bd hsh
    obtain ⟨g18, h19⟩ := im_is_s h17
    obtain ⟨v22, w20, h21, hsh⟩ := im_bd2 hsh
    refine im_afterI (va_runV (As := []) (rest := []) (C := RC_Model) ⟨hx, hb, hml, hown, hts⟩ (met_Model_find h21) ⟨(callB_of 0 hts (im_good wd_895) rfl rfl rfl (hts _ wd_10) (hts _ wd_892) (by decide +kernel) ⟨Nat.le_of_ble_eq_true rfl, Nat.le_of_ble_eq_true rfl⟩), hts _ wd_894, hts _ sl_Model_find⟩ (im_preV im_NW_ok hK hN hH (ci := 9) rfl rfl h19 _) rfl rfl hl.1 rfl (lv_room (Nat.le_of_ble_eq_true rfl)) d_Model_read_25 ⟨Nat.le_of_ble_eq_true rfl, Nat.le_of_ble_eq_true rfl⟩) hH (fun H locs hH => ?_)
    refine lv_istore_n (lv' := [(2, .int v22), (1, .int v9), (0, .ref (lo + x0))]) hx hb d_Model_read_28 rfl hl (by decide) rfl (fun ls hl => ?_)
    refine lv_iload_n hx hb d_Model_read_29 rfl (lv_at hl 0 rfl) ?_
    refine lv_if_ge (tgt := 44) hx hb d_Model_read_30 (by decide) (fun cc => ?_) (fun cc => ?_)
    · have hsh := im_it hsh cc
      exact bk_Model_read_44 X x0 v22 w20 hsh H locs ls hH (lv_sub hl [2, 0] rfl)
    · have hsh := im_if hsh cc
      refine lv_aload_n hx hb d_Model_read_33 rfl (lv_at hl 2 rfl) ?_
      obtain ⟨f23, h24, hsh⟩ := im_bd hsh
      refine im_getI hx hb hts inC_Model hown hK hH (ci := 9) rfl 31 (by decide) (hts _ wd_662) rfl h24 d_Model_read_34 ?_
      refine lv_bipush (v := 16) hx hb d_Model_read_37 (by decide) ?_
      refine lv_icmp_ne (tgt := 44) hx hb d_Model_read_39 (by decide) (fun cc => ?_) (fun cc => ?_)
      · have hsh := im_if hsh cc
        exact bk_Model_read_44 X x0 v22 w20 hsh H locs ls hH (lv_sub hl [2, 0] rfl)
      · have hsh := im_it hsh cc
        refine lv_iconst (v := -1) hx hb d_Model_read_42 (by decide) ?_
        obtain rfl := Option.some.inj hsh
        exact im_iret hx hb hr hlk hH d_Model_read_43
  · have hsh := im_if hsh cc
    refine lv_sipush (v := -1000) hx hb d_Model_read_14 (by decide) ?_
    refine lv_iload_n hx hb d_Model_read_17 rfl (lv_at hl 0 rfl) ?_
    refine lv_isub hx hb d_Model_read_18 ?_
    obtain rfl := Option.some.inj hsh
    exact im_iret hx hb hr hlk hH d_Model_read_19
theorem d_Model_plain_0 : decode c_Model_plain 0 = .ok (.aload_n 0, 1) := by decide +kernel
theorem d_Model_plain_1 : decode c_Model_plain 1 = .ok (.getfield 154, 3) := by decide +kernel
theorem d_Model_plain_4 : decode c_Model_plain 4 = .ok (.ifCond .ne (21), 3) := by decide +kernel
theorem d_Model_plain_7 : decode c_Model_plain 7 = .ok (.aload_n 0, 1) := by decide +kernel
theorem d_Model_plain_8 : decode c_Model_plain 8 = .ok (.getfield 161, 3) := by decide +kernel
theorem d_Model_plain_11 : decode c_Model_plain 11 = .ok (.ifCond .ne (14), 3) := by decide +kernel
theorem d_Model_plain_14 : decode c_Model_plain 14 = .ok (.aload_n 0, 1) := by decide +kernel
theorem d_Model_plain_15 : decode c_Model_plain 15 = .ok (.getfield 141, 3) := by decide +kernel
theorem d_Model_plain_18 : decode c_Model_plain 18 = .ok (.ifCond .ge (7), 3) := by decide +kernel
theorem d_Model_plain_21 : decode c_Model_plain 21 = .ok (.iconst 1, 1) := by decide +kernel
theorem d_Model_plain_22 : decode c_Model_plain 22 = .ok (.goto (4), 3) := by decide +kernel
theorem d_Model_plain_25 : decode c_Model_plain 25 = .ok (.iconst 0, 1) := by decide +kernel
theorem d_Model_plain_26 : decode c_Model_plain 26 = .ok (.ireturn, 1) := by decide +kernel
def sh_Model_plain_26 (F : Nat) (y0 : Int32) (w : im_W) : Option (Int32 × im_W) :=
  im_rz y0 w
set_option maxHeartbeats 4000000 in
set_option maxRecDepth 100000 in
theorem bk_Model_plain_26 {F : Nat} {r : Int32 × im_W} (X : im_X D vwCl tA lo im_NW c_Model_plain 1 (some .boolean) RC_Model im_T p s m args meth c) (y0 : Int32) (w : im_W) (hsh : sh_Model_plain_26 F y0 w = some r) : im_WW D vwCl tA lo 1 p l e (im_rm 0 0) s m args below meth c 0 0 (MQ below (im_Post D vwCl tA lo (some (.int r.1)) r.2) args s 0 0 (fun q => lo ≤ q)) 26 [] [.int y0] w := by
  obtain ⟨hx, hb, hr, hts, hown, hlk, hml, hK, hN⟩ := id X
  intro H locs ls hH hl
  unfold sh_Model_plain_26 at hsh
  obtain ⟨rfl, hn⟩ := im_rz_s hsh
  exact im_zret hx hb hr hlk hn hH d_Model_plain_26
def sh_Model_plain_25 (F : Nat)  (w : im_W) : Option (Int32 × im_W) :=
  sh_Model_plain_26 F (0 : Int32) w
set_option maxHeartbeats 4000000 in
set_option maxRecDepth 100000 in
theorem bk_Model_plain_25 {F : Nat} {r : Int32 × im_W} (X : im_X D vwCl tA lo im_NW c_Model_plain 1 (some .boolean) RC_Model im_T p s m args meth c)  (w : im_W) (hsh : sh_Model_plain_25 F w = some r) : im_WW D vwCl tA lo 1 p l e (im_rm 0 0) s m args below meth c 0 0 (MQ below (im_Post D vwCl tA lo (some (.int r.1)) r.2) args s 0 0 (fun q => lo ≤ q)) 25 [] [] w := by
  obtain ⟨hx, hb, hr, hts, hown, hlk, hml, hK, hN⟩ := id X
  intro H locs ls hH hl
  unfold sh_Model_plain_25 at hsh
  refine lv_iconst (v := 0) hx hb d_Model_plain_25 (by decide) ?_
  exact bk_Model_plain_26 X (0 : Int32) w hsh H locs ls hH (lv_sub hl [] rfl)
def sh_Model_plain (F : Nat) (x0 : Nat) (w : im_W) : Option (Int32 × im_W) :=
  (im_gI w 9 x0 5).bind fun f1 => (if f1 = 0 then (im_gI w 9 x0 8).bind fun f3 => (if f3 = 0 then (im_gI w 9 x0 11).bind fun f5 => (if 0 ≤ f5 then sh_Model_plain_25 F w else sh_Model_plain_26 F (1 : Int32) w) else sh_Model_plain_25 F w) else sh_Model_plain_25 F w)
set_option maxHeartbeats 4000000 in
set_option maxRecDepth 100000 in
theorem met_Model_plain {F : Nat} {x0 : Nat} {w : im_W} {r : Int32 × im_W} (hsh : sh_Model_plain F x0 w = some r) : Met l y_Model_plain (Cond.code y_Model_plain c_Model_plain 1 (some .boolean) :: im_T) (im_rm 0 0) (im_Pre D vwCl tA lo im_NW [.ref (lo + x0)] w) (im_Post D vwCl tA lo (some (.int r.1)) r.2) 0 0 (fun q => lo ≤ q) := by
  refine im_ofW (cc := c_Model_plain) (nL := 1) (ret := (some .boolean)) (by decide) (Nat.le_of_ble_eq_true rfl) ?_
  intro p e s m args below meth c X H locs ls hH hl
  obtain ⟨hx, hb, hr, hts, hown, hlk, hml, hK, hN⟩ := id X
  have hl : lv_has ls 1 [(0, .ref (lo + x0))] := hl
  unfold sh_Model_plain at hsh
  refine lv_aload_n hx hb d_Model_plain_0 rfl (lv_at hl 0 rfl) ?_
  obtain ⟨f1, h2, hsh⟩ := im_bd hsh
  refine im_getI hx hb hts inC_Model hown hK hH (ci := 9) rfl 5 (by decide) (hts _ wd_636) rfl h2 d_Model_plain_1 ?_
  refine lv_if_ne (tgt := 25) hx hb d_Model_plain_4 (by decide) (fun cc => ?_) (fun cc => ?_)
  · have hsh := im_if hsh cc
    exact bk_Model_plain_25 X w hsh H locs ls hH (lv_sub hl [] rfl)
  · have hsh := im_it hsh cc
    refine lv_aload_n hx hb d_Model_plain_7 rfl (lv_at hl 0 rfl) ?_
    obtain ⟨f3, h4, hsh⟩ := im_bd hsh
    refine im_getI hx hb hts inC_Model hown hK hH (ci := 9) rfl 8 (by decide) (hts _ wd_639) rfl h4 d_Model_plain_8 ?_
    refine lv_if_ne (tgt := 25) hx hb d_Model_plain_11 (by decide) (fun cc => ?_) (fun cc => ?_)
    · have hsh := im_if hsh cc
      exact bk_Model_plain_25 X w hsh H locs ls hH (lv_sub hl [] rfl)
    · have hsh := im_it hsh cc
      refine lv_aload_n hx hb d_Model_plain_14 rfl (lv_at hl 0 rfl) ?_
      obtain ⟨f5, h6, hsh⟩ := im_bd hsh
      refine im_getI hx hb hts inC_Model hown hK hH (ci := 9) rfl 11 (by decide) (hts _ wd_642) rfl h6 d_Model_plain_15 ?_
      refine lv_if_ge (tgt := 25) hx hb d_Model_plain_18 (by decide) (fun cc => ?_) (fun cc => ?_)
      · have hsh := im_it hsh cc
        exact bk_Model_plain_25 X w hsh H locs ls hH (lv_sub hl [] rfl)
      · have hsh := im_if hsh cc
        refine lv_iconst (v := 1) hx hb d_Model_plain_21 (by decide) ?_
        refine lv_goto (tgt := 26) hx hb d_Model_plain_22 (by decide) ?_
        exact bk_Model_plain_26 X (1 : Int32) w hsh H locs ls hH (lv_sub hl [] rfl)
theorem wd_653 : (Jvm.Cond.fieldLink "LanguageTagsModel" (45 : Nat) "LanguageTagsModel" "fromLanguage" "[I") ∈ im_T := im_memT (i := 653) (by decide +kernel) (by decide +kernel)
theorem wd_654 : (Jvm.Cond.fieldLink "LanguageTagsModel" (48 : Nat) "LanguageTagsModel" "fromScript" "[I") ∈ im_T := im_memT (i := 654) (by decide +kernel) (by decide +kernel)
theorem wd_655 : (Jvm.Cond.fieldLink "LanguageTagsModel" (51 : Nat) "LanguageTagsModel" "fromRegion" "[I") ∈ im_T := im_memT (i := 655) (by decide +kernel) (by decide +kernel)
theorem d_Model_leads_0 : decode c_Model_leads 0 = .ok (.bipush (10), 2) := by decide +kernel
theorem d_Model_leads_2 : decode c_Model_leads 2 = .ok (.iload_n 1, 1) := by decide +kernel
theorem d_Model_leads_3 : decode c_Model_leads 3 = .ok (.imul, 1) := by decide +kernel
theorem d_Model_leads_4 : decode c_Model_leads 4 = .ok (.istore 5, 2) := by decide +kernel
theorem d_Model_leads_6 : decode c_Model_leads 6 = .ok (.iload 5, 2) := by decide +kernel
theorem d_Model_leads_8 : decode c_Model_leads 8 = .ok (.bipush (10), 2) := by decide +kernel
theorem d_Model_leads_10 : decode c_Model_leads 10 = .ok (.iload_n 1, 1) := by decide +kernel
theorem d_Model_leads_11 : decode c_Model_leads 11 = .ok (.imul, 1) := by decide +kernel
theorem d_Model_leads_12 : decode c_Model_leads 12 = .ok (.aload_n 0, 1) := by decide +kernel
theorem d_Model_leads_13 : decode c_Model_leads 13 = .ok (.getfield 42, 3) := by decide +kernel
theorem d_Model_leads_16 : decode c_Model_leads 16 = .ok (.iload_n 1, 1) := by decide +kernel
theorem d_Model_leads_17 : decode c_Model_leads 17 = .ok (.iaload, 1) := by decide +kernel
theorem d_Model_leads_18 : decode c_Model_leads 18 = .ok (.iadd, 1) := by decide +kernel
theorem d_Model_leads_19 : decode c_Model_leads 19 = .ok (.if_icmp .ge (46), 3) := by decide +kernel
theorem d_Model_leads_22 : decode c_Model_leads 22 = .ok (.aload_n 0, 1) := by decide +kernel
theorem d_Model_leads_23 : decode c_Model_leads 23 = .ok (.getfield 45, 3) := by decide +kernel
theorem d_Model_leads_26 : decode c_Model_leads 26 = .ok (.iload 5, 2) := by decide +kernel
theorem d_Model_leads_28 : decode c_Model_leads 28 = .ok (.iaload, 1) := by decide +kernel
theorem d_Model_leads_29 : decode c_Model_leads 29 = .ok (.iload_n 2, 1) := by decide +kernel
theorem d_Model_leads_30 : decode c_Model_leads 30 = .ok (.if_icmp .ne (29), 3) := by decide +kernel
theorem d_Model_leads_33 : decode c_Model_leads 33 = .ok (.aload_n 0, 1) := by decide +kernel
theorem d_Model_leads_34 : decode c_Model_leads 34 = .ok (.getfield 48, 3) := by decide +kernel
theorem d_Model_leads_37 : decode c_Model_leads 37 = .ok (.iload 5, 2) := by decide +kernel
theorem d_Model_leads_39 : decode c_Model_leads 39 = .ok (.iaload, 1) := by decide +kernel
theorem d_Model_leads_40 : decode c_Model_leads 40 = .ok (.iload_n 3, 1) := by decide +kernel
theorem d_Model_leads_41 : decode c_Model_leads 41 = .ok (.if_icmp .ne (18), 3) := by decide +kernel
theorem d_Model_leads_44 : decode c_Model_leads 44 = .ok (.aload_n 0, 1) := by decide +kernel
theorem d_Model_leads_45 : decode c_Model_leads 45 = .ok (.getfield 51, 3) := by decide +kernel
theorem d_Model_leads_48 : decode c_Model_leads 48 = .ok (.iload 5, 2) := by decide +kernel
theorem d_Model_leads_50 : decode c_Model_leads 50 = .ok (.iaload, 1) := by decide +kernel
theorem d_Model_leads_51 : decode c_Model_leads 51 = .ok (.iload 4, 2) := by decide +kernel
theorem d_Model_leads_53 : decode c_Model_leads 53 = .ok (.if_icmp .ne (6), 3) := by decide +kernel
theorem d_Model_leads_56 : decode c_Model_leads 56 = .ok (.iload 5, 2) := by decide +kernel
theorem d_Model_leads_58 : decode c_Model_leads 58 = .ok (.ireturn, 1) := by decide +kernel
theorem d_Model_leads_59 : decode c_Model_leads 59 = .ok (.iinc 5 (1), 3) := by decide +kernel
theorem d_Model_leads_62 : decode c_Model_leads 62 = .ok (.goto (-56), 3) := by decide +kernel
theorem d_Model_leads_65 : decode c_Model_leads 65 = .ok (.iconst (-1), 1) := by decide +kernel
theorem d_Model_leads_66 : decode c_Model_leads 66 = .ok (.ireturn, 1) := by decide +kernel
def sh_Model_leads_59 (F : Nat) (k6 : Nat → Int32 → Int32 → Int32 → Int32 → Int32 → im_W → Option (Int32 × im_W)) (x0 : Nat) (x1 : Int32) (x2 : Int32) (x3 : Int32) (x4 : Int32) (x5 : Int32) (w : im_W) : Option (Int32 × im_W) :=
  k6 x0 x1 x2 x3 x4 (x5 + (1 : Int32)) w
set_option maxHeartbeats 4000000 in
set_option maxRecDepth 100000 in
theorem bk_Model_leads_59 {F : Nat} {r : Int32 × im_W} (X : im_X D vwCl tA lo im_NW c_Model_leads 6 (some .int) RC_Model im_T p s m args meth c) {k6 : Nat → Int32 → Int32 → Int32 → Int32 → Int32 → im_W → Option (Int32 × im_W)} (hk6 : ∀ (x0 : Nat) (x1 : Int32) (x2 : Int32) (x3 : Int32) (x4 : Int32) (x5 : Int32) (w : im_W), k6 x0 x1 x2 x3 x4 x5 w = some r → im_WW D vwCl tA lo 6 p l e (im_rm 0 0) s m args below meth c 0 0 (MQ below (im_Post D vwCl tA lo (some (.int r.1)) r.2) args s 0 0 (fun q => lo ≤ q)) 6 [(0, .ref (lo + x0)), (1, .int x1), (2, .int x2), (3, .int x3), (4, .int x4), (5, .int x5)] [] w) (x0 : Nat) (x1 : Int32) (x2 : Int32) (x3 : Int32) (x4 : Int32) (x5 : Int32) (w : im_W) (hsh : sh_Model_leads_59 F k6 x0 x1 x2 x3 x4 x5 w = some r) : im_WW D vwCl tA lo 6 p l e (im_rm 0 0) s m args below meth c 0 0 (MQ below (im_Post D vwCl tA lo (some (.int r.1)) r.2) args s 0 0 (fun q => lo ≤ q)) 59 [(0, .ref (lo + x0)), (1, .int x1), (2, .int x2), (3, .int x3), (4, .int x4), (5, .int x5)] [] w := by
  obtain ⟨hx, hb, hr, hts, hown, hlk, hml, hK, hN⟩ := id X
  intro H locs ls hH hl
  unfold sh_Model_leads_59 at hsh
  refine lv_iinc (v := (x5 + (1 : Int32))) (lv' := [(5, .int (x5 + (1 : Int32))), (0, .ref (lo + x0)), (1, .int x1), (2, .int x2), (3, .int x3), (4, .int x4)]) hx hb d_Model_leads_59 hl (k := 5) rfl rfl (by decide) rfl (fun ls hl => ?_)
  refine lv_goto (tgt := 6) hx hb d_Model_leads_62 (by decide) ?_
  exact hk6 x0 x1 x2 x3 x4 (x5 + (1 : Int32)) w hsh H locs ls hH (lv_sub hl [1, 2, 3, 4, 5, 0] rfl)
def sh_Model_leads_6 (F : Nat) : Nat → Nat → Int32 → Int32 → Int32 → Int32 → Int32 → im_W → Option (Int32 × im_W)
  | 0, _, _, _, _, _, _, _ => none
  | f + 1, x0, x1, x2, x3, x4, x5, w => (im_gR w 9 x0 21).bind fun f1 => (im_lI w 0 f1 x1).bind fun e3 => (if (((10 : Int32) * x1) + e3) ≤ x5 then some ((-1 : Int32), w) else (im_gR w 9 x0 22).bind fun f5 => (im_lI w 0 f5 x5).bind fun e7 => (if e7 = x2 then (im_gR w 9 x0 23).bind fun f9 => (im_lI w 0 f9 x5).bind fun e11 => (if e11 = x3 then (im_gR w 9 x0 24).bind fun f13 => (im_lI w 0 f13 x5).bind fun e15 => (if e15 = x4 then some (x5, w) else sh_Model_leads_59 F (sh_Model_leads_6 F f) x0 x1 x2 x3 x4 x5 w) else sh_Model_leads_59 F (sh_Model_leads_6 F f) x0 x1 x2 x3 x4 x5 w) else sh_Model_leads_59 F (sh_Model_leads_6 F f) x0 x1 x2 x3 x4 x5 w))
set_option maxHeartbeats 4000000 in
set_option maxRecDepth 100000 in
theorem bk_Model_leads_6 {F : Nat} {r : Int32 × im_W} (X : im_X D vwCl tA lo im_NW c_Model_leads 6 (some .int) RC_Model im_T p s m args meth c) : ∀ (f : Nat) (x0 : Nat) (x1 : Int32) (x2 : Int32) (x3 : Int32) (x4 : Int32) (x5 : Int32) (w : im_W), sh_Model_leads_6 F f x0 x1 x2 x3 x4 x5 w = some r → im_WW D vwCl tA lo 6 p l e (im_rm 0 0) s m args below meth c 0 0 (MQ below (im_Post D vwCl tA lo (some (.int r.1)) r.2) args s 0 0 (fun q => lo ≤ q)) 6 [(0, .ref (lo + x0)), (1, .int x1), (2, .int x2), (3, .int x3), (4, .int x4), (5, .int x5)] [] w := by
  obtain ⟨hx, hb, hr, hts, hown, hlk, hml, hK, hN⟩ := id X
  intro f
  induction f with
  | zero =>
    intro x0 x1 x2 x3 x4 x5 w hsh
    cases hsh
  | succ f ih =>
    intro x0 x1 x2 x3 x4 x5 w hsh H locs ls hH hl
    unfold sh_Model_leads_6 at hsh
    refine lv_iload hx hb d_Model_leads_6 (lv_at hl 5 rfl) ?_
    refine lv_bipush (v := 10) hx hb d_Model_leads_8 (by decide) ?_
    refine lv_iload_n hx hb d_Model_leads_10 rfl (lv_at hl 1 rfl) ?_
    refine lv_imul hx hb d_Model_leads_11 ?_
    refine lv_aload_n hx hb d_Model_leads_12 rfl (lv_at hl 0 rfl) ?_
    obtain ⟨f1, h2, hsh⟩ := im_bd hsh
    refine im_getR hx hb hts inC_Model hown hK hH (ci := 9) rfl 21 (by decide) (hts _ wd_652) rfl h2 d_Model_leads_13 ?_
    refine lv_iload_n hx hb d_Model_leads_16 rfl (lv_at hl 1 rfl) ?_
    obtain ⟨e3, h4, hsh⟩ := im_bd hsh
    refine im_iald hx hb hK hH h4 d_Model_leads_17 ?_
    refine lv_iadd hx hb d_Model_leads_18 ?_
    refine lv_icmp_ge (tgt := 65) hx hb d_Model_leads_19 (by decide) (fun cc => ?_) (fun cc => ?_)
    · have hsh := im_it hsh cc
      refine lv_iconst (v := -1) hx hb d_Model_leads_65 (by decide) ?_
      obtain rfl := Option.some.inj hsh
      exact im_iret hx hb hr hlk hH d_Model_leads_66
    · have hsh := im_if hsh cc
      refine lv_aload_n hx hb d_Model_leads_22 rfl (lv_at hl 0 rfl) ?_
      obtain ⟨f5, h6, hsh⟩ := im_bd hsh
      refine im_getR hx hb hts inC_Model hown hK hH (ci := 9) rfl 22 (by decide) (hts _ wd_653) rfl h6 d_Model_leads_23 ?_
      refine lv_iload hx hb d_Model_leads_26 (lv_at hl 5 rfl) ?_
      obtain ⟨e7, h8, hsh⟩ := im_bd hsh
      refine im_iald hx hb hK hH h8 d_Model_leads_28 ?_
      refine lv_iload_n hx hb d_Model_leads_29 rfl (lv_at hl 2 rfl) ?_
      refine lv_icmp_ne (tgt := 59) hx hb d_Model_leads_30 (by decide) (fun cc => ?_) (fun cc => ?_)
      · have hsh := im_if hsh cc
        exact bk_Model_leads_59 X ih x0 x1 x2 x3 x4 x5 w hsh H locs ls hH (lv_sub hl [0, 1, 2, 3, 4, 5] rfl)
      · have hsh := im_it hsh cc
        refine lv_aload_n hx hb d_Model_leads_33 rfl (lv_at hl 0 rfl) ?_
        obtain ⟨f9, h10, hsh⟩ := im_bd hsh
        refine im_getR hx hb hts inC_Model hown hK hH (ci := 9) rfl 23 (by decide) (hts _ wd_654) rfl h10 d_Model_leads_34 ?_
        refine lv_iload hx hb d_Model_leads_37 (lv_at hl 5 rfl) ?_
        obtain ⟨e11, h12, hsh⟩ := im_bd hsh
        refine im_iald hx hb hK hH h12 d_Model_leads_39 ?_
        refine lv_iload_n hx hb d_Model_leads_40 rfl (lv_at hl 3 rfl) ?_
        refine lv_icmp_ne (tgt := 59) hx hb d_Model_leads_41 (by decide) (fun cc => ?_) (fun cc => ?_)
        · have hsh := im_if hsh cc
          exact bk_Model_leads_59 X ih x0 x1 x2 x3 x4 x5 w hsh H locs ls hH (lv_sub hl [0, 1, 2, 3, 4, 5] rfl)
        · have hsh := im_it hsh cc
          refine lv_aload_n hx hb d_Model_leads_44 rfl (lv_at hl 0 rfl) ?_
          obtain ⟨f13, h14, hsh⟩ := im_bd hsh
          refine im_getR hx hb hts inC_Model hown hK hH (ci := 9) rfl 24 (by decide) (hts _ wd_655) rfl h14 d_Model_leads_45 ?_
          refine lv_iload hx hb d_Model_leads_48 (lv_at hl 5 rfl) ?_
          obtain ⟨e15, h16, hsh⟩ := im_bd hsh
          refine im_iald hx hb hK hH h16 d_Model_leads_50 ?_
          refine lv_iload hx hb d_Model_leads_51 (lv_at hl 4 rfl) ?_
          refine lv_icmp_ne (tgt := 59) hx hb d_Model_leads_53 (by decide) (fun cc => ?_) (fun cc => ?_)
          · have hsh := im_if hsh cc
            exact bk_Model_leads_59 X ih x0 x1 x2 x3 x4 x5 w hsh H locs ls hH (lv_sub hl [0, 1, 2, 3, 4, 5] rfl)
          · have hsh := im_it hsh cc
            refine lv_iload hx hb d_Model_leads_56 (lv_at hl 5 rfl) ?_
            obtain rfl := Option.some.inj hsh
            exact im_iret hx hb hr hlk hH d_Model_leads_58
def sh_Model_leads (F : Nat) (x0 : Nat) (x1 : Int32) (x2 : Int32) (x3 : Int32) (x4 : Int32) (w : im_W) : Option (Int32 × im_W) :=
  sh_Model_leads_6 F F x0 x1 x2 x3 x4 ((10 : Int32) * x1) w
set_option maxHeartbeats 4000000 in
set_option maxRecDepth 100000 in
theorem met_Model_leads {F : Nat} {x0 : Nat} {x1 : Int32} {x2 : Int32} {x3 : Int32} {x4 : Int32} {w : im_W} {r : Int32 × im_W} (hsh : sh_Model_leads F x0 x1 x2 x3 x4 w = some r) : Met l y_Model_leads (Cond.code y_Model_leads c_Model_leads 6 (some .int) :: im_T) (im_rm 0 0) (im_Pre D vwCl tA lo im_NW [.ref (lo + x0), .int x1, .int x2, .int x3, .int x4] w) (im_Post D vwCl tA lo (some (.int r.1)) r.2) 0 0 (fun q => lo ≤ q) := by
  refine im_ofW (cc := c_Model_leads) (nL := 6) (ret := (some .int)) (by decide) (Nat.le_of_ble_eq_true rfl) ?_
  intro p e s m args below meth c X H locs ls hH hl
  obtain ⟨hx, hb, hr, hts, hown, hlk, hml, hK, hN⟩ := id X
  have hl : lv_has ls 6 [(0, .ref (lo + x0)), (1, .int x1), (2, .int x2), (3, .int x3), (4, .int x4)] := hl
  unfold sh_Model_leads at hsh
  refine lv_bipush (v := 10) hx hb d_Model_leads_0 (by decide) ?_
  refine lv_iload_n hx hb d_Model_leads_2 rfl (lv_at hl 1 rfl) ?_
  refine lv_imul hx hb d_Model_leads_3 ?_
  refine lv_istore (lv' := [(5, .int ((10 : Int32) * x1)), (0, .ref (lo + x0)), (1, .int x1), (2, .int x2), (3, .int x3), (4, .int x4)]) hx hb d_Model_leads_4 hl (by decide) rfl (fun ls hl => ?_)
  exact bk_Model_leads_6 X F x0 x1 x2 x3 x4 ((10 : Int32) * x1) w hsh H locs ls hH (lv_sub hl [1, 2, 3, 4, 5, 0] rfl)
end GEN
