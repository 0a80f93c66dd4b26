section GEN
variable {l : Launch} {D : va_G} {tA : Nat → ClassId} {lo : Nat} {p : Program} {e : Env} {s : State} {m : MethodId} {args : Array Value} {below : List Frame} {meth : Method} {c : Code}
theorem d_Subtag_isLetter_0 : decode c_Subtag_isLetter 0 = .ok (.iload_n 0, 1) := by decide +kernel
theorem d_Subtag_isLetter_1 : decode c_Subtag_isLetter 1 = .ok (.bipush (97), 2) := by decide +kernel
theorem d_Subtag_isLetter_3 : decode c_Subtag_isLetter 3 = .ok (.if_icmp .lt (9), 3) := by decide +kernel
theorem d_Subtag_isLetter_6 : decode c_Subtag_isLetter 6 = .ok (.iload_n 0, 1) := by decide +kernel
theorem d_Subtag_isLetter_7 : decode c_Subtag_isLetter 7 = .ok (.bipush (122), 2) := by decide +kernel
theorem d_Subtag_isLetter_9 : decode c_Subtag_isLetter 9 = .ok (.if_icmp .le (15), 3) := by decide +kernel
theorem d_Subtag_isLetter_12 : decode c_Subtag_isLetter 12 = .ok (.iload_n 0, 1) := by decide +kernel
theorem d_Subtag_isLetter_13 : decode c_Subtag_isLetter 13 = .ok (.bipush (65), 2) := by decide +kernel
theorem d_Subtag_isLetter_15 : decode c_Subtag_isLetter 15 = .ok (.if_icmp .lt (13), 3) := by decide +kernel
theorem d_Subtag_isLetter_18 : decode c_Subtag_isLetter 18 = .ok (.iload_n 0, 1) := by decide +kernel
theorem d_Subtag_isLetter_19 : decode c_Subtag_isLetter 19 = .ok (.bipush (90), 2) := by decide +kernel
theorem d_Subtag_isLetter_21 : decode c_Subtag_isLetter 21 = .ok (.if_icmp .gt (7), 3) := by decide +kernel
theorem d_Subtag_isLetter_24 : decode c_Subtag_isLetter 24 = .ok (.iconst 1, 1) := by decide +kernel
theorem d_Subtag_isLetter_25 : decode c_Subtag_isLetter 25 = .ok (.goto (4), 3) := by decide +kernel
theorem d_Subtag_isLetter_28 : decode c_Subtag_isLetter 28 = .ok (.iconst 0, 1) := by decide +kernel
theorem d_Subtag_isLetter_29 : decode c_Subtag_isLetter 29 = .ok (.ireturn, 1) := by decide +kernel
def sh_Subtag_isLetter_29 (F : Nat) (y0 : Int32) (w : im_W) : Option (Int32 × im_W) :=
  im_rz y0 w
set_option maxHeartbeats 4000000 in
set_option maxRecDepth 100000 in
theorem bk_Subtag_isLetter_29 {F : Nat} {r : Int32 × im_W} (X : im_X D vwCl tA lo im_NW c_Subtag_isLetter 1 (some .boolean) RC_Subtag im_T p s m args meth c) (y0 : Int32) (w : im_W) (hsh : sh_Subtag_isLetter_29 F y0 w = some r) : im_WW D vwCl tA lo 1 p l e (im_rm 0 0) s m args below meth c 0 0 (MQ below (im_Post D vwCl tA lo (some (.int r.1)) r.2) args s 0 0 (fun q => lo ≤ q)) 29 [] [.int y0] w := by
  obtain ⟨hx, hb, hr, hts, hown, hlk, hml, hK, hN⟩ := id X
  intro H locs ls hH hl
  unfold sh_Subtag_isLetter_29 at hsh
  obtain ⟨rfl, hn⟩ := im_rz_s hsh
  exact im_zret hx hb hr hlk hn hH d_Subtag_isLetter_29
def sh_Subtag_isLetter_24 (F : Nat)  (w : im_W) : Option (Int32 × im_W) :=
  sh_Subtag_isLetter_29 F (1 : Int32) w
set_option maxHeartbeats 4000000 in
set_option maxRecDepth 100000 in
theorem bk_Subtag_isLetter_24 {F : Nat} {r : Int32 × im_W} (X : im_X D vwCl tA lo im_NW c_Subtag_isLetter 1 (some .boolean) RC_Subtag im_T p s m args meth c)  (w : im_W) (hsh : sh_Subtag_isLetter_24 F w = some r) : im_WW D vwCl tA lo 1 p l e (im_rm 0 0) s m args below meth c 0 0 (MQ below (im_Post D vwCl tA lo (some (.int r.1)) r.2) args s 0 0 (fun q => lo ≤ q)) 24 [] [] w := by
  obtain ⟨hx, hb, hr, hts, hown, hlk, hml, hK, hN⟩ := id X
  intro H locs ls hH hl
  unfold sh_Subtag_isLetter_24 at hsh
  refine lv_iconst (v := 1) hx hb d_Subtag_isLetter_24 (by decide) ?_
  refine lv_goto (tgt := 29) hx hb d_Subtag_isLetter_25 (by decide) ?_
  exact bk_Subtag_isLetter_29 X (1 : Int32) w hsh H locs ls hH (lv_sub hl [] rfl)
def sh_Subtag_isLetter_28 (F : Nat)  (w : im_W) : Option (Int32 × im_W) :=
  sh_Subtag_isLetter_29 F (0 : Int32) w
set_option maxHeartbeats 4000000 in
set_option maxRecDepth 100000 in
theorem bk_Subtag_isLetter_28 {F : Nat} {r : Int32 × im_W} (X : im_X D vwCl tA lo im_NW c_Subtag_isLetter 1 (some .boolean) RC_Subtag im_T p s m args meth c)  (w : im_W) (hsh : sh_Subtag_isLetter_28 F w = some r) : im_WW D vwCl tA lo 1 p l e (im_rm 0 0) s m args below meth c 0 0 (MQ below (im_Post D vwCl tA lo (some (.int r.1)) r.2) args s 0 0 (fun q => lo ≤ q)) 28 [] [] w := by
  obtain ⟨hx, hb, hr, hts, hown, hlk, hml, hK, hN⟩ := id X
  intro H locs ls hH hl
  unfold sh_Subtag_isLetter_28 at hsh
  refine lv_iconst (v := 0) hx hb d_Subtag_isLetter_28 (by decide) ?_
  exact bk_Subtag_isLetter_29 X (0 : Int32) w hsh H locs ls hH (lv_sub hl [] rfl)
def sh_Subtag_isLetter_12 (F : Nat) (x0 : Int32) (w : im_W) : Option (Int32 × im_W) :=
  (if x0 < (65 : Int32) then sh_Subtag_isLetter_28 F w else (if (90 : Int32) < x0 then sh_Subtag_isLetter_28 F w else sh_Subtag_isLetter_24 F w))
set_option maxHeartbeats 4000000 in
set_option maxRecDepth 100000 in
theorem bk_Subtag_isLetter_12 {F : Nat} {r : Int32 × im_W} (X : im_X D vwCl tA lo im_NW c_Subtag_isLetter 1 (some .boolean) RC_Subtag im_T p s m args meth c) (x0 : Int32) (w : im_W) (hsh : sh_Subtag_isLetter_12 F x0 w = some r) : im_WW D vwCl tA lo 1 p l e (im_rm 0 0) s m args below meth c 0 0 (MQ below (im_Post D vwCl tA lo (some (.int r.1)) r.2) args s 0 0 (fun q => lo ≤ q)) 12 [(0, .int x0)] [] w := by
  obtain ⟨hx, hb, hr, hts, hown, hlk, hml, hK, hN⟩ := id X
  intro H locs ls hH hl
  unfold sh_Subtag_isLetter_12 at hsh
  refine lv_iload_n hx hb d_Subtag_isLetter_12 rfl (lv_at hl 0 rfl) ?_
  refine lv_bipush (v := 65) hx hb d_Subtag_isLetter_13 (by decide) ?_
  refine lv_icmp_lt (tgt := 28) hx hb d_Subtag_isLetter_15 (by decide) (fun cc => ?_) (fun cc => ?_)
  · have hsh := im_it hsh cc
    exact bk_Subtag_isLetter_28 X w hsh H locs ls hH (lv_sub hl [] rfl)
  · have hsh := im_if hsh cc
    refine lv_iload_n hx hb d_Subtag_isLetter_18 rfl (lv_at hl 0 rfl) ?_
    refine lv_bipush (v := 90) hx hb d_Subtag_isLetter_19 (by decide) ?_
    refine lv_icmp_gt (tgt := 28) hx hb d_Subtag_isLetter_21 (by decide) (fun cc => ?_) (fun cc => ?_)
    · have hsh := im_it hsh cc
      exact bk_Subtag_isLetter_28 X w hsh H locs ls hH (lv_sub hl [] rfl)
    · have hsh := im_if hsh cc
      exact bk_Subtag_isLetter_24 X w hsh H locs ls hH (lv_sub hl [] rfl)
def sh_Subtag_isLetter (F : Nat) (x0 : Int32) (w : im_W) : Option (Int32 × im_W) :=
  (if x0 < (97 : Int32) then sh_Subtag_isLetter_12 F x0 w else (if x0 ≤ (122 : Int32) then sh_Subtag_isLetter_24 F w else sh_Subtag_isLetter_12 F x0 w))
set_option maxHeartbeats 4000000 in
set_option maxRecDepth 100000 in
theorem met_Subtag_isLetter {F : Nat} {x0 : Int32} {w : im_W} {r : Int32 × im_W} (hsh : sh_Subtag_isLetter F x0 w = some r) : Met l y_Subtag_isLetter (Cond.code y_Subtag_isLetter c_Subtag_isLetter 1 (some .boolean) :: im_T) (im_rm 0 0) (im_Pre D vwCl tA lo im_NW [.int x0] w) (im_Post D vwCl tA lo (some (.int r.1)) r.2) 0 0 (fun q => lo ≤ q) := by
  refine im_ofW (cc := c_Subtag_isLetter) (nL := 1) (ret := (some .boolean)) (by decide) (Nat.le_of_ble_eq_true rfl) ?_
  intro p e s m args below meth c X H locs ls hH hl
  obtain ⟨hx, hb, hr, hts, hown, hlk, hml, hK, hN⟩ := id X
  have hl : lv_has ls 1 [(0, .int x0)] := hl
  unfold sh_Subtag_isLetter at hsh
  refine lv_iload_n hx hb d_Subtag_isLetter_0 rfl (lv_at hl 0 rfl) ?_
  refine lv_bipush (v := 97) hx hb d_Subtag_isLetter_1 (by decide) ?_
  refine lv_icmp_lt (tgt := 12) hx hb d_Subtag_isLetter_3 (by decide) (fun cc => ?_) (fun cc => ?_)
  · have hsh := im_it hsh cc
    exact bk_Subtag_isLetter_12 X x0 w hsh H locs ls hH (lv_sub hl [0] rfl)
  · have hsh := im_if hsh cc
    refine lv_iload_n hx hb d_Subtag_isLetter_6 rfl (lv_at hl 0 rfl) ?_
    refine lv_bipush (v := 122) hx hb d_Subtag_isLetter_7 (by decide) ?_
    refine lv_icmp_le (tgt := 24) hx hb d_Subtag_isLetter_9 (by decide) (fun cc => ?_) (fun cc => ?_)
    · have hsh := im_it hsh cc
      exact bk_Subtag_isLetter_24 X w hsh H locs ls hH (lv_sub hl [] rfl)
    · have hsh := im_if hsh cc
      exact bk_Subtag_isLetter_12 X x0 w hsh H locs ls hH (lv_sub hl [0] rfl)
theorem d_Subtag_isDigit_0 : decode c_Subtag_isDigit 0 = .ok (.iload_n 0, 1) := by decide +kernel
theorem d_Subtag_isDigit_1 : decode c_Subtag_isDigit 1 = .ok (.bipush (48), 2) := by decide +kernel
theorem d_Subtag_isDigit_3 : decode c_Subtag_isDigit 3 = .ok (.if_icmp .lt (13), 3) := by decide +kernel
theorem d_Subtag_isDigit_6 : decode c_Subtag_isDigit 6 = .ok (.iload_n 0, 1) := by decide +kernel
theorem d_Subtag_isDigit_7 : decode c_Subtag_isDigit 7 = .ok (.bipush (57), 2) := by decide +kernel
theorem d_Subtag_isDigit_9 : decode c_Subtag_isDigit 9 = .ok (.if_icmp .gt (7), 3) := by decide +kernel
theorem d_Subtag_isDigit_12 : decode c_Subtag_isDigit 12 = .ok (.iconst 1, 1) := by decide +kernel
theorem d_Subtag_isDigit_13 : decode c_Subtag_isDigit 13 = .ok (.goto (4), 3) := by decide +kernel
theorem d_Subtag_isDigit_16 : decode c_Subtag_isDigit 16 = .ok (.iconst 0, 1) := by decide +kernel
theorem d_Subtag_isDigit_17 : decode c_Subtag_isDigit 17 = .ok (.ireturn, 1) := by decide +kernel
def sh_Subtag_isDigit_17 (F : Nat) (y0 : Int32) (w : im_W) : Option (Int32 × im_W) :=
  im_rz y0 w
set_option maxHeartbeats 4000000 in
set_option maxRecDepth 100000 in
theorem bk_Subtag_isDigit_17 {F : Nat} {r : Int32 × im_W} (X : im_X D vwCl tA lo im_NW c_Subtag_isDigit 1 (some .boolean) RC_Subtag im_T p s m args meth c) (y0 : Int32) (w : im_W) (hsh : sh_Subtag_isDigit_17 F y0 w = some r) : im_WW D vwCl tA lo 1 p l e (im_rm 0 0) s m args below meth c 0 0 (MQ below (im_Post D vwCl tA lo (some (.int r.1)) r.2) args s 0 0 (fun q => lo ≤ q)) 17 [] [.int y0] w := by
  obtain ⟨hx, hb, hr, hts, hown, hlk, hml, hK, hN⟩ := id X
  intro H locs ls hH hl
  unfold sh_Subtag_isDigit_17 at hsh
  obtain ⟨rfl, hn⟩ := im_rz_s hsh
  exact im_zret hx hb hr hlk hn hH d_Subtag_isDigit_17
def sh_Subtag_isDigit_16 (F : Nat)  (w : im_W) : Option (Int32 × im_W) :=
  sh_Subtag_isDigit_17 F (0 : Int32) w
set_option maxHeartbeats 4000000 in
set_option maxRecDepth 100000 in
theorem bk_Subtag_isDigit_16 {F : Nat} {r : Int32 × im_W} (X : im_X D vwCl tA lo im_NW c_Subtag_isDigit 1 (some .boolean) RC_Subtag im_T p s m args meth c)  (w : im_W) (hsh : sh_Subtag_isDigit_16 F w = some r) : im_WW D vwCl tA lo 1 p l e (im_rm 0 0) s m args below meth c 0 0 (MQ below (im_Post D vwCl tA lo (some (.int r.1)) r.2) args s 0 0 (fun q => lo ≤ q)) 16 [] [] w := by
  obtain ⟨hx, hb, hr, hts, hown, hlk, hml, hK, hN⟩ := id X
  intro H locs ls hH hl
  unfold sh_Subtag_isDigit_16 at hsh
  refine lv_iconst (v := 0) hx hb d_Subtag_isDigit_16 (by decide) ?_
  exact bk_Subtag_isDigit_17 X (0 : Int32) w hsh H locs ls hH (lv_sub hl [] rfl)
def sh_Subtag_isDigit (F : Nat) (x0 : Int32) (w : im_W) : Option (Int32 × im_W) :=
  (if x0 < (48 : Int32) then sh_Subtag_isDigit_16 F w else (if (57 : Int32) < x0 then sh_Subtag_isDigit_16 F w else sh_Subtag_isDigit_17 F (1 : Int32) w))
set_option maxHeartbeats 4000000 in
set_option maxRecDepth 100000 in
theorem met_Subtag_isDigit {F : Nat} {x0 : Int32} {w : im_W} {r : Int32 × im_W} (hsh : sh_Subtag_isDigit F x0 w = some r) : Met l y_Subtag_isDigit (Cond.code y_Subtag_isDigit c_Subtag_isDigit 1 (some .boolean) :: im_T) (im_rm 0 0) (im_Pre D vwCl tA lo im_NW [.int x0] w) (im_Post D vwCl tA lo (some (.int r.1)) r.2) 0 0 (fun q => lo ≤ q) := by
  refine im_ofW (cc := c_Subtag_isDigit) (nL := 1) (ret := (some .boolean)) (by decide) (Nat.le_of_ble_eq_true rfl) ?_
  intro p e s m args below meth c X H locs ls hH hl
  obtain ⟨hx, hb, hr, hts, hown, hlk, hml, hK, hN⟩ := id X
  have hl : lv_has ls 1 [(0, .int x0)] := hl
  unfold sh_Subtag_isDigit at hsh
  refine lv_iload_n hx hb d_Subtag_isDigit_0 rfl (lv_at hl 0 rfl) ?_
  refine lv_bipush (v := 48) hx hb d_Subtag_isDigit_1 (by decide) ?_
  refine lv_icmp_lt (tgt := 16) hx hb d_Subtag_isDigit_3 (by decide) (fun cc => ?_) (fun cc => ?_)
  · have hsh := im_it hsh cc
    exact bk_Subtag_isDigit_16 X w hsh H locs ls hH (lv_sub hl [] rfl)
  · have hsh := im_if hsh cc
    refine lv_iload_n hx hb d_Subtag_isDigit_6 rfl (lv_at hl 0 rfl) ?_
    refine lv_bipush (v := 57) hx hb d_Subtag_isDigit_7 (by decide) ?_
    refine lv_icmp_gt (tgt := 16) hx hb d_Subtag_isDigit_9 (by decide) (fun cc => ?_) (fun cc => ?_)
    · have hsh := im_it hsh cc
      exact bk_Subtag_isDigit_16 X w hsh H locs ls hH (lv_sub hl [] rfl)
    · have hsh := im_if hsh cc
      refine lv_iconst (v := 1) hx hb d_Subtag_isDigit_12 (by decide) ?_
      refine lv_goto (tgt := 17) hx hb d_Subtag_isDigit_13 (by decide) ?_
      exact bk_Subtag_isDigit_17 X (1 : Int32) w hsh H locs ls hH (lv_sub hl [] rfl)
theorem d_Subtag_isCut_0 : decode c_Subtag_isCut 0 = .ok (.iload_n 0, 1) := by decide +kernel
theorem d_Subtag_isCut_1 : decode c_Subtag_isCut 1 = .ok (.bipush (45), 2) := by decide +kernel
theorem d_Subtag_isCut_3 : decode c_Subtag_isCut 3 = .ok (.if_icmp .eq (9), 3) := by decide +kernel
theorem d_Subtag_isCut_6 : decode c_Subtag_isCut 6 = .ok (.iload_n 0, 1) := by decide +kernel
theorem d_Subtag_isCut_7 : decode c_Subtag_isCut 7 = .ok (.bipush (95), 2) := by decide +kernel
theorem d_Subtag_isCut_9 : decode c_Subtag_isCut 9 = .ok (.if_icmp .ne (7), 3) := by decide +kernel
theorem d_Subtag_isCut_12 : decode c_Subtag_isCut 12 = .ok (.iconst 1, 1) := by decide +kernel
theorem d_Subtag_isCut_13 : decode c_Subtag_isCut 13 = .ok (.goto (4), 3) := by decide +kernel
theorem d_Subtag_isCut_16 : decode c_Subtag_isCut 16 = .ok (.iconst 0, 1) := by decide +kernel
theorem d_Subtag_isCut_17 : decode c_Subtag_isCut 17 = .ok (.ireturn, 1) := by decide +kernel
def sh_Subtag_isCut_17 (F : Nat) (y0 : Int32) (w : im_W) : Option (Int32 × im_W) :=
  im_rz y0 w
set_option maxHeartbeats 4000000 in
set_option maxRecDepth 100000 in
theorem bk_Subtag_isCut_17 {F : Nat} {r : Int32 × im_W} (X : im_X D vwCl tA lo im_NW c_Subtag_isCut 1 (some .boolean) RC_Subtag im_T p s m args meth c) (y0 : Int32) (w : im_W) (hsh : sh_Subtag_isCut_17 F y0 w = some r) : im_WW D vwCl tA lo 1 p l e (im_rm 0 0) s m args below meth c 0 0 (MQ below (im_Post D vwCl tA lo (some (.int r.1)) r.2) args s 0 0 (fun q => lo ≤ q)) 17 [] [.int y0] w := by
  obtain ⟨hx, hb, hr, hts, hown, hlk, hml, hK, hN⟩ := id X
  intro H locs ls hH hl
  unfold sh_Subtag_isCut_17 at hsh
  obtain ⟨rfl, hn⟩ := im_rz_s hsh
  exact im_zret hx hb hr hlk hn hH d_Subtag_isCut_17
def sh_Subtag_isCut_12 (F : Nat)  (w : im_W) : Option (Int32 × im_W) :=
  sh_Subtag_isCut_17 F (1 : Int32) w
set_option maxHeartbeats 4000000 in
set_option maxRecDepth 100000 in
theorem bk_Subtag_isCut_12 {F : Nat} {r : Int32 × im_W} (X : im_X D vwCl tA lo im_NW c_Subtag_isCut 1 (some .boolean) RC_Subtag im_T p s m args meth c)  (w : im_W) (hsh : sh_Subtag_isCut_12 F w = some r) : im_WW D vwCl tA lo 1 p l e (im_rm 0 0) s m args below meth c 0 0 (MQ below (im_Post D vwCl tA lo (some (.int r.1)) r.2) args s 0 0 (fun q => lo ≤ q)) 12 [] [] w := by
  obtain ⟨hx, hb, hr, hts, hown, hlk, hml, hK, hN⟩ := id X
  intro H locs ls hH hl
  unfold sh_Subtag_isCut_12 at hsh
  refine lv_iconst (v := 1) hx hb d_Subtag_isCut_12 (by decide) ?_
  refine lv_goto (tgt := 17) hx hb d_Subtag_isCut_13 (by decide) ?_
  exact bk_Subtag_isCut_17 X (1 : Int32) w hsh H locs ls hH (lv_sub hl [] rfl)
def sh_Subtag_isCut (F : Nat) (x0 : Int32) (w : im_W) : Option (Int32 × im_W) :=
  (if x0 = (45 : Int32) then sh_Subtag_isCut_12 F w else (if x0 = (95 : Int32) then sh_Subtag_isCut_12 F w else sh_Subtag_isCut_17 F (0 : Int32) w))
set_option maxHeartbeats 4000000 in
set_option maxRecDepth 100000 in
theorem met_Subtag_isCut {F : Nat} {x0 : Int32} {w : im_W} {r : Int32 × im_W} (hsh : sh_Subtag_isCut F x0 w = some r) : Met l y_Subtag_isCut (Cond.code y_Subtag_isCut c_Subtag_isCut 1 (some .boolean) :: im_T) (im_rm 0 0) (im_Pre D vwCl tA lo im_NW [.int x0] w) (im_Post D vwCl tA lo (some (.int r.1)) r.2) 0 0 (fun q => lo ≤ q) := by
  refine im_ofW (cc := c_Subtag_isCut) (nL := 1) (ret := (some .boolean)) (by decide) (Nat.le_of_ble_eq_true rfl) ?_
  intro p e s m args below meth c X H locs ls hH hl
  obtain ⟨hx, hb, hr, hts, hown, hlk, hml, hK, hN⟩ := id X
  have hl : lv_has ls 1 [(0, .int x0)] := hl
  unfold sh_Subtag_isCut at hsh
  refine lv_iload_n hx hb d_Subtag_isCut_0 rfl (lv_at hl 0 rfl) ?_
  refine lv_bipush (v := 45) hx hb d_Subtag_isCut_1 (by decide) ?_
  refine lv_icmp_eq (tgt := 12) hx hb d_Subtag_isCut_3 (by decide) (fun cc => ?_) (fun cc => ?_)
  · have hsh := im_it hsh cc
    exact bk_Subtag_isCut_12 X w hsh H locs ls hH (lv_sub hl [] rfl)
  · have hsh := im_if hsh cc
    refine lv_iload_n hx hb d_Subtag_isCut_6 rfl (lv_at hl 0 rfl) ?_
    refine lv_bipush (v := 95) hx hb d_Subtag_isCut_7 (by decide) ?_
    refine lv_icmp_ne (tgt := 16) hx hb d_Subtag_isCut_9 (by decide) (fun cc => ?_) (fun cc => ?_)
    · have hsh := im_if hsh cc
      refine lv_iconst (v := 0) hx hb d_Subtag_isCut_16 (by decide) ?_
      exact bk_Subtag_isCut_17 X (0 : Int32) w hsh H locs ls hH (lv_sub hl [] rfl)
    · have hsh := im_it hsh cc
      exact bk_Subtag_isCut_12 X w hsh H locs ls hH (lv_sub hl [] rfl)
theorem wd_26 : (Jvm.Cond.fieldLink "LanguageTags$Text" (7 : Nat) "LanguageTags$Text" "row" "[C") ∈ im_T := im_memT (i := 26) (by decide +kernel) (by decide +kernel)
theorem wd_27 : (Jvm.Cond.fieldLink "LanguageTags$Text" (13 : Nat) "LanguageTags$Text" "length" "I") ∈ im_T := im_memT (i := 27) (by decide +kernel) (by decide +kernel)
theorem d_Text_at_0 : decode c_Text_at 0 = .ok (.iload_n 1, 1) := by decide +kernel
theorem d_Text_at_1 : decode c_Text_at 1 = .ok (.ifCond .lt (11), 3) := by decide +kernel
theorem d_Text_at_4 : decode c_Text_at 4 = .ok (.iload_n 1, 1) := by decide +kernel
theorem d_Text_at_5 : decode c_Text_at 5 = .ok (.aload_n 0, 1) := by decide +kernel
theorem d_Text_at_6 : decode c_Text_at 6 = .ok (.getfield 13, 3) := by decide +kernel
theorem d_Text_at_9 : decode c_Text_at 9 = .ok (.if_icmp .lt (8), 3) := by decide +kernel
theorem d_Text_at_12 : decode c_Text_at 12 = .ok (.bipush (32), 2) := by decide +kernel
theorem d_Text_at_14 : decode c_Text_at 14 = .ok (.goto (9), 3) := by decide +kernel
theorem d_Text_at_17 : decode c_Text_at 17 = .ok (.aload_n 0, 1) := by decide +kernel
theorem d_Text_at_18 : decode c_Text_at 18 = .ok (.getfield 7, 3) := by decide +kernel
theorem d_Text_at_21 : decode c_Text_at 21 = .ok (.iload_n 1, 1) := by decide +kernel
theorem d_Text_at_22 : decode c_Text_at 22 = .ok (.caload, 1) := by decide +kernel
theorem d_Text_at_23 : decode c_Text_at 23 = .ok (.ireturn, 1) := by decide +kernel
def sh_Text_at_23 (F : Nat) (y0 : Int32) (w : im_W) : Option (Int32 × im_W) :=
  im_rc y0 w
set_option maxHeartbeats 4000000 in
set_option maxRecDepth 100000 in
theorem bk_Text_at_23 {F : Nat} {r : Int32 × im_W} (X : im_X D vwCl tA lo im_NW c_Text_at 2 (some .char) RC_Text im_T p s m args meth c) (y0 : Int32) (w : im_W) (hsh : sh_Text_at_23 F y0 w = some r) : im_WW D vwCl tA lo 2 p l e (im_rm 0 0) s m args below meth c 0 0 (MQ below (im_Post D vwCl tA lo (some (.int r.1)) r.2) args s 0 0 (fun q => lo ≤ q)) 23 [] [.int y0] w := by
  obtain ⟨hx, hb, hr, hts, hown, hlk, hml, hK, hN⟩ := id X
  intro H locs ls hH hl
  unfold sh_Text_at_23 at hsh
  obtain ⟨rfl, hn⟩ := im_rc_s hsh
  exact im_zret hx hb hr hlk hn hH d_Text_at_23
def sh_Text_at_12 (F : Nat)  (w : im_W) : Option (Int32 × im_W) :=
  sh_Text_at_23 F (32 : Int32) w
set_option maxHeartbeats 4000000 in
set_option maxRecDepth 100000 in
theorem bk_Text_at_12 {F : Nat} {r : Int32 × im_W} (X : im_X D vwCl tA lo im_NW c_Text_at 2 (some .char) RC_Text im_T p s m args meth c)  (w : im_W) (hsh : sh_Text_at_12 F w = some r) : im_WW D vwCl tA lo 2 p l e (im_rm 0 0) s m args below meth c 0 0 (MQ below (im_Post D vwCl tA lo (some (.int r.1)) r.2) args s 0 0 (fun q => lo ≤ q)) 12 [] [] w := by
  obtain ⟨hx, hb, hr, hts, hown, hlk, hml, hK, hN⟩ := id X
  intro H locs ls hH hl
  unfold sh_Text_at_12 at hsh
  refine lv_bipush (v := 32) hx hb d_Text_at_12 (by decide) ?_
  refine lv_goto (tgt := 23) hx hb d_Text_at_14 (by decide) ?_
  exact bk_Text_at_23 X (32 : Int32) w hsh H locs ls hH (lv_sub hl [] rfl)
def sh_Text_at (F : Nat) (x0 : Nat) (x1 : Int32) (w : im_W) : Option (Int32 × im_W) :=
  (if x1 < 0 then sh_Text_at_12 F w else (im_gI w 7 x0 1).bind fun f1 => (if x1 < f1 then (im_gR w 7 x0 0).bind fun f3 => (im_lI w 2 f3 x1).bind fun e5 => sh_Text_at_23 F e5 w else sh_Text_at_12 F w))
set_option maxHeartbeats 4000000 in
set_option maxRecDepth 100000 in
theorem met_Text_at {F : Nat} {x0 : Nat} {x1 : Int32} {w : im_W} {r : Int32 × im_W} (hsh : sh_Text_at F x0 x1 w = some r) : Met l y_Text_at (Cond.code y_Text_at c_Text_at 2 (some .char) :: im_T) (im_rm 0 0) (im_Pre D vwCl tA lo im_NW [.ref (lo + x0), .int x1] w) (im_Post D vwCl tA lo (some (.int r.1)) r.2) 0 0 (fun q => lo ≤ q) := by
  refine im_ofW (cc := c_Text_at) (nL := 2) (ret := (some .char)) (by decide) (Nat.le_of_ble_eq_true rfl) ?_
  intro p e s m args below meth c X H locs ls hH hl
  obtain ⟨hx, hb, hr, hts, hown, hlk, hml, hK, hN⟩ := id X
  have hl : lv_has ls 2 [(0, .ref (lo + x0)), (1, .int x1)] := hl
  unfold sh_Text_at at hsh
  refine lv_iload_n hx hb d_Text_at_0 rfl (lv_at hl 1 rfl) ?_
  refine lv_if_lt (tgt := 12) hx hb d_Text_at_1 (by decide) (fun cc => ?_) (fun cc => ?_)
  · have hsh := im_it hsh cc
    exact bk_Text_at_12 X w hsh H locs ls hH (lv_sub hl [] rfl)
  · have hsh := im_if hsh cc
    refine lv_iload_n hx hb d_Text_at_4 rfl (lv_at hl 1 rfl) ?_
    refine lv_aload_n hx hb d_Text_at_5 rfl (lv_at hl 0 rfl) ?_
    obtain ⟨f1, h2, hsh⟩ := im_bd hsh
    refine im_getI hx hb hts inC_Text hown hK hH (ci := 7) rfl 1 (by decide) (hts _ wd_27) rfl h2 d_Text_at_6 ?_
    refine lv_icmp_lt (tgt := 17) hx hb d_Text_at_9 (by decide) (fun cc => ?_) (fun cc => ?_)
    · have hsh := im_it hsh cc
      refine lv_aload_n hx hb d_Text_at_17 rfl (lv_at hl 0 rfl) ?_
      obtain ⟨f3, h4, hsh⟩ := im_bd hsh
      refine im_getR hx hb hts inC_Text hown hK hH (ci := 7) rfl 0 (by decide) (hts _ wd_26) rfl h4 d_Text_at_18 ?_
      refine lv_iload_n hx hb d_Text_at_21 rfl (lv_at hl 1 rfl) ?_
      obtain ⟨e5, h6, hsh⟩ := im_bd hsh
      refine im_cald hx hb hK hH h6 d_Text_at_22 ?_
      exact bk_Text_at_23 X e5 w hsh H locs ls hH (lv_sub hl [] rfl)
    · have hsh := im_if hsh cc
      exact bk_Text_at_12 X w hsh H locs ls hH (lv_sub hl [] rfl)
theorem wd_2 : (Jvm.Cond.initialized "LanguageTags$Text") ∈ im_T := im_memT (i := 2) (by decide +kernel) (by decide +kernel)
theorem wd_11 : (Jvm.Cond.initialized "LanguageTags$Subtag") ∈ im_T := im_memT (i := 11) (by decide +kernel) (by decide +kernel)
theorem wd_229 : (Jvm.Cond.static ({ cls := "LanguageTags$Subtag", name := "isLetter", desc := "(C)Z" } : Jvm.MethodName)) ∈ im_T := im_memT (i := 229) (by decide +kernel) (by decide +kernel)
theorem wd_230 : (Jvm.Cond.code ({ cls := "LanguageTags$Subtag", name := "isLetter", desc := "(C)Z" } : Jvm.MethodName) prog_8_method_2_code (1 : Nat) (Option.some Jvm.ClassFile.FieldType.boolean)) ∈ im_T := im_memT (i := 230) (by decide +kernel) (by decide +kernel)
theorem wd_232 : (Jvm.Cond.static ({ cls := "LanguageTags$Subtag", name := "isDigit", desc := "(C)Z" } : Jvm.MethodName)) ∈ im_T := im_memT (i := 232) (by decide +kernel) (by decide +kernel)
theorem wd_233 : (Jvm.Cond.code ({ cls := "LanguageTags$Subtag", name := "isDigit", desc := "(C)Z" } : Jvm.MethodName) prog_8_method_3_code (1 : Nat) (Option.some Jvm.ClassFile.FieldType.boolean)) ∈ im_T := im_memT (i := 233) (by decide +kernel) (by decide +kernel)
theorem wd_265 : (Jvm.Cond.methodLink "LanguageTags$Subtag" (9 : Nat) ({ cls := "LanguageTags$Text", name := "at", desc := "(I)C" } : Jvm.MethodName)) ∈ im_T := im_memT (i := 265) (by decide +kernel) (by decide +kernel)
theorem wd_266 : (Jvm.Cond.instanceMethod ({ cls := "LanguageTags$Text", name := "at", desc := "(I)C" } : Jvm.MethodName)) ∈ im_T := im_memT (i := 266) (by decide +kernel) (by decide +kernel)
theorem wd_267 : (Jvm.Cond.selects "LanguageTags$Text" ({ cls := "LanguageTags$Text", name := "at", desc := "(I)C" } : Jvm.MethodName) ({ cls := "LanguageTags$Text", name := "at", desc := "(I)C" } : Jvm.MethodName)) ∈ im_T := im_memT (i := 267) (by decide +kernel) (by decide +kernel)
theorem wd_268 : (Jvm.Cond.code ({ cls := "LanguageTags$Text", name := "at", desc := "(I)C" } : Jvm.MethodName) prog_10_method_7_code (2 : Nat) (Option.some Jvm.ClassFile.FieldType.char)) ∈ im_T := im_memT (i := 268) (by decide +kernel) (by decide +kernel)
theorem wd_269 : (Jvm.Cond.methodLink "LanguageTags$Subtag" (15 : Nat) ({ cls := "LanguageTags$Subtag", name := "isLetter", desc := "(C)Z" } : Jvm.MethodName)) ∈ im_T := im_memT (i := 269) (by decide +kernel) (by decide +kernel)
theorem wd_270 : (Jvm.Cond.methodLink "LanguageTags$Subtag" (19 : Nat) ({ cls := "LanguageTags$Subtag", name := "isDigit", desc := "(C)Z" } : Jvm.MethodName)) ∈ im_T := im_memT (i := 270) (by decide +kernel) (by decide +kernel)
theorem d_Subtag_cutOut_0 : decode c_Subtag_cutOut 0 = .ok (.iload_n 2, 1) := by decide +kernel
theorem d_Subtag_cutOut_1 : decode c_Subtag_cutOut 1 = .ok (.iload_n 1, 1) := by decide +kernel
theorem d_Subtag_cutOut_2 : decode c_Subtag_cutOut 2 = .ok (.isub, 1) := by decide +kernel
theorem d_Subtag_cutOut_3 : decode c_Subtag_cutOut 3 = .ok (.istore_n 3, 1) := by decide +kernel
theorem d_Subtag_cutOut_4 : decode c_Subtag_cutOut 4 = .ok (.iload_n 3, 1) := by decide +kernel
theorem d_Subtag_cutOut_5 : decode c_Subtag_cutOut 5 = .ok (.iconst 1, 1) := by decide +kernel
theorem d_Subtag_cutOut_6 : decode c_Subtag_cutOut 6 = .ok (.if_icmp .lt (9), 3) := by decide +kernel
theorem d_Subtag_cutOut_9 : decode c_Subtag_cutOut 9 = .ok (.iload_n 3, 1) := by decide +kernel
theorem d_Subtag_cutOut_10 : decode c_Subtag_cutOut 10 = .ok (.bipush (8), 2) := by decide +kernel
theorem d_Subtag_cutOut_12 : decode c_Subtag_cutOut 12 = .ok (.if_icmp .le (5), 3) := by decide +kernel
theorem d_Subtag_cutOut_15 : decode c_Subtag_cutOut 15 = .ok (.lconst 0, 1) := by decide +kernel
theorem d_Subtag_cutOut_16 : decode c_Subtag_cutOut 16 = .ok (.lreturn, 1) := by decide +kernel
theorem d_Subtag_cutOut_17 : decode c_Subtag_cutOut 17 = .ok (.lconst 0, 1) := by decide +kernel
theorem d_Subtag_cutOut_18 : decode c_Subtag_cutOut 18 = .ok (.lstore 4, 2) := by decide +kernel
theorem d_Subtag_cutOut_20 : decode c_Subtag_cutOut 20 = .ok (.iconst 0, 1) := by decide +kernel
theorem d_Subtag_cutOut_21 : decode c_Subtag_cutOut 21 = .ok (.istore 6, 2) := by decide +kernel
theorem d_Subtag_cutOut_23 : decode c_Subtag_cutOut 23 = .ok (.iload 6, 2) := by decide +kernel
theorem d_Subtag_cutOut_25 : decode c_Subtag_cutOut 25 = .ok (.iload_n 3, 1) := by decide +kernel
theorem d_Subtag_cutOut_26 : decode c_Subtag_cutOut 26 = .ok (.if_icmp .ge (61), 3) := by decide +kernel
theorem d_Subtag_cutOut_29 : decode c_Subtag_cutOut 29 = .ok (.aload_n 0, 1) := by decide +kernel
theorem d_Subtag_cutOut_30 : decode c_Subtag_cutOut 30 = .ok (.iload_n 1, 1) := by decide +kernel
theorem d_Subtag_cutOut_31 : decode c_Subtag_cutOut 31 = .ok (.iload 6, 2) := by decide +kernel
theorem d_Subtag_cutOut_33 : decode c_Subtag_cutOut 33 = .ok (.iadd, 1) := by decide +kernel
theorem d_Subtag_cutOut_34 : decode c_Subtag_cutOut 34 = .ok (.invokevirtual 9, 3) := by decide +kernel
theorem d_Subtag_cutOut_37 : decode c_Subtag_cutOut 37 = .ok (.istore 7, 2) := by decide +kernel
theorem d_Subtag_cutOut_39 : decode c_Subtag_cutOut 39 = .ok (.iload 7, 2) := by decide +kernel
theorem d_Subtag_cutOut_41 : decode c_Subtag_cutOut 41 = .ok (.invokestatic 15, 3) := by decide +kernel
theorem d_Subtag_cutOut_44 : decode c_Subtag_cutOut 44 = .ok (.ifCond .ne (13), 3) := by decide +kernel
theorem d_Subtag_cutOut_47 : decode c_Subtag_cutOut 47 = .ok (.iload 7, 2) := by decide +kernel
theorem d_Subtag_cutOut_49 : decode c_Subtag_cutOut 49 = .ok (.invokestatic 19, 3) := by decide +kernel
theorem d_Subtag_cutOut_52 : decode c_Subtag_cutOut 52 = .ok (.ifCond .ne (5), 3) := by decide +kernel
theorem d_Subtag_cutOut_55 : decode c_Subtag_cutOut 55 = .ok (.lconst 0, 1) := by decide +kernel
theorem d_Subtag_cutOut_56 : decode c_Subtag_cutOut 56 = .ok (.lreturn, 1) := by decide +kernel
theorem d_Subtag_cutOut_57 : decode c_Subtag_cutOut 57 = .ok (.iload 7, 2) := by decide +kernel
theorem d_Subtag_cutOut_59 : decode c_Subtag_cutOut 59 = .ok (.bipush (32), 2) := by decide +kernel
theorem d_Subtag_cutOut_61 : decode c_Subtag_cutOut 61 = .ok (.ior, 1) := by decide +kernel
theorem d_Subtag_cutOut_62 : decode c_Subtag_cutOut 62 = .ok (.i2l, 1) := by decide +kernel
theorem d_Subtag_cutOut_63 : decode c_Subtag_cutOut 63 = .ok (.lstore 8, 2) := by decide +kernel
theorem d_Subtag_cutOut_65 : decode c_Subtag_cutOut 65 = .ok (.lload 4, 2) := by decide +kernel
theorem d_Subtag_cutOut_67 : decode c_Subtag_cutOut 67 = .ok (.lload 8, 2) := by decide +kernel
theorem d_Subtag_cutOut_69 : decode c_Subtag_cutOut 69 = .ok (.bipush (56), 2) := by decide +kernel
theorem d_Subtag_cutOut_71 : decode c_Subtag_cutOut 71 = .ok (.bipush (8), 2) := by decide +kernel
theorem d_Subtag_cutOut_73 : decode c_Subtag_cutOut 73 = .ok (.iload 6, 2) := by decide +kernel
theorem d_Subtag_cutOut_75 : decode c_Subtag_cutOut 75 = .ok (.imul, 1) := by decide +kernel
theorem d_Subtag_cutOut_76 : decode c_Subtag_cutOut 76 = .ok (.isub, 1) := by decide +kernel
theorem d_Subtag_cutOut_77 : decode c_Subtag_cutOut 77 = .ok (.lshl, 1) := by decide +kernel
theorem d_Subtag_cutOut_78 : decode c_Subtag_cutOut 78 = .ok (.lor, 1) := by decide +kernel
theorem d_Subtag_cutOut_79 : decode c_Subtag_cutOut 79 = .ok (.lstore 4, 2) := by decide +kernel
theorem d_Subtag_cutOut_81 : decode c_Subtag_cutOut 81 = .ok (.iinc 6 (1), 3) := by decide +kernel
theorem d_Subtag_cutOut_84 : decode c_Subtag_cutOut 84 = .ok (.goto (-61), 3) := by decide +kernel
theorem d_Subtag_cutOut_87 : decode c_Subtag_cutOut 87 = .ok (.lload 4, 2) := by decide +kernel
theorem d_Subtag_cutOut_89 : decode c_Subtag_cutOut 89 = .ok (.lreturn, 1) := by decide +kernel
def sh_Subtag_cutOut_15 (F : Nat)  (w : im_W) : Option (Int64 × im_W) :=
  some ((0 : Int64), w)
set_option maxHeartbeats 4000000 in
set_option maxRecDepth 100000 in
theorem bk_Subtag_cutOut_15 {F : Nat} {r : Int64 × im_W} (X : im_X D vwCl tA lo im_NW c_Subtag_cutOut 10 (some .long) RC_Subtag im_T p s m args meth c)  (w : im_W) (hsh : sh_Subtag_cutOut_15 F w = some r) : im_WW D vwCl tA lo 10 p l e (im_rm 1 21) s m args below meth c 0 0 (MQ below (im_Post D vwCl tA lo (some (.long r.1)) r.2) args s 0 0 (fun q => lo ≤ q)) 15 [] [] w := by
  obtain ⟨hx, hb, hr, hts, hown, hlk, hml, hK, hN⟩ := id X
  intro H locs ls hH hl
  unfold sh_Subtag_cutOut_15 at hsh
  refine lv_lconst (v := 0) hx hb d_Subtag_cutOut_15 (by decide) ?_
  obtain rfl := Option.some.inj hsh
  exact im_lret hx hb hr hlk hH d_Subtag_cutOut_16
def sh_Subtag_cutOut_57 (F : Nat) (k23 : Nat → Int32 → Int32 → Int64 → Int32 → im_W → Option (Int64 × im_W)) (x0 : Nat) (x1 : Int32) (x3 : Int32) (x4 : Int64) (x6 : Int32) (x7 : Int32) (w : im_W) : Option (Int64 × im_W) :=
  k23 x0 x1 x3 (x4 ||| (im_lshl (((x7 ||| (32 : Int32))).toInt64) ((56 : Int32) - ((8 : Int32) * x6)))) (x6 + (1 : Int32)) w
set_option maxHeartbeats 4000000 in
set_option maxRecDepth 100000 in
theorem bk_Subtag_cutOut_57 {F : Nat} {r : Int64 × im_W} (X : im_X D vwCl tA lo im_NW c_Subtag_cutOut 10 (some .long) RC_Subtag im_T p s m args meth c) {k23 : Nat → Int32 → Int32 → Int64 → Int32 → im_W → Option (Int64 × im_W)} (hk23 : ∀ (x0 : Nat) (x1 : Int32) (x3 : Int32) (x4 : Int64) (x6 : Int32) (w : im_W), k23 x0 x1 x3 x4 x6 w = some r → im_WW D vwCl tA lo 10 p l e (im_rm 1 21) s m args below meth c 0 0 (MQ below (im_Post D vwCl tA lo (some (.long r.1)) r.2) args s 0 0 (fun q => lo ≤ q)) 23 [(0, .ref (lo + x0)), (1, .int x1), (3, .int x3), (4, .long x4), (6, .int x6)] [] w) (x0 : Nat) (x1 : Int32) (x3 : Int32) (x4 : Int64) (x6 : Int32) (x7 : Int32) (w : im_W) (hsh : sh_Subtag_cutOut_57 F k23 x0 x1 x3 x4 x6 x7 w = some r) : im_WW D vwCl tA lo 10 p l e (im_rm 1 21) s m args below meth c 0 0 (MQ below (im_Post D vwCl tA lo (some (.long r.1)) r.2) args s 0 0 (fun q => lo ≤ q)) 57 [(0, .ref (lo + x0)), (1, .int x1), (3, .int x3), (4, .long x4), (6, .int x6), (7, .int x7)] [] w := by
  obtain ⟨hx, hb, hr, hts, hown, hlk, hml, hK, hN⟩ := id X
  intro H locs ls hH hl
  unfold sh_Subtag_cutOut_57 at hsh
  refine lv_iload hx hb d_Subtag_cutOut_57 (lv_at hl 5 rfl) ?_
  refine lv_bipush (v := 32) hx hb d_Subtag_cutOut_59 (by decide) ?_
  refine lv_ior hx hb d_Subtag_cutOut_61 ?_
  refine lv_i2l (v := (((x7 ||| (32 : Int32))).toInt64)) hx hb d_Subtag_cutOut_62 rfl ?_
  refine lv_lstore (lv' := [(8, .long (((x7 ||| (32 : Int32))).toInt64)), (0, .ref (lo + x0)), (1, .int x1), (3, .int x3), (4, .long x4), (6, .int x6), (7, .int x7)]) hx hb d_Subtag_cutOut_63 hl (by decide) rfl (fun ls hl => ?_)
  refine lv_lload hx hb d_Subtag_cutOut_65 (lv_at hl 4 rfl) ?_
  refine lv_lload hx hb d_Subtag_cutOut_67 (lv_at hl 0 rfl) ?_
  refine lv_bipush (v := 56) hx hb d_Subtag_cutOut_69 (by decide) ?_
  refine lv_bipush (v := 8) hx hb d_Subtag_cutOut_71 (by decide) ?_
  refine lv_iload hx hb d_Subtag_cutOut_73 (lv_at hl 5 rfl) ?_
  refine lv_imul hx hb d_Subtag_cutOut_75 ?_
  refine lv_isub hx hb d_Subtag_cutOut_76 ?_
  refine lv_lshl (v := (im_lshl (((x7 ||| (32 : Int32))).toInt64) ((56 : Int32) - ((8 : Int32) * x6)))) hx hb d_Subtag_cutOut_77 rfl ?_
  refine lv_lor hx hb d_Subtag_cutOut_78 ?_
  refine lv_lstore (lv' := [(4, .long (x4 ||| (im_lshl (((x7 ||| (32 : Int32))).toInt64) ((56 : Int32) - ((8 : Int32) * x6))))), (8, .long (((x7 ||| (32 : Int32))).toInt64)), (0, .ref (lo + x0)), (1, .int x1), (3, .int x3), (6, .int x6), (7, .int x7)]) hx hb d_Subtag_cutOut_79 hl (by decide) rfl (fun ls hl => ?_)
  refine lv_iinc (v := (x6 + (1 : Int32))) (lv' := [(6, .int (x6 + (1 : Int32))), (4, .long (x4 ||| (im_lshl (((x7 ||| (32 : Int32))).toInt64) ((56 : Int32) - ((8 : Int32) * x6))))), (8, .long (((x7 ||| (32 : Int32))).toInt64)), (0, .ref (lo + x0)), (1, .int x1), (3, .int x3), (7, .int x7)]) hx hb d_Subtag_cutOut_81 hl (k := 5) rfl rfl (by decide) rfl (fun ls hl => ?_)
  refine lv_goto (tgt := 23) hx hb d_Subtag_cutOut_84 (by decide) ?_
  exact hk23 x0 x1 x3 (x4 ||| (im_lshl (((x7 ||| (32 : Int32))).toInt64) ((56 : Int32) - ((8 : Int32) * x6)))) (x6 + (1 : Int32)) w hsh H locs ls hH (lv_sub hl [3, 4, 5, 1, 0] rfl)
def sh_Subtag_cutOut_23 (F : Nat) : Nat → Nat → Int32 → Int32 → Int64 → Int32 → im_W → Option (Int64 × im_W)
  | 0, _, _, _, _, _, _ => none
  | f + 1, x0, x1, x3, x4, x6, w => (if x3 ≤ x6 then some (x4, w) else (im_is w 7 x0).bind fun u1 => im_b2 (sh_Text_at F x0 (x1 + x6) w) fun v7 w5 => im_b2 (sh_Subtag_isLetter F v7 w5) fun v10 w8 => (if v10 = 0 then im_b2 (sh_Subtag_isDigit F v7 w8) fun v13 w11 => (if v13 = 0 then some ((0 : Int64), w11) else sh_Subtag_cutOut_57 F (sh_Subtag_cutOut_23 F f) x0 x1 x3 x4 x6 v7 w11) else sh_Subtag_cutOut_57 F (sh_Subtag_cutOut_23 F f) x0 x1 x3 x4 x6 v7 w8))
set_option maxHeartbeats 4000000 in
set_option maxRecDepth 100000 in
theorem bk_Subtag_cutOut_23 {F : Nat} {r : Int64 × im_W} (X : im_X D vwCl tA lo im_NW c_Subtag_cutOut 10 (some .long) RC_Subtag im_T p s m args meth c) : ∀ (f : Nat) (x0 : Nat) (x1 : Int32) (x3 : Int32) (x4 : Int64) (x6 : Int32) (w : im_W), sh_Subtag_cutOut_23 F f x0 x1 x3 x4 x6 w = some r → im_WW D vwCl tA lo 10 p l e (im_rm 1 21) s m args below meth c 0 0 (MQ below (im_Post D vwCl tA lo (some (.long r.1)) r.2) args s 0 0 (fun q => lo ≤ q)) 23 [(0, .ref (lo + x0)), (1, .int x1), (3, .int x3), (4, .long x4), (6, .int x6)] [] w := by
  obtain ⟨hx, hb, hr, hts, hown, hlk, hml, hK, hN⟩ := id X
  intro f
  induction f with
  | zero =>
    intro x0 x1 x3 x4 x6 w hsh
    cases hsh
  | succ f ih =>
    intro x0 x1 x3 x4 x6 w hsh H locs ls hH hl
    unfold sh_Subtag_cutOut_23 at hsh
    refine lv_iload hx hb d_Subtag_cutOut_23 (lv_at hl 4 rfl) ?_
    refine lv_iload_n hx hb d_Subtag_cutOut_25 rfl (lv_at hl 2 rfl) ?_
    refine lv_icmp_ge (tgt := 87) hx hb d_Subtag_cutOut_26 (by decide) (fun cc => ?_) (fun cc => ?_)
    · have hsh := im_it hsh cc
      refine lv_lload hx hb d_Subtag_cutOut_87 (lv_at hl 3 rfl) ?_
      obtain rfl := Option.some.inj hsh
      exact im_lret hx hb hr hlk hH d_Subtag_cutOut_89
    · have hsh := im_if hsh cc
      refine lv_aload_n hx hb d_Subtag_cutOut_29 rfl (lv_at hl 0 rfl) ?_
      refine lv_iload_n hx hb d_Subtag_cutOut_30 rfl (lv_at hl 1 rfl) ?_
      refine lv_iload hx hb d_Subtag_cutOut_31 (lv_at hl 4 rfl) ?_
      refine lv_iadd hx hb d_Subtag_cutOut_33 ?_
      obtain ⟨u1, h2, hsh⟩ := im_bd hsh
      obtain ⟨g3, h4⟩ := im_is_s h2
      obtain ⟨v7, w5, h6, hsh⟩ := im_bd2 hsh
      refine im_afterI (va_runV (As := [.int (x1 + x6)]) (rest := []) (C := RC_Text) ⟨hx, hb, hml, hown, hts⟩ (met_Text_at h6) ⟨(callB_of 1 hts (im_good wd_268) rfl rfl rfl (hts _ wd_2) (hts _ wd_265) (by decide +kernel) ⟨Nat.le_of_ble_eq_true rfl, Nat.le_of_ble_eq_true rfl⟩), hts _ wd_266, hts _ wd_267⟩ (im_preV im_NW_ok hK hN hH (ci := 7) rfl rfl h4 _) rfl rfl hl.1 rfl (lv_room (Nat.le_of_ble_eq_true rfl)) d_Subtag_cutOut_34 ⟨Nat.le_of_ble_eq_true rfl, Nat.le_of_ble_eq_true rfl⟩) hH (fun H locs hH => ?_)
      refine lv_istore (lv' := [(7, .int v7), (0, .ref (lo + x0)), (1, .int x1), (3, .int x3), (4, .long x4), (6, .int x6)]) hx hb d_Subtag_cutOut_37 hl (by decide) rfl (fun ls hl => ?_)
      refine lv_iload hx hb d_Subtag_cutOut_39 (lv_at hl 0 rfl) ?_
      obtain ⟨v10, w8, h9, hsh⟩ := im_bd2 hsh
      refine im_afterI (va_runS (As := [.int v7]) (rest := []) ⟨hx, hb, hml, hown, hts⟩ (met_Subtag_isLetter h9) ⟨(callB_of 1 hts (im_good wd_230) rfl rfl rfl (hts _ wd_11) (hts _ wd_269) (by decide +kernel) ⟨Nat.le_of_ble_eq_true rfl, Nat.le_of_ble_eq_true rfl⟩), hts _ wd_229⟩ (im_pre im_NW_ok hK hN hH _) rfl rfl hl.1 rfl (lv_room (Nat.le_of_ble_eq_true rfl)) d_Subtag_cutOut_41 ⟨Nat.le_of_ble_eq_true rfl, Nat.le_of_ble_eq_true rfl⟩) hH (fun H locs hH => ?_)
      refine lv_if_ne (tgt := 57) hx hb d_Subtag_cutOut_44 (by decide) (fun cc => ?_) (fun cc => ?_)
      · have hsh := im_if hsh cc
        exact bk_Subtag_cutOut_57 X ih x0 x1 x3 x4 x6 v7 w8 hsh H locs ls hH (lv_sub hl [1, 2, 3, 4, 5, 0] rfl)
      · have hsh := im_it hsh cc
        refine lv_iload hx hb d_Subtag_cutOut_47 (lv_at hl 0 rfl) ?_
        obtain ⟨v13, w11, h12, hsh⟩ := im_bd2 hsh
        refine im_afterI (va_runS (As := [.int v7]) (rest := []) ⟨hx, hb, hml, hown, hts⟩ (met_Subtag_isDigit h12) ⟨(callB_of 1 hts (im_good wd_233) rfl rfl rfl (hts _ wd_11) (hts _ wd_270) (by decide +kernel) ⟨Nat.le_of_ble_eq_true rfl, Nat.le_of_ble_eq_true rfl⟩), hts _ wd_232⟩ (im_pre im_NW_ok hK hN hH _) rfl rfl hl.1 rfl (lv_room (Nat.le_of_ble_eq_true rfl)) d_Subtag_cutOut_49 ⟨Nat.le_of_ble_eq_true rfl, Nat.le_of_ble_eq_true rfl⟩) hH (fun H locs hH => ?_)
        refine lv_if_ne (tgt := 57) hx hb d_Subtag_cutOut_52 (by decide) (fun cc => ?_) (fun cc => ?_)
        · have hsh := im_if hsh cc
          exact bk_Subtag_cutOut_57 X ih x0 x1 x3 x4 x6 v7 w11 hsh H locs ls hH (lv_sub hl [1, 2, 3, 4, 5, 0] rfl)
        · have hsh := im_it hsh cc
          refine lv_lconst (v := 0) hx hb d_Subtag_cutOut_55 (by decide) ?_
          obtain rfl := Option.some.inj hsh
          exact im_lret hx hb hr hlk hH d_Subtag_cutOut_56
def sh_Subtag_cutOut (F : Nat) (x0 : Nat) (x1 : Int32) (x2 : Int32) (w : im_W) : Option (Int64 × im_W) :=
  (if (x2 - x1) < (1 : Int32) then sh_Subtag_cutOut_15 F w else (if (x2 - x1) ≤ (8 : Int32) then sh_Subtag_cutOut_23 F F x0 x1 (x2 - x1) (0 : Int64) (0 : Int32) w else sh_Subtag_cutOut_15 F w))
set_option maxHeartbeats 4000000 in
set_option maxRecDepth 100000 in
theorem met_Subtag_cutOut {F : Nat} {x0 : Nat} {x1 : Int32} {x2 : Int32} {w : im_W} {r : Int64 × im_W} (hsh : sh_Subtag_cutOut F x0 x1 x2 w = some r) : Met l y_Subtag_cutOut (Cond.code y_Subtag_cutOut c_Subtag_cutOut 10 (some .long) :: im_T) (im_rm 1 21) (im_Pre D vwCl tA lo im_NW [.ref (lo + x0), .int x1, .int x2] w) (im_Post D vwCl tA lo (some (.long r.1)) r.2) 0 0 (fun q => lo ≤ q) := by
  refine im_ofW (cc := c_Subtag_cutOut) (nL := 10) (ret := (some .long)) (by decide) (Nat.le_of_ble_eq_true rfl) ?_
  intro p e s m args below meth c X H locs ls hH hl
  obtain ⟨hx, hb, hr, hts, hown, hlk, hml, hK, hN⟩ := id X
  have hl : lv_has ls 10 [(0, .ref (lo + x0)), (1, .int x1), (2, .int x2)] := hl
  unfold sh_Subtag_cutOut at hsh
  refine lv_iload_n hx hb d_Subtag_cutOut_0 rfl (lv_at hl 2 rfl) ?_
  refine lv_iload_n hx hb d_Subtag_cutOut_1 rfl (lv_at hl 1 rfl) ?_
  refine lv_isub hx hb d_Subtag_cutOut_2 ?_
  refine lv_istore_n (lv' := [(3, .int (x2 - x1)), (0, .ref (lo + x0)), (1, .int x1), (2, .int x2)]) hx hb d_Subtag_cutOut_3 rfl hl (by decide) rfl (fun ls hl => ?_)
  refine lv_iload_n hx hb d_Subtag_cutOut_4 rfl (lv_at hl 0 rfl) ?_
  refine lv_iconst (v := 1) hx hb d_Subtag_cutOut_5 (by decide) ?_
  refine lv_icmp_lt (tgt := 15) hx hb d_Subtag_cutOut_6 (by decide) (fun cc => ?_) (fun cc => ?_)
  · have hsh := im_it hsh cc
    exact bk_Subtag_cutOut_15 X w hsh H locs ls hH (lv_sub hl [] rfl)
  · have hsh := im_if hsh cc
    refine lv_iload_n hx hb d_Subtag_cutOut_9 rfl (lv_at hl 0 rfl) ?_
    refine lv_bipush (v := 8) hx hb d_Subtag_cutOut_10 (by decide) ?_
    refine lv_icmp_le (tgt := 17) hx hb d_Subtag_cutOut_12 (by decide) (fun cc => ?_) (fun cc => ?_)
    · have hsh := im_it hsh cc
      refine lv_lconst (v := 0) hx hb d_Subtag_cutOut_17 (by decide) ?_
      refine lv_lstore (lv' := [(4, .long (0 : Int64)), (3, .int (x2 - x1)), (0, .ref (lo + x0)), (1, .int x1), (2, .int x2)]) hx hb d_Subtag_cutOut_18 hl (by decide) rfl (fun ls hl => ?_)
      refine lv_iconst (v := 0) hx hb d_Subtag_cutOut_20 (by decide) ?_
      refine lv_istore (lv' := [(6, .int (0 : Int32)), (4, .long (0 : Int64)), (3, .int (x2 - x1)), (0, .ref (lo + x0)), (1, .int x1), (2, .int x2)]) hx hb d_Subtag_cutOut_21 hl (by decide) rfl (fun ls hl => ?_)
      exact bk_Subtag_cutOut_23 X F x0 x1 (x2 - x1) (0 : Int64) (0 : Int32) w hsh H locs ls hH (lv_sub hl [3, 4, 2, 1, 0] rfl)
    · have hsh := im_if hsh cc
      exact bk_Subtag_cutOut_15 X w hsh H locs ls hH (lv_sub hl [] rfl)
theorem wd_287 : (Jvm.Cond.constantLong "LanguageTags$Subtag" (22 : Nat) (255 : Int64)) ∈ im_T := im_memT (i := 287) (by decide +kernel) (by decide +kernel)
theorem d_Subtag_at_0 : decode c_Subtag_at 0 = .ok (.iload_n 2, 1) := by decide +kernel
theorem d_Subtag_at_1 : decode c_Subtag_at 1 = .ok (.ifCond .lt (9), 3) := by decide +kernel
theorem d_Subtag_at_4 : decode c_Subtag_at 4 = .ok (.iload_n 2, 1) := by decide +kernel
theorem d_Subtag_at_5 : decode c_Subtag_at 5 = .ok (.bipush (8), 2) := by decide +kernel
theorem d_Subtag_at_7 : decode c_Subtag_at 7 = .ok (.if_icmp .lt (7), 3) := by decide +kernel
theorem d_Subtag_at_10 : decode c_Subtag_at 10 = .ok (.iconst 0, 1) := by decide +kernel
theorem d_Subtag_at_11 : decode c_Subtag_at 11 = .ok (.goto (18), 3) := by decide +kernel
theorem d_Subtag_at_14 : decode c_Subtag_at 14 = .ok (.lload_n 0, 1) := by decide +kernel
theorem d_Subtag_at_15 : decode c_Subtag_at 15 = .ok (.bipush (56), 2) := by decide +kernel
theorem d_Subtag_at_17 : decode c_Subtag_at 17 = .ok (.bipush (8), 2) := by decide +kernel
theorem d_Subtag_at_19 : decode c_Subtag_at 19 = .ok (.iload_n 2, 1) := by decide +kernel
theorem d_Subtag_at_20 : decode c_Subtag_at 20 = .ok (.imul, 1) := by decide +kernel
theorem d_Subtag_at_21 : decode c_Subtag_at 21 = .ok (.isub, 1) := by decide +kernel
theorem d_Subtag_at_22 : decode c_Subtag_at 22 = .ok (.lushr, 1) := by decide +kernel
theorem d_Subtag_at_23 : decode c_Subtag_at 23 = .ok (.ldc2_w 22, 3) := by decide +kernel
theorem d_Subtag_at_26 : decode c_Subtag_at 26 = .ok (.land, 1) := by decide +kernel
theorem d_Subtag_at_27 : decode c_Subtag_at 27 = .ok (.l2i, 1) := by decide +kernel
theorem d_Subtag_at_28 : decode c_Subtag_at 28 = .ok (.i2c, 1) := by decide +kernel
theorem d_Subtag_at_29 : decode c_Subtag_at 29 = .ok (.ireturn, 1) := by decide +kernel
def sh_Subtag_at_29 (F : Nat) (y0 : Int32) (w : im_W) : Option (Int32 × im_W) :=
  im_rc y0 w
set_option maxHeartbeats 4000000 in
set_option maxRecDepth 100000 in
theorem bk_Subtag_at_29 {F : Nat} {r : Int32 × im_W} (X : im_X D vwCl tA lo im_NW c_Subtag_at 3 (some .char) RC_Subtag im_T p s m args meth c) (y0 : Int32) (w : im_W) (hsh : sh_Subtag_at_29 F y0 w = some r) : im_WW D vwCl tA lo 3 p l e (im_rm 0 0) s m args below meth c 0 0 (MQ below (im_Post D vwCl tA lo (some (.int r.1)) r.2) args s 0 0 (fun q => lo ≤ q)) 29 [] [.int y0] w := by
  obtain ⟨hx, hb, hr, hts, hown, hlk, hml, hK, hN⟩ := id X
  intro H locs ls hH hl
  unfold sh_Subtag_at_29 at hsh
  obtain ⟨rfl, hn⟩ := im_rc_s hsh
  exact im_zret hx hb hr hlk hn hH d_Subtag_at_29
def sh_Subtag_at_10 (F : Nat)  (w : im_W) : Option (Int32 × im_W) :=
  sh_Subtag_at_29 F (0 : Int32) w
set_option maxHeartbeats 4000000 in
set_option maxRecDepth 100000 in
theorem bk_Subtag_at_10 {F : Nat} {r : Int32 × im_W} (X : im_X D vwCl tA lo im_NW c_Subtag_at 3 (some .char) RC_Subtag im_T p s m args meth c)  (w : im_W) (hsh : sh_Subtag_at_10 F w = some r) : im_WW D vwCl tA lo 3 p l e (im_rm 0 0) s m args below meth c 0 0 (MQ below (im_Post D vwCl tA lo (some (.int r.1)) r.2) args s 0 0 (fun q => lo ≤ q)) 10 [] [] w := by
  obtain ⟨hx, hb, hr, hts, hown, hlk, hml, hK, hN⟩ := id X
  intro H locs ls hH hl
  unfold sh_Subtag_at_10 at hsh
  refine lv_iconst (v := 0) hx hb d_Subtag_at_10 (by decide) ?_
  refine lv_goto (tgt := 29) hx hb d_Subtag_at_11 (by decide) ?_
  exact bk_Subtag_at_29 X (0 : Int32) w hsh H locs ls hH (lv_sub hl [] rfl)
def sh_Subtag_at (F : Nat) (x0 : Int64) (x2 : Int32) (w : im_W) : Option (Int32 × im_W) :=
  (if x2 < 0 then sh_Subtag_at_10 F w else (if x2 < (8 : Int32) then sh_Subtag_at_29 F (im_i2c ((((im_lushr x0 ((56 : Int32) - ((8 : Int32) * x2))) &&& (255 : Int64))).toInt32)) w else sh_Subtag_at_10 F w))
set_option maxHeartbeats 4000000 in
set_option maxRecDepth 100000 in
theorem met_Subtag_at {F : Nat} {x0 : Int64} {x2 : Int32} {w : im_W} {r : Int32 × im_W} (hsh : sh_Subtag_at F x0 x2 w = some r) : Met l y_Subtag_at (Cond.code y_Subtag_at c_Subtag_at 3 (some .char) :: im_T) (im_rm 0 0) (im_Pre D vwCl tA lo im_NW [.long x0, .int x2] w) (im_Post D vwCl tA lo (some (.int r.1)) r.2) 0 0 (fun q => lo ≤ q) := by
  refine im_ofW (cc := c_Subtag_at) (nL := 3) (ret := (some .char)) (by decide) (Nat.le_of_ble_eq_true rfl) ?_
  intro p e s m args below meth c X H locs ls hH hl
  obtain ⟨hx, hb, hr, hts, hown, hlk, hml, hK, hN⟩ := id X
  have hl : lv_has ls 3 [(0, .long x0), (2, .int x2)] := hl
  unfold sh_Subtag_at at hsh
  refine lv_iload_n hx hb d_Subtag_at_0 rfl (lv_at hl 1 rfl) ?_
  refine lv_if_lt (tgt := 10) hx hb d_Subtag_at_1 (by decide) (fun cc => ?_) (fun cc => ?_)
  · have hsh := im_it hsh cc
    exact bk_Subtag_at_10 X w hsh H locs ls hH (lv_sub hl [] rfl)
  · have hsh := im_if hsh cc
    refine lv_iload_n hx hb d_Subtag_at_4 rfl (lv_at hl 1 rfl) ?_
    refine lv_bipush (v := 8) hx hb d_Subtag_at_5 (by decide) ?_
    refine lv_icmp_lt (tgt := 14) hx hb d_Subtag_at_7 (by decide) (fun cc => ?_) (fun cc => ?_)
    · have hsh := im_it hsh cc
      refine lv_lload_n hx hb d_Subtag_at_14 rfl (lv_at hl 0 rfl) ?_
      refine lv_bipush (v := 56) hx hb d_Subtag_at_15 (by decide) ?_
      refine lv_bipush (v := 8) hx hb d_Subtag_at_17 (by decide) ?_
      refine lv_iload_n hx hb d_Subtag_at_19 rfl (lv_at hl 1 rfl) ?_
      refine lv_imul hx hb d_Subtag_at_20 ?_
      refine lv_isub hx hb d_Subtag_at_21 ?_
      refine lv_lushr (v := (im_lushr x0 ((56 : Int32) - ((8 : Int32) * x2)))) hx hb d_Subtag_at_22 rfl ?_
      refine lv_ldc2 (v := 255) hx hb hown (hts _ wd_287) d_Subtag_at_23 ?_
      refine lv_land hx hb d_Subtag_at_26 ?_
      refine lv_l2i (v := ((((im_lushr x0 ((56 : Int32) - ((8 : Int32) * x2))) &&& (255 : Int64))).toInt32)) hx hb d_Subtag_at_27 rfl ?_
      refine lv_i2c (v := (im_i2c ((((im_lushr x0 ((56 : Int32) - ((8 : Int32) * x2))) &&& (255 : Int64))).toInt32))) hx hb d_Subtag_at_28 rfl ?_
      exact bk_Subtag_at_29 X (im_i2c ((((im_lushr x0 ((56 : Int32) - ((8 : Int32) * x2))) &&& (255 : Int64))).toInt32)) w hsh H locs ls hH (lv_sub hl [] rfl)
    · have hsh := im_if hsh cc
      exact bk_Subtag_at_10 X w hsh H locs ls hH (lv_sub hl [] rfl)
theorem wd_284 : (Jvm.Cond.methodLink "LanguageTags$Subtag" (24 : Nat) ({ cls := "LanguageTags$Subtag", name := "at", desc := "(JI)C" } : Jvm.MethodName)) ∈ im_T := im_memT (i := 284) (by decide +kernel) (by decide +kernel)
theorem wd_285 : (Jvm.Cond.static ({ cls := "LanguageTags$Subtag", name := "at", desc := "(JI)C" } : Jvm.MethodName)) ∈ im_T := im_memT (i := 285) (by decide +kernel) (by decide +kernel)
theorem wd_286 : (Jvm.Cond.code ({ cls := "LanguageTags$Subtag", name := "at", desc := "(JI)C" } : Jvm.MethodName) prog_8_method_6_code (3 : Nat) (Option.some Jvm.ClassFile.FieldType.char)) ∈ im_T := im_memT (i := 286) (by decide +kernel) (by decide +kernel)
theorem d_Subtag_lengthOf_0 : decode c_Subtag_lengthOf 0 = .ok (.iconst 0, 1) := by decide +kernel
theorem d_Subtag_lengthOf_1 : decode c_Subtag_lengthOf 1 = .ok (.istore_n 2, 1) := by decide +kernel
theorem d_Subtag_lengthOf_2 : decode c_Subtag_lengthOf 2 = .ok (.iconst 0, 1) := by decide +kernel
theorem d_Subtag_lengthOf_3 : decode c_Subtag_lengthOf 3 = .ok (.istore_n 3, 1) := by decide +kernel
theorem d_Subtag_lengthOf_4 : decode c_Subtag_lengthOf 4 = .ok (.iload_n 3, 1) := by decide +kernel
theorem d_Subtag_lengthOf_5 : decode c_Subtag_lengthOf 5 = .ok (.bipush (8), 2) := by decide +kernel
theorem d_Subtag_lengthOf_7 : decode c_Subtag_lengthOf 7 = .ok (.if_icmp .ge (20), 3) := by decide +kernel
theorem d_Subtag_lengthOf_10 : decode c_Subtag_lengthOf 10 = .ok (.lload_n 0, 1) := by decide +kernel
theorem d_Subtag_lengthOf_11 : decode c_Subtag_lengthOf 11 = .ok (.iload_n 3, 1) := by decide +kernel
theorem d_Subtag_lengthOf_12 : decode c_Subtag_lengthOf 12 = .ok (.invokestatic 24, 3) := by decide +kernel
theorem d_Subtag_lengthOf_15 : decode c_Subtag_lengthOf 15 = .ok (.ifCond .eq (6), 3) := by decide +kernel
theorem d_Subtag_lengthOf_18 : decode c_Subtag_lengthOf 18 = .ok (.iinc 2 (1), 3) := by decide +kernel
theorem d_Subtag_lengthOf_21 : decode c_Subtag_lengthOf 21 = .ok (.iinc 3 (1), 3) := by decide +kernel
theorem d_Subtag_lengthOf_24 : decode c_Subtag_lengthOf 24 = .ok (.goto (-20), 3) := by decide +kernel
theorem d_Subtag_lengthOf_27 : decode c_Subtag_lengthOf 27 = .ok (.iload_n 2, 1) := by decide +kernel
theorem d_Subtag_lengthOf_28 : decode c_Subtag_lengthOf 28 = .ok (.ireturn, 1) := by decide +kernel
def sh_Subtag_lengthOf_21 (F : Nat) (k4 : Int64 → Int32 → Int32 → im_W → Option (Int32 × im_W)) (x0 : Int64) (x2 : Int32) (x3 : Int32) (w : im_W) : Option (Int32 × im_W) :=
  k4 x0 x2 (x3 + (1 : Int32)) w
set_option maxHeartbeats 4000000 in
set_option maxRecDepth 100000 in
theorem bk_Subtag_lengthOf_21 {F : Nat} {r : Int32 × im_W} (X : im_X D vwCl tA lo im_NW c_Subtag_lengthOf 4 (some .int) RC_Subtag im_T p s m args meth c) {k4 : Int64 → Int32 → Int32 → im_W → Option (Int32 × im_W)} (hk4 : ∀ (x0 : Int64) (x2 : Int32) (x3 : Int32) (w : im_W), k4 x0 x2 x3 w = some r → im_WW D vwCl tA lo 4 p l e (im_rm 1 22) s m args below meth c 0 0 (MQ below (im_Post D vwCl tA lo (some (.int r.1)) r.2) args s 0 0 (fun q => lo ≤ q)) 4 [(0, .long x0), (2, .int x2), (3, .int x3)] [] w) (x0 : Int64) (x2 : Int32) (x3 : Int32) (w : im_W) (hsh : sh_Subtag_lengthOf_21 F k4 x0 x2 x3 w = some r) : im_WW D vwCl tA lo 4 p l e (im_rm 1 22) s m args below meth c 0 0 (MQ below (im_Post D vwCl tA lo (some (.int r.1)) r.2) args s 0 0 (fun q => lo ≤ q)) 21 [(0, .long x0), (2, .int x2), (3, .int x3)] [] w := by
  obtain ⟨hx, hb, hr, hts, hown, hlk, hml, hK, hN⟩ := id X
  intro H locs ls hH hl
  unfold sh_Subtag_lengthOf_21 at hsh
  refine lv_iinc (v := (x3 + (1 : Int32))) (lv' := [(3, .int (x3 + (1 : Int32))), (0, .long x0), (2, .int x2)]) hx hb d_Subtag_lengthOf_21 hl (k := 2) rfl rfl (by decide) rfl (fun ls hl => ?_)
  refine lv_goto (tgt := 4) hx hb d_Subtag_lengthOf_24 (by decide) ?_
  exact hk4 x0 x2 (x3 + (1 : Int32)) w hsh H locs ls hH (lv_sub hl [1, 2, 0] rfl)
def sh_Subtag_lengthOf_4 (F : Nat) : Nat → Int64 → Int32 → Int32 → im_W → Option (Int32 × im_W)
  | 0, _, _, _, _ => none
  | f + 1, x0, x2, x3, w => (if (8 : Int32) ≤ x3 then some (x2, w) else im_b2 (sh_Subtag_at F x0 x3 w) fun v3 w1 => (if v3 = 0 then sh_Subtag_lengthOf_21 F (sh_Subtag_lengthOf_4 F f) x0 x2 x3 w1 else sh_Subtag_lengthOf_21 F (sh_Subtag_lengthOf_4 F f) x0 (x2 + (1 : Int32)) x3 w1))
set_option maxHeartbeats 4000000 in
set_option maxRecDepth 100000 in
theorem bk_Subtag_lengthOf_4 {F : Nat} {r : Int32 × im_W} (X : im_X D vwCl tA lo im_NW c_Subtag_lengthOf 4 (some .int) RC_Subtag im_T p s m args meth c) : ∀ (f : Nat) (x0 : Int64) (x2 : Int32) (x3 : Int32) (w : im_W), sh_Subtag_lengthOf_4 F f x0 x2 x3 w = some r → im_WW D vwCl tA lo 4 p l e (im_rm 1 22) s m args below meth c 0 0 (MQ below (im_Post D vwCl tA lo (some (.int r.1)) r.2) args s 0 0 (fun q => lo ≤ q)) 4 [(0, .long x0), (2, .int x2), (3, .int x3)] [] w := by
  obtain ⟨hx, hb, hr, hts, hown, hlk, hml, hK, hN⟩ := id X
  intro f
  induction f with
  | zero =>
    intro x0 x2 x3 w hsh
    cases hsh
  | succ f ih =>
    intro x0 x2 x3 w hsh H locs ls hH hl
    unfold sh_Subtag_lengthOf_4 at hsh
    refine lv_iload_n hx hb d_Subtag_lengthOf_4 rfl (lv_at hl 2 rfl) ?_
    refine lv_bipush (v := 8) hx hb d_Subtag_lengthOf_5 (by decide) ?_
    refine lv_icmp_ge (tgt := 27) hx hb d_Subtag_lengthOf_7 (by decide) (fun cc => ?_) (fun cc => ?_)
    · have hsh := im_it hsh cc
      refine lv_iload_n hx hb d_Subtag_lengthOf_27 rfl (lv_at hl 1 rfl) ?_
      obtain rfl := Option.some.inj hsh
      exact im_iret hx hb hr hlk hH d_Subtag_lengthOf_28
    · have hsh := im_if hsh cc
      refine lv_lload_n hx hb d_Subtag_lengthOf_10 rfl (lv_at hl 0 rfl) ?_
      refine lv_iload_n hx hb d_Subtag_lengthOf_11 rfl (lv_at hl 2 rfl) ?_
      obtain ⟨v3, w1, h2, hsh⟩ := im_bd2 hsh
      refine im_afterI (va_runS (As := [.long x0, .int x3]) (rest := []) ⟨hx, hb, hml, hown, hts⟩ (met_Subtag_at h2) ⟨(callB_of 2 hts (im_good wd_286) rfl rfl rfl (hts _ wd_11) (hts _ wd_284) (by decide +kernel) ⟨Nat.le_of_ble_eq_true rfl, Nat.le_of_ble_eq_true rfl⟩), hts _ wd_285⟩ (im_pre im_NW_ok hK hN hH _) rfl rfl hl.1 rfl (lv_room (Nat.le_of_ble_eq_true rfl)) d_Subtag_lengthOf_12 ⟨Nat.le_of_ble_eq_true rfl, Nat.le_of_ble_eq_true rfl⟩) hH (fun H locs hH => ?_)
      refine lv_if_eq (tgt := 21) hx hb d_Subtag_lengthOf_15 (by decide) (fun cc => ?_) (fun cc => ?_)
      · have hsh := im_it hsh cc
        exact bk_Subtag_lengthOf_21 X ih x0 x2 x3 w1 hsh H locs ls hH (lv_sub hl [0, 1, 2] rfl)
      · have hsh := im_if hsh cc
        refine lv_iinc (v := (x2 + (1 : Int32))) (lv' := [(2, .int (x2 + (1 : Int32))), (0, .long x0), (3, .int x3)]) hx hb d_Subtag_lengthOf_18 hl (k := 1) rfl rfl (by decide) rfl (fun ls hl => ?_)
        exact bk_Subtag_lengthOf_21 X ih x0 (x2 + (1 : Int32)) x3 w1 hsh H locs ls hH (lv_sub hl [1, 0, 2] rfl)
def sh_Subtag_lengthOf (F : Nat) (x0 : Int64) (w : im_W) : Option (Int32 × im_W) :=
  sh_Subtag_lengthOf_4 F F x0 (0 : Int32) (0 : Int32) w
set_option maxHeartbeats 4000000 in
set_option maxRecDepth 100000 in
theorem met_Subtag_lengthOf {F : Nat} {x0 : Int64} {w : im_W} {r : Int32 × im_W} (hsh : sh_Subtag_lengthOf F x0 w = some r) : Met l y_Subtag_lengthOf (Cond.code y_Subtag_lengthOf c_Subtag_lengthOf 4 (some .int) :: im_T) (im_rm 1 22) (im_Pre D vwCl tA lo im_NW [.long x0] w) (im_Post D vwCl tA lo (some (.int r.1)) r.2) 0 0 (fun q => lo ≤ q) := by
  refine im_ofW (cc := c_Subtag_lengthOf) (nL := 4) (ret := (some .int)) (by decide) (Nat.le_of_ble_eq_true rfl) ?_
  intro p e s m args below meth c X H locs ls hH hl
  obtain ⟨hx, hb, hr, hts, hown, hlk, hml, hK, hN⟩ := id X
  have hl : lv_has ls 4 [(0, .long x0)] := hl
  unfold sh_Subtag_lengthOf at hsh
  refine lv_iconst (v := 0) hx hb d_Subtag_lengthOf_0 (by decide) ?_
  refine lv_istore_n (lv' := [(2, .int (0 : Int32)), (0, .long x0)]) hx hb d_Subtag_lengthOf_1 rfl hl (by decide) rfl (fun ls hl => ?_)
  refine lv_iconst (v := 0) hx hb d_Subtag_lengthOf_2 (by decide) ?_
  refine lv_istore_n (lv' := [(3, .int (0 : Int32)), (2, .int (0 : Int32)), (0, .long x0)]) hx hb d_Subtag_lengthOf_3 rfl hl (by decide) rfl (fun ls hl => ?_)
  exact bk_Subtag_lengthOf_4 X F x0 (0 : Int32) (0 : Int32) w hsh H locs ls hH (lv_sub hl [2, 1, 0] rfl)
theorem d_Subtag_letters_0 : decode c_Subtag_letters 0 = .ok (.iconst 0, 1) := by decide +kernel
theorem d_Subtag_letters_1 : decode c_Subtag_letters 1 = .ok (.istore_n 2, 1) := by decide +kernel
theorem d_Subtag_letters_2 : decode c_Subtag_letters 2 = .ok (.iconst 0, 1) := by decide +kernel
theorem d_Subtag_letters_3 : decode c_Subtag_letters 3 = .ok (.istore_n 3, 1) := by decide +kernel
theorem d_Subtag_letters_4 : decode c_Subtag_letters 4 = .ok (.iload_n 3, 1) := by decide +kernel
theorem d_Subtag_letters_5 : decode c_Subtag_letters 5 = .ok (.bipush (8), 2) := by decide +kernel
theorem d_Subtag_letters_7 : decode c_Subtag_letters 7 = .ok (.if_icmp .ge (23), 3) := by decide +kernel
theorem d_Subtag_letters_10 : decode c_Subtag_letters 10 = .ok (.lload_n 0, 1) := by decide +kernel
theorem d_Subtag_letters_11 : decode c_Subtag_letters 11 = .ok (.iload_n 3, 1) := by decide +kernel
theorem d_Subtag_letters_12 : decode c_Subtag_letters 12 = .ok (.invokestatic 24, 3) := by decide +kernel
theorem d_Subtag_letters_15 : decode c_Subtag_letters 15 = .ok (.invokestatic 15, 3) := by decide +kernel
theorem d_Subtag_letters_18 : decode c_Subtag_letters 18 = .ok (.ifCond .eq (6), 3) := by decide +kernel
theorem d_Subtag_letters_21 : decode c_Subtag_letters 21 = .ok (.iinc 2 (1), 3) := by decide +kernel
theorem d_Subtag_letters_24 : decode c_Subtag_letters 24 = .ok (.iinc 3 (1), 3) := by decide +kernel
theorem d_Subtag_letters_27 : decode c_Subtag_letters 27 = .ok (.goto (-23), 3) := by decide +kernel
theorem d_Subtag_letters_30 : decode c_Subtag_letters 30 = .ok (.iload_n 2, 1) := by decide +kernel
theorem d_Subtag_letters_31 : decode c_Subtag_letters 31 = .ok (.ireturn, 1) := by decide +kernel
def sh_Subtag_letters_24 (F : Nat) (k4 : Int64 → Int32 → Int32 → im_W → Option (Int32 × im_W)) (x0 : Int64) (x2 : Int32) (x3 : Int32) (w : im_W) : Option (Int32 × im_W) :=
  k4 x0 x2 (x3 + (1 : Int32)) w
set_option maxHeartbeats 4000000 in
set_option maxRecDepth 100000 in
theorem bk_Subtag_letters_24 {F : Nat} {r : Int32 × im_W} (X : im_X D vwCl tA lo im_NW c_Subtag_letters 4 (some .int) RC_Subtag im_T p s m args meth c) {k4 : Int64 → Int32 → Int32 → im_W → Option (Int32 × im_W)} (hk4 : ∀ (x0 : Int64) (x2 : Int32) (x3 : Int32) (w : im_W), k4 x0 x2 x3 w = some r → im_WW D vwCl tA lo 4 p l e (im_rm 1 22) s m args below meth c 0 0 (MQ below (im_Post D vwCl tA lo (some (.int r.1)) r.2) args s 0 0 (fun q => lo ≤ q)) 4 [(0, .long x0), (2, .int x2), (3, .int x3)] [] w) (x0 : Int64) (x2 : Int32) (x3 : Int32) (w : im_W) (hsh : sh_Subtag_letters_24 F k4 x0 x2 x3 w = some r) : im_WW D vwCl tA lo 4 p l e (im_rm 1 22) s m args below meth c 0 0 (MQ below (im_Post D vwCl tA lo (some (.int r.1)) r.2) args s 0 0 (fun q => lo ≤ q)) 24 [(0, .long x0), (2, .int x2), (3, .int x3)] [] w := by
  obtain ⟨hx, hb, hr, hts, hown, hlk, hml, hK, hN⟩ := id X
  intro H locs ls hH hl
  unfold sh_Subtag_letters_24 at hsh
  refine lv_iinc (v := (x3 + (1 : Int32))) (lv' := [(3, .int (x3 + (1 : Int32))), (0, .long x0), (2, .int x2)]) hx hb d_Subtag_letters_24 hl (k := 2) rfl rfl (by decide) rfl (fun ls hl => ?_)
  refine lv_goto (tgt := 4) hx hb d_Subtag_letters_27 (by decide) ?_
  exact hk4 x0 x2 (x3 + (1 : Int32)) w hsh H locs ls hH (lv_sub hl [1, 2, 0] rfl)
def sh_Subtag_letters_4 (F : Nat) : Nat → Int64 → Int32 → Int32 → im_W → Option (Int32 × im_W)
  | 0, _, _, _, _ => none
  | f + 1, x0, x2, x3, w => (if (8 : Int32) ≤ x3 then some (x2, w) else im_b2 (sh_Subtag_at F x0 x3 w) fun v3 w1 => im_b2 (sh_Subtag_isLetter F v3 w1) fun v6 w4 => (if v6 = 0 then sh_Subtag_letters_24 F (sh_Subtag_letters_4 F f) x0 x2 x3 w4 else sh_Subtag_letters_24 F (sh_Subtag_letters_4 F f) x0 (x2 + (1 : Int32)) x3 w4))
set_option maxHeartbeats 4000000 in
set_option maxRecDepth 100000 in
theorem bk_Subtag_letters_4 {F : Nat} {r : Int32 × im_W} (X : im_X D vwCl tA lo im_NW c_Subtag_letters 4 (some .int) RC_Subtag im_T p s m args meth c) : ∀ (f : Nat) (x0 : Int64) (x2 : Int32) (x3 : Int32) (w : im_W), sh_Subtag_letters_4 F f x0 x2 x3 w = some r → im_WW D vwCl tA lo 4 p l e (im_rm 1 22) s m args below meth c 0 0 (MQ below (im_Post D vwCl tA lo (some (.int r.1)) r.2) args s 0 0 (fun q => lo ≤ q)) 4 [(0, .long x0), (2, .int x2), (3, .int x3)] [] w := by
  obtain ⟨hx, hb, hr, hts, hown, hlk, hml, hK, hN⟩ := id X
  intro f
  induction f with
  | zero =>
    intro x0 x2 x3 w hsh
    cases hsh
  | succ f ih =>
    intro x0 x2 x3 w hsh H locs ls hH hl
    unfold sh_Subtag_letters_4 at hsh
    refine lv_iload_n hx hb d_Subtag_letters_4 rfl (lv_at hl 2 rfl) ?_
    refine lv_bipush (v := 8) hx hb d_Subtag_letters_5 (by decide) ?_
    refine lv_icmp_ge (tgt := 30) hx hb d_Subtag_letters_7 (by decide) (fun cc => ?_) (fun cc => ?_)
    · have hsh := im_it hsh cc
      refine lv_iload_n hx hb d_Subtag_letters_30 rfl (lv_at hl 1 rfl) ?_
      obtain rfl := Option.some.inj hsh
      exact im_iret hx hb hr hlk hH d_Subtag_letters_31
    · have hsh := im_if hsh cc
      refine lv_lload_n hx hb d_Subtag_letters_10 rfl (lv_at hl 0 rfl) ?_
      refine lv_iload_n hx hb d_Subtag_letters_11 rfl (lv_at hl 2 rfl) ?_
      obtain ⟨v3, w1, h2, hsh⟩ := im_bd2 hsh
      refine im_afterI (va_runS (As := [.long x0, .int x3]) (rest := []) ⟨hx, hb, hml, hown, hts⟩ (met_Subtag_at h2) ⟨(callB_of 2 hts (im_good wd_286) rfl rfl rfl (hts _ wd_11) (hts _ wd_284) (by decide +kernel) ⟨Nat.le_of_ble_eq_true rfl, Nat.le_of_ble_eq_true rfl⟩), hts _ wd_285⟩ (im_pre im_NW_ok hK hN hH _) rfl rfl hl.1 rfl (lv_room (Nat.le_of_ble_eq_true rfl)) d_Subtag_letters_12 ⟨Nat.le_of_ble_eq_true rfl, Nat.le_of_ble_eq_true rfl⟩) hH (fun H locs hH => ?_)
      obtain ⟨v6, w4, h5, hsh⟩ := im_bd2 hsh
      refine im_afterI (va_runS (As := [.int v3]) (rest := []) ⟨hx, hb, hml, hown, hts⟩ (met_Subtag_isLetter h5) ⟨(callB_of 1 hts (im_good wd_230) rfl rfl rfl (hts _ wd_11) (hts _ wd_269) (by decide +kernel) ⟨Nat.le_of_ble_eq_true rfl, Nat.le_of_ble_eq_true rfl⟩), hts _ wd_229⟩ (im_pre im_NW_ok hK hN hH _) rfl rfl hl.1 rfl (lv_room (Nat.le_of_ble_eq_true rfl)) d_Subtag_letters_15 ⟨Nat.le_of_ble_eq_true rfl, Nat.le_of_ble_eq_true rfl⟩) hH (fun H locs hH => ?_)
      refine lv_if_eq (tgt := 24) hx hb d_Subtag_letters_18 (by decide) (fun cc => ?_) (fun cc => ?_)
      · have hsh := im_it hsh cc
        exact bk_Subtag_letters_24 X ih x0 x2 x3 w4 hsh H locs ls hH (lv_sub hl [0, 1, 2] rfl)
      · have hsh := im_if hsh cc
        refine lv_iinc (v := (x2 + (1 : Int32))) (lv' := [(2, .int (x2 + (1 : Int32))), (0, .long x0), (3, .int x3)]) hx hb d_Subtag_letters_21 hl (k := 1) rfl rfl (by decide) rfl (fun ls hl => ?_)
        exact bk_Subtag_letters_24 X ih x0 (x2 + (1 : Int32)) x3 w4 hsh H locs ls hH (lv_sub hl [1, 0, 2] rfl)
def sh_Subtag_letters (F : Nat) (x0 : Int64) (w : im_W) : Option (Int32 × im_W) :=
  sh_Subtag_letters_4 F F x0 (0 : Int32) (0 : Int32) w
set_option maxHeartbeats 4000000 in
set_option maxRecDepth 100000 in
theorem met_Subtag_letters {F : Nat} {x0 : Int64} {w : im_W} {r : Int32 × im_W} (hsh : sh_Subtag_letters F x0 w = some r) : Met l y_Subtag_letters (Cond.code y_Subtag_letters c_Subtag_letters 4 (some .int) :: im_T) (im_rm 1 22) (im_Pre D vwCl tA lo im_NW [.long x0] w) (im_Post D vwCl tA lo (some (.int r.1)) r.2) 0 0 (fun q => lo ≤ q) := by
  refine im_ofW (cc := c_Subtag_letters) (nL := 4) (ret := (some .int)) (by decide) (Nat.le_of_ble_eq_true rfl) ?_
  intro p e s m args below meth c X H locs ls hH hl
  obtain ⟨hx, hb, hr, hts, hown, hlk, hml, hK, hN⟩ := id X
  have hl : lv_has ls 4 [(0, .long x0)] := hl
  unfold sh_Subtag_letters at hsh
  refine lv_iconst (v := 0) hx hb d_Subtag_letters_0 (by decide) ?_
  refine lv_istore_n (lv' := [(2, .int (0 : Int32)), (0, .long x0)]) hx hb d_Subtag_letters_1 rfl hl (by decide) rfl (fun ls hl => ?_)
  refine lv_iconst (v := 0) hx hb d_Subtag_letters_2 (by decide) ?_
  refine lv_istore_n (lv' := [(3, .int (0 : Int32)), (2, .int (0 : Int32)), (0, .long x0)]) hx hb d_Subtag_letters_3 rfl hl (by decide) rfl (fun ls hl => ?_)
  exact bk_Subtag_letters_4 X F x0 (0 : Int32) (0 : Int32) w hsh H locs ls hH (lv_sub hl [2, 1, 0] rfl)
theorem wd_281 : (Jvm.Cond.methodLink "LanguageTags$Subtag" (27 : Nat) ({ cls := "LanguageTags$Subtag", name := "lengthOf", desc := "(J)I" } : Jvm.MethodName)) ∈ im_T := im_memT (i := 281) (by decide +kernel) (by decide +kernel)
theorem wd_282 : (Jvm.Cond.static ({ cls := "LanguageTags$Subtag", name := "lengthOf", desc := "(J)I" } : Jvm.MethodName)) ∈ im_T := im_memT (i := 282) (by decide +kernel) (by decide +kernel)
theorem wd_283 : (Jvm.Cond.code ({ cls := "LanguageTags$Subtag", name := "lengthOf", desc := "(J)I" } : Jvm.MethodName) prog_8_method_7_code (4 : Nat) (Option.some Jvm.ClassFile.FieldType.int)) ∈ im_T := im_memT (i := 283) (by decide +kernel) (by decide +kernel)
theorem wd_288 : (Jvm.Cond.methodLink "LanguageTags$Subtag" (31 : Nat) ({ cls := "LanguageTags$Subtag", name := "letters", desc := "(J)I" } : Jvm.MethodName)) ∈ im_T := im_memT (i := 288) (by decide +kernel) (by decide +kernel)
theorem wd_289 : (Jvm.Cond.static ({ cls := "LanguageTags$Subtag", name := "letters", desc := "(J)I" } : Jvm.MethodName)) ∈ im_T := im_memT (i := 289) (by decide +kernel) (by decide +kernel)
theorem wd_290 : (Jvm.Cond.code ({ cls := "LanguageTags$Subtag", name := "letters", desc := "(J)I" } : Jvm.MethodName) prog_8_method_16_code (4 : Nat) (Option.some Jvm.ClassFile.FieldType.int)) ∈ im_T := im_memT (i := 290) (by decide +kernel) (by decide +kernel)
theorem d_Subtag_isLanguage_0 : decode c_Subtag_isLanguage 0 = .ok (.lload_n 0, 1) := by decide +kernel
theorem d_Subtag_isLanguage_1 : decode c_Subtag_isLanguage 1 = .ok (.invokestatic 27, 3) := by decide +kernel
theorem d_Subtag_isLanguage_4 : decode c_Subtag_isLanguage 4 = .ok (.istore_n 2, 1) := by decide +kernel
theorem d_Subtag_isLanguage_5 : decode c_Subtag_isLanguage 5 = .ok (.iload_n 2, 1) := by decide +kernel
theorem d_Subtag_isLanguage_6 : decode c_Subtag_isLanguage 6 = .ok (.iconst 2, 1) := by decide +kernel
theorem d_Subtag_isLanguage_7 : decode c_Subtag_isLanguage 7 = .ok (.if_icmp .eq (8), 3) := by decide +kernel
theorem d_Subtag_isLanguage_10 : decode c_Subtag_isLanguage 10 = .ok (.iload_n 2, 1) := by decide +kernel
theorem d_Subtag_isLanguage_11 : decode c_Subtag_isLanguage 11 = .ok (.iconst 3, 1) := by decide +kernel
theorem d_Subtag_isLanguage_12 : decode c_Subtag_isLanguage 12 = .ok (.if_icmp .ne (15), 3) := by decide +kernel
theorem d_Subtag_isLanguage_15 : decode c_Subtag_isLanguage 15 = .ok (.lload_n 0, 1) := by decide +kernel
theorem d_Subtag_isLanguage_16 : decode c_Subtag_isLanguage 16 = .ok (.invokestatic 31, 3) := by decide +kernel
theorem d_Subtag_isLanguage_19 : decode c_Subtag_isLanguage 19 = .ok (.iload_n 2, 1) := by decide +kernel
theorem d_Subtag_isLanguage_20 : decode c_Subtag_isLanguage 20 = .ok (.if_icmp .ne (7), 3) := by decide +kernel
theorem d_Subtag_isLanguage_23 : decode c_Subtag_isLanguage 23 = .ok (.iconst 1, 1) := by decide +kernel
theorem d_Subtag_isLanguage_24 : decode c_Subtag_isLanguage 24 = .ok (.goto (4), 3) := by decide +kernel
theorem d_Subtag_isLanguage_27 : decode c_Subtag_isLanguage 27 = .ok (.iconst 0, 1) := by decide +kernel
theorem d_Subtag_isLanguage_28 : decode c_Subtag_isLanguage 28 = .ok (.ireturn, 1) := by decide +kernel
def sh_Subtag_isLanguage_28 (F : Nat) (y0 : Int32) (w : im_W) : Option (Int32 × im_W) :=
  im_rz y0 w
set_option maxHeartbeats 4000000 in
set_option maxRecDepth 100000 in
theorem bk_Subtag_isLanguage_28 {F : Nat} {r : Int32 × im_W} (X : im_X D vwCl tA lo im_NW c_Subtag_isLanguage 3 (some .boolean) RC_Subtag im_T p s m args meth c) (y0 : Int32) (w : im_W) (hsh : sh_Subtag_isLanguage_28 F y0 w = some r) : im_WW D vwCl tA lo 3 p l e (im_rm 2 45) s m args below meth c 0 0 (MQ below (im_Post D vwCl tA lo (some (.int r.1)) r.2) args s 0 0 (fun q => lo ≤ q)) 28 [] [.int y0] w := by
  obtain ⟨hx, hb, hr, hts, hown, hlk, hml, hK, hN⟩ := id X
  intro H locs ls hH hl
  unfold sh_Subtag_isLanguage_28 at hsh
  obtain ⟨rfl, hn⟩ := im_rz_s hsh
  exact im_zret hx hb hr hlk hn hH d_Subtag_isLanguage_28
def sh_Subtag_isLanguage_27 (F : Nat)  (w : im_W) : Option (Int32 × im_W) :=
  sh_Subtag_isLanguage_28 F (0 : Int32) w
set_option maxHeartbeats 4000000 in
set_option maxRecDepth 100000 in
theorem bk_Subtag_isLanguage_27 {F : Nat} {r : Int32 × im_W} (X : im_X D vwCl tA lo im_NW c_Subtag_isLanguage 3 (some .boolean) RC_Subtag im_T p s m args meth c)  (w : im_W) (hsh : sh_Subtag_isLanguage_27 F w = some r) : im_WW D vwCl tA lo 3 p l e (im_rm 2 45) s m args below meth c 0 0 (MQ below (im_Post D vwCl tA lo (some (.int r.1)) r.2) args s 0 0 (fun q => lo ≤ q)) 27 [] [] w := by
  obtain ⟨hx, hb, hr, hts, hown, hlk, hml, hK, hN⟩ := id X
  intro H locs ls hH hl
  unfold sh_Subtag_isLanguage_27 at hsh
  refine lv_iconst (v := 0) hx hb d_Subtag_isLanguage_27 (by decide) ?_
  exact bk_Subtag_isLanguage_28 X (0 : Int32) w hsh H locs ls hH (lv_sub hl [] rfl)
def sh_Subtag_isLanguage_15 (F : Nat) (x0 : Int64) (x2 : Int32) (w : im_W) : Option (Int32 × im_W) :=
  im_b2 (sh_Subtag_letters F x0 w) fun v3 w1 => (if v3 = x2 then sh_Subtag_isLanguage_28 F (1 : Int32) w1 else sh_Subtag_isLanguage_27 F w1)
set_option maxHeartbeats 4000000 in
set_option maxRecDepth 100000 in
theorem bk_Subtag_isLanguage_15 {F : Nat} {r : Int32 × im_W} (X : im_X D vwCl tA lo im_NW c_Subtag_isLanguage 3 (some .boolean) RC_Subtag im_T p s m args meth c) (x0 : Int64) (x2 : Int32) (w : im_W) (hsh : sh_Subtag_isLanguage_15 F x0 x2 w = some r) : im_WW D vwCl tA lo 3 p l e (im_rm 2 45) s m args below meth c 0 0 (MQ below (im_Post D vwCl tA lo (some (.int r.1)) r.2) args s 0 0 (fun q => lo ≤ q)) 15 [(0, .long x0), (2, .int x2)] [] w := by
  obtain ⟨hx, hb, hr, hts, hown, hlk, hml, hK, hN⟩ := id X
  intro H locs ls hH hl
  unfold sh_Subtag_isLanguage_15 at hsh
  refine lv_lload_n hx hb d_Subtag_isLanguage_15 rfl (lv_at hl 0 rfl) ?_
  obtain ⟨v3, w1, h2, hsh⟩ := im_bd2 hsh
  refine im_afterI (va_runS (As := [.long x0]) (rest := []) ⟨hx, hb, hml, hown, hts⟩ (met_Subtag_letters h2) ⟨(callB_of 1 hts (im_good wd_290) rfl rfl rfl (hts _ wd_11) (hts _ wd_288) (by decide +kernel) ⟨Nat.le_of_ble_eq_true rfl, Nat.le_of_ble_eq_true rfl⟩), hts _ wd_289⟩ (im_pre im_NW_ok hK hN hH _) rfl rfl hl.1 rfl (lv_room (Nat.le_of_ble_eq_true rfl)) d_Subtag_isLanguage_16 ⟨Nat.le_of_ble_eq_true rfl, Nat.le_of_ble_eq_true rfl⟩) hH (fun H locs hH => ?_)
  refine lv_iload_n hx hb d_Subtag_isLanguage_19 rfl (lv_at hl 1 rfl) ?_
  refine lv_icmp_ne (tgt := 27) hx hb d_Subtag_isLanguage_20 (by decide) (fun cc => ?_) (fun cc => ?_)
  · have hsh := im_if hsh cc
    exact bk_Subtag_isLanguage_27 X w1 hsh H locs ls hH (lv_sub hl [] rfl)
  · have hsh := im_it hsh cc
    refine lv_iconst (v := 1) hx hb d_Subtag_isLanguage_23 (by decide) ?_
    refine lv_goto (tgt := 28) hx hb d_Subtag_isLanguage_24 (by decide) ?_
    exact bk_Subtag_isLanguage_28 X (1 : Int32) w1 hsh H locs ls hH (lv_sub hl [] rfl)
def sh_Subtag_isLanguage (F : Nat) (x0 : Int64) (w : im_W) : Option (Int32 × im_W) :=
  im_b2 (sh_Subtag_lengthOf F x0 w) fun v3 w1 => (if v3 = (2 : Int32) then sh_Subtag_isLanguage_15 F x0 v3 w1 else (if v3 = (3 : Int32) then sh_Subtag_isLanguage_15 F x0 v3 w1 else sh_Subtag_isLanguage_27 F w1))
set_option maxHeartbeats 4000000 in
set_option maxRecDepth 100000 in
theorem met_Subtag_isLanguage {F : Nat} {x0 : Int64} {w : im_W} {r : Int32 × im_W} (hsh : sh_Subtag_isLanguage F x0 w = some r) : Met l y_Subtag_isLanguage (Cond.code y_Subtag_isLanguage c_Subtag_isLanguage 3 (some .boolean) :: im_T) (im_rm 2 45) (im_Pre D vwCl tA lo im_NW [.long x0] w) (im_Post D vwCl tA lo (some (.int r.1)) r.2) 0 0 (fun q => lo ≤ q) := by
  refine im_ofW (cc := c_Subtag_isLanguage) (nL := 3) (ret := (some .boolean)) (by decide) (Nat.le_of_ble_eq_true rfl) ?_
  intro p e s m args below meth c X H locs ls hH hl
  obtain ⟨hx, hb, hr, hts, hown, hlk, hml, hK, hN⟩ := id X
  have hl : lv_has ls 3 [(0, .long x0)] := hl
  unfold sh_Subtag_isLanguage at hsh
  refine lv_lload_n hx hb d_Subtag_isLanguage_0 rfl (lv_at hl 0 rfl) ?_
  obtain ⟨v3, w1, h2, hsh⟩ := im_bd2 hsh
  refine im_afterI (va_runS (As := [.long x0]) (rest := []) ⟨hx, hb, hml, hown, hts⟩ (met_Subtag_lengthOf h2) ⟨(callB_of 1 hts (im_good wd_283) rfl rfl rfl (hts _ wd_11) (hts _ wd_281) (by decide +kernel) ⟨Nat.le_of_ble_eq_true rfl, Nat.le_of_ble_eq_true rfl⟩), hts _ wd_282⟩ (im_pre im_NW_ok hK hN hH _) rfl rfl hl.1 rfl (lv_room (Nat.le_of_ble_eq_true rfl)) d_Subtag_isLanguage_1 ⟨Nat.le_of_ble_eq_true rfl, Nat.le_of_ble_eq_true rfl⟩) hH (fun H locs hH => ?_)
  refine lv_istore_n (lv' := [(2, .int v3), (0, .long x0)]) hx hb d_Subtag_isLanguage_4 rfl hl (by decide) rfl (fun ls hl => ?_)
  refine lv_iload_n hx hb d_Subtag_isLanguage_5 rfl (lv_at hl 0 rfl) ?_
  refine lv_iconst (v := 2) hx hb d_Subtag_isLanguage_6 (by decide) ?_
  refine lv_icmp_eq (tgt := 15) hx hb d_Subtag_isLanguage_7 (by decide) (fun cc => ?_) (fun cc => ?_)
  · have hsh := im_it hsh cc
    exact bk_Subtag_isLanguage_15 X x0 v3 w1 hsh H locs ls hH (lv_sub hl [1, 0] rfl)
  · have hsh := im_if hsh cc
    refine lv_iload_n hx hb d_Subtag_isLanguage_10 rfl (lv_at hl 0 rfl) ?_
    refine lv_iconst (v := 3) hx hb d_Subtag_isLanguage_11 (by decide) ?_
    refine lv_icmp_ne (tgt := 27) hx hb d_Subtag_isLanguage_12 (by decide) (fun cc => ?_) (fun cc => ?_)
    · have hsh := im_if hsh cc
      exact bk_Subtag_isLanguage_27 X w1 hsh H locs ls hH (lv_sub hl [] rfl)
    · have hsh := im_it hsh cc
      exact bk_Subtag_isLanguage_15 X x0 v3 w1 hsh H locs ls hH (lv_sub hl [1, 0] rfl)
theorem d_Subtag_isScript_0 : decode c_Subtag_isScript 0 = .ok (.lload_n 0, 1) := by decide +kernel
theorem d_Subtag_isScript_1 : decode c_Subtag_isScript 1 = .ok (.invokestatic 27, 3) := by decide +kernel
theorem d_Subtag_isScript_4 : decode c_Subtag_isScript 4 = .ok (.iconst 4, 1) := by decide +kernel
theorem d_Subtag_isScript_5 : decode c_Subtag_isScript 5 = .ok (.if_icmp .ne (15), 3) := by decide +kernel
theorem d_Subtag_isScript_8 : decode c_Subtag_isScript 8 = .ok (.lload_n 0, 1) := by decide +kernel
theorem d_Subtag_isScript_9 : decode c_Subtag_isScript 9 = .ok (.invokestatic 31, 3) := by decide +kernel
theorem d_Subtag_isScript_12 : decode c_Subtag_isScript 12 = .ok (.iconst 4, 1) := by decide +kernel
theorem d_Subtag_isScript_13 : decode c_Subtag_isScript 13 = .ok (.if_icmp .ne (7), 3) := by decide +kernel
theorem d_Subtag_isScript_16 : decode c_Subtag_isScript 16 = .ok (.iconst 1, 1) := by decide +kernel
theorem d_Subtag_isScript_17 : decode c_Subtag_isScript 17 = .ok (.goto (4), 3) := by decide +kernel
theorem d_Subtag_isScript_20 : decode c_Subtag_isScript 20 = .ok (.iconst 0, 1) := by decide +kernel
theorem d_Subtag_isScript_21 : decode c_Subtag_isScript 21 = .ok (.ireturn, 1) := by decide +kernel
def sh_Subtag_isScript_21 (F : Nat) (y0 : Int32) (w : im_W) : Option (Int32 × im_W) :=
  im_rz y0 w
set_option maxHeartbeats 4000000 in
set_option maxRecDepth 100000 in
theorem bk_Subtag_isScript_21 {F : Nat} {r : Int32 × im_W} (X : im_X D vwCl tA lo im_NW c_Subtag_isScript 2 (some .boolean) RC_Subtag im_T p s m args meth c) (y0 : Int32) (w : im_W) (hsh : sh_Subtag_isScript_21 F y0 w = some r) : im_WW D vwCl tA lo 2 p l e (im_rm 2 45) s m args below meth c 0 0 (MQ below (im_Post D vwCl tA lo (some (.int r.1)) r.2) args s 0 0 (fun q => lo ≤ q)) 21 [] [.int y0] w := by
  obtain ⟨hx, hb, hr, hts, hown, hlk, hml, hK, hN⟩ := id X
  intro H locs ls hH hl
  unfold sh_Subtag_isScript_21 at hsh
  obtain ⟨rfl, hn⟩ := im_rz_s hsh
  exact im_zret hx hb hr hlk hn hH d_Subtag_isScript_21
def sh_Subtag_isScript_20 (F : Nat)  (w : im_W) : Option (Int32 × im_W) :=
  sh_Subtag_isScript_21 F (0 : Int32) w
set_option maxHeartbeats 4000000 in
set_option maxRecDepth 100000 in
theorem bk_Subtag_isScript_20 {F : Nat} {r : Int32 × im_W} (X : im_X D vwCl tA lo im_NW c_Subtag_isScript 2 (some .boolean) RC_Subtag im_T p s m args meth c)  (w : im_W) (hsh : sh_Subtag_isScript_20 F w = some r) : im_WW D vwCl tA lo 2 p l e (im_rm 2 45) s m args below meth c 0 0 (MQ below (im_Post D vwCl tA lo (some (.int r.1)) r.2) args s 0 0 (fun q => lo ≤ q)) 20 [] [] w := by
  obtain ⟨hx, hb, hr, hts, hown, hlk, hml, hK, hN⟩ := id X
  intro H locs ls hH hl
  unfold sh_Subtag_isScript_20 at hsh
  refine lv_iconst (v := 0) hx hb d_Subtag_isScript_20 (by decide) ?_
  exact bk_Subtag_isScript_21 X (0 : Int32) w hsh H locs ls hH (lv_sub hl [] rfl)
def sh_Subtag_isScript (F : Nat) (x0 : Int64) (w : im_W) : Option (Int32 × im_W) :=
  im_b2 (sh_Subtag_lengthOf F x0 w) fun v3 w1 => (if v3 = (4 : Int32) then im_b2 (sh_Subtag_letters F x0 w1) fun v6 w4 => (if v6 = (4 : Int32) then sh_Subtag_isScript_21 F (1 : Int32) w4 else sh_Subtag_isScript_20 F w4) else sh_Subtag_isScript_20 F w1)
set_option maxHeartbeats 4000000 in
set_option maxRecDepth 100000 in
theorem met_Subtag_isScript {F : Nat} {x0 : Int64} {w : im_W} {r : Int32 × im_W} (hsh : sh_Subtag_isScript F x0 w = some r) : Met l y_Subtag_isScript (Cond.code y_Subtag_isScript c_Subtag_isScript 2 (some .boolean) :: im_T) (im_rm 2 45) (im_Pre D vwCl tA lo im_NW [.long x0] w) (im_Post D vwCl tA lo (some (.int r.1)) r.2) 0 0 (fun q => lo ≤ q) := by
  refine im_ofW (cc := c_Subtag_isScript) (nL := 2) (ret := (some .boolean)) (by decide) (Nat.le_of_ble_eq_true rfl) ?_
  intro p e s m args below meth c X H locs ls hH hl
  obtain ⟨hx, hb, hr, hts, hown, hlk, hml, hK, hN⟩ := id X
  have hl : lv_has ls 2 [(0, .long x0)] := hl
  unfold sh_Subtag_isScript at hsh
  refine lv_lload_n hx hb d_Subtag_isScript_0 rfl (lv_at hl 0 rfl) ?_
  obtain ⟨v3, w1, h2, hsh⟩ := im_bd2 hsh
  refine im_afterI (va_runS (As := [.long x0]) (rest := []) ⟨hx, hb, hml, hown, hts⟩ (met_Subtag_lengthOf h2) ⟨(callB_of 1 hts (im_good wd_283) rfl rfl rfl (hts _ wd_11) (hts _ wd_281) (by decide +kernel) ⟨Nat.le_of_ble_eq_true rfl, Nat.le_of_ble_eq_true rfl⟩), hts _ wd_282⟩ (im_pre im_NW_ok hK hN hH _) rfl rfl hl.1 rfl (lv_room (Nat.le_of_ble_eq_true rfl)) d_Subtag_isScript_1 ⟨Nat.le_of_ble_eq_true rfl, Nat.le_of_ble_eq_true rfl⟩) hH (fun H locs hH => ?_)
  refine lv_iconst (v := 4) hx hb d_Subtag_isScript_4 (by decide) ?_
  refine lv_icmp_ne (tgt := 20) hx hb d_Subtag_isScript_5 (by decide) (fun cc => ?_) (fun cc => ?_)
  · have hsh := im_if hsh cc
    exact bk_Subtag_isScript_20 X w1 hsh H locs ls hH (lv_sub hl [] rfl)
  · have hsh := im_it hsh cc
    refine lv_lload_n hx hb d_Subtag_isScript_8 rfl (lv_at hl 0 rfl) ?_
    obtain ⟨v6, w4, h5, hsh⟩ := im_bd2 hsh
    refine im_afterI (va_runS (As := [.long x0]) (rest := []) ⟨hx, hb, hml, hown, hts⟩ (met_Subtag_letters h5) ⟨(callB_of 1 hts (im_good wd_290) rfl rfl rfl (hts _ wd_11) (hts _ wd_288) (by decide +kernel) ⟨Nat.le_of_ble_eq_true rfl, Nat.le_of_ble_eq_true rfl⟩), hts _ wd_289⟩ (im_pre im_NW_ok hK hN hH _) rfl rfl hl.1 rfl (lv_room (Nat.le_of_ble_eq_true rfl)) d_Subtag_isScript_9 ⟨Nat.le_of_ble_eq_true rfl, Nat.le_of_ble_eq_true rfl⟩) hH (fun H locs hH => ?_)
    refine lv_iconst (v := 4) hx hb d_Subtag_isScript_12 (by decide) ?_
    refine lv_icmp_ne (tgt := 20) hx hb d_Subtag_isScript_13 (by decide) (fun cc => ?_) (fun cc => ?_)
    · have hsh := im_if hsh cc
      exact bk_Subtag_isScript_20 X w4 hsh H locs ls hH (lv_sub hl [] rfl)
    · have hsh := im_it hsh cc
      refine lv_iconst (v := 1) hx hb d_Subtag_isScript_16 (by decide) ?_
      refine lv_goto (tgt := 21) hx hb d_Subtag_isScript_17 (by decide) ?_
      exact bk_Subtag_isScript_21 X (1 : Int32) w4 hsh H locs ls hH (lv_sub hl [] rfl)
theorem d_Subtag_isRegion_0 : decode c_Subtag_isRegion 0 = .ok (.lload_n 0, 1) := by decide +kernel
theorem d_Subtag_isRegion_1 : decode c_Subtag_isRegion 1 = .ok (.invokestatic 27, 3) := by decide +kernel
theorem d_Subtag_isRegion_4 : decode c_Subtag_isRegion 4 = .ok (.istore_n 2, 1) := by decide +kernel
theorem d_Subtag_isRegion_5 : decode c_Subtag_isRegion 5 = .ok (.iload_n 2, 1) := by decide +kernel
theorem d_Subtag_isRegion_6 : decode c_Subtag_isRegion 6 = .ok (.iconst 2, 1) := by decide +kernel
theorem d_Subtag_isRegion_7 : decode c_Subtag_isRegion 7 = .ok (.if_icmp .ne (11), 3) := by decide +kernel
theorem d_Subtag_isRegion_10 : decode c_Subtag_isRegion 10 = .ok (.lload_n 0, 1) := by decide +kernel
theorem d_Subtag_isRegion_11 : decode c_Subtag_isRegion 11 = .ok (.invokestatic 31, 3) := by decide +kernel
theorem d_Subtag_isRegion_14 : decode c_Subtag_isRegion 14 = .ok (.iconst 2, 1) := by decide +kernel
theorem d_Subtag_isRegion_15 : decode c_Subtag_isRegion 15 = .ok (.if_icmp .eq (15), 3) := by decide +kernel
theorem d_Subtag_isRegion_18 : decode c_Subtag_isRegion 18 = .ok (.iload_n 2, 1) := by decide +kernel
theorem d_Subtag_isRegion_19 : decode c_Subtag_isRegion 19 = .ok (.iconst 3, 1) := by decide +kernel
theorem d_Subtag_isRegion_20 : decode c_Subtag_isRegion 20 = .ok (.if_icmp .ne (14), 3) := by decide +kernel
theorem d_Subtag_isRegion_23 : decode c_Subtag_isRegion 23 = .ok (.lload_n 0, 1) := by decide +kernel
theorem d_Subtag_isRegion_24 : decode c_Subtag_isRegion 24 = .ok (.invokestatic 31, 3) := by decide +kernel
theorem d_Subtag_isRegion_27 : decode c_Subtag_isRegion 27 = .ok (.ifCond .ne (7), 3) := by decide +kernel
theorem d_Subtag_isRegion_30 : decode c_Subtag_isRegion 30 = .ok (.iconst 1, 1) := by decide +kernel
theorem d_Subtag_isRegion_31 : decode c_Subtag_isRegion 31 = .ok (.goto (4), 3) := by decide +kernel
theorem d_Subtag_isRegion_34 : decode c_Subtag_isRegion 34 = .ok (.iconst 0, 1) := by decide +kernel
theorem d_Subtag_isRegion_35 : decode c_Subtag_isRegion 35 = .ok (.ireturn, 1) := by decide +kernel
def sh_Subtag_isRegion_35 (F : Nat) (y0 : Int32) (w : im_W) : Option (Int32 × im_W) :=
  im_rz y0 w
set_option maxHeartbeats 4000000 in
set_option maxRecDepth 100000 in
theorem bk_Subtag_isRegion_35 {F : Nat} {r : Int32 × im_W} (X : im_X D vwCl tA lo im_NW c_Subtag_isRegion 3 (some .boolean) RC_Subtag im_T p s m args meth c) (y0 : Int32) (w : im_W) (hsh : sh_Subtag_isRegion_35 F y0 w = some r) : im_WW D vwCl tA lo 3 p l e (im_rm 2 45) s m args below meth c 0 0 (MQ below (im_Post D vwCl tA lo (some (.int r.1)) r.2) args s 0 0 (fun q => lo ≤ q)) 35 [] [.int y0] w := by
  obtain ⟨hx, hb, hr, hts, hown, hlk, hml, hK, hN⟩ := id X
  intro H locs ls hH hl
  unfold sh_Subtag_isRegion_35 at hsh
  obtain ⟨rfl, hn⟩ := im_rz_s hsh
  exact im_zret hx hb hr hlk hn hH d_Subtag_isRegion_35
def sh_Subtag_isRegion_30 (F : Nat)  (w : im_W) : Option (Int32 × im_W) :=
  sh_Subtag_isRegion_35 F (1 : Int32) w
set_option maxHeartbeats 4000000 in
set_option maxRecDepth 100000 in
theorem bk_Subtag_isRegion_30 {F : Nat} {r : Int32 × im_W} (X : im_X D vwCl tA lo im_NW c_Subtag_isRegion 3 (some .boolean) RC_Subtag im_T p s m args meth c)  (w : im_W) (hsh : sh_Subtag_isRegion_30 F w = some r) : im_WW D vwCl tA lo 3 p l e (im_rm 2 45) s m args below meth c 0 0 (MQ below (im_Post D vwCl tA lo (some (.int r.1)) r.2) args s 0 0 (fun q => lo ≤ q)) 30 [] [] w := by
  obtain ⟨hx, hb, hr, hts, hown, hlk, hml, hK, hN⟩ := id X
  intro H locs ls hH hl
  unfold sh_Subtag_isRegion_30 at hsh
  refine lv_iconst (v := 1) hx hb d_Subtag_isRegion_30 (by decide) ?_
  refine lv_goto (tgt := 35) hx hb d_Subtag_isRegion_31 (by decide) ?_
  exact bk_Subtag_isRegion_35 X (1 : Int32) w hsh H locs ls hH (lv_sub hl [] rfl)
def sh_Subtag_isRegion_34 (F : Nat)  (w : im_W) : Option (Int32 × im_W) :=
  sh_Subtag_isRegion_35 F (0 : Int32) w
set_option maxHeartbeats 4000000 in
set_option maxRecDepth 100000 in
theorem bk_Subtag_isRegion_34 {F : Nat} {r : Int32 × im_W} (X : im_X D vwCl tA lo im_NW c_Subtag_isRegion 3 (some .boolean) RC_Subtag im_T p s m args meth c)  (w : im_W) (hsh : sh_Subtag_isRegion_34 F w = some r) : im_WW D vwCl tA lo 3 p l e (im_rm 2 45) s m args below meth c 0 0 (MQ below (im_Post D vwCl tA lo (some (.int r.1)) r.2) args s 0 0 (fun q => lo ≤ q)) 34 [] [] w := by
  obtain ⟨hx, hb, hr, hts, hown, hlk, hml, hK, hN⟩ := id X
  intro H locs ls hH hl
  unfold sh_Subtag_isRegion_34 at hsh
  refine lv_iconst (v := 0) hx hb d_Subtag_isRegion_34 (by decide) ?_
  exact bk_Subtag_isRegion_35 X (0 : Int32) w hsh H locs ls hH (lv_sub hl [] rfl)
def sh_Subtag_isRegion_18 (F : Nat) (x0 : Int64) (x2 : Int32) (w : im_W) : Option (Int32 × im_W) :=
  (if x2 = (3 : Int32) then im_b2 (sh_Subtag_letters F x0 w) fun v3 w1 => (if v3 = 0 then sh_Subtag_isRegion_30 F w1 else sh_Subtag_isRegion_34 F w1) else sh_Subtag_isRegion_34 F w)
set_option maxHeartbeats 4000000 in
set_option maxRecDepth 100000 in
theorem bk_Subtag_isRegion_18 {F : Nat} {r : Int32 × im_W} (X : im_X D vwCl tA lo im_NW c_Subtag_isRegion 3 (some .boolean) RC_Subtag im_T p s m args meth c) (x0 : Int64) (x2 : Int32) (w : im_W) (hsh : sh_Subtag_isRegion_18 F x0 x2 w = some r) : im_WW D vwCl tA lo 3 p l e (im_rm 2 45) s m args below meth c 0 0 (MQ below (im_Post D vwCl tA lo (some (.int r.1)) r.2) args s 0 0 (fun q => lo ≤ q)) 18 [(0, .long x0), (2, .int x2)] [] w := by
  obtain ⟨hx, hb, hr, hts, hown, hlk, hml, hK, hN⟩ := id X
  intro H locs ls hH hl
  unfold sh_Subtag_isRegion_18 at hsh
  refine lv_iload_n hx hb d_Subtag_isRegion_18 rfl (lv_at hl 1 rfl) ?_
  refine lv_iconst (v := 3) hx hb d_Subtag_isRegion_19 (by decide) ?_
  refine lv_icmp_ne (tgt := 34) hx hb d_Subtag_isRegion_20 (by decide) (fun cc => ?_) (fun cc => ?_)
  · have hsh := im_if hsh cc
    exact bk_Subtag_isRegion_34 X w hsh H locs ls hH (lv_sub hl [] rfl)
  · have hsh := im_it hsh cc
    refine lv_lload_n hx hb d_Subtag_isRegion_23 rfl (lv_at hl 0 rfl) ?_
    obtain ⟨v3, w1, h2, hsh⟩ := im_bd2 hsh
    refine im_afterI (va_runS (As := [.long x0]) (rest := []) ⟨hx, hb, hml, hown, hts⟩ (met_Subtag_letters h2) ⟨(callB_of 1 hts (im_good wd_290) rfl rfl rfl (hts _ wd_11) (hts _ wd_288) (by decide +kernel) ⟨Nat.le_of_ble_eq_true rfl, Nat.le_of_ble_eq_true rfl⟩), hts _ wd_289⟩ (im_pre im_NW_ok hK hN hH _) rfl rfl hl.1 rfl (lv_room (Nat.le_of_ble_eq_true rfl)) d_Subtag_isRegion_24 ⟨Nat.le_of_ble_eq_true rfl, Nat.le_of_ble_eq_true rfl⟩) hH (fun H locs hH => ?_)
    refine lv_if_ne (tgt := 34) hx hb d_Subtag_isRegion_27 (by decide) (fun cc => ?_) (fun cc => ?_)
    · have hsh := im_if hsh cc
      exact bk_Subtag_isRegion_34 X w1 hsh H locs ls hH (lv_sub hl [] rfl)
    · have hsh := im_it hsh cc
      exact bk_Subtag_isRegion_30 X w1 hsh H locs ls hH (lv_sub hl [] rfl)
def sh_Subtag_isRegion (F : Nat) (x0 : Int64) (w : im_W) : Option (Int32 × im_W) :=
  im_b2 (sh_Subtag_lengthOf F x0 w) fun v3 w1 => (if v3 = (2 : Int32) then im_b2 (sh_Subtag_letters F x0 w1) fun v6 w4 => (if v6 = (2 : Int32) then sh_Subtag_isRegion_30 F w4 else sh_Subtag_isRegion_18 F x0 v3 w4) else sh_Subtag_isRegion_18 F x0 v3 w1)
set_option maxHeartbeats 4000000 in
set_option maxRecDepth 100000 in
theorem met_Subtag_isRegion {F : Nat} {x0 : Int64} {w : im_W} {r : Int32 × im_W} (hsh : sh_Subtag_isRegion F x0 w = some r) : Met l y_Subtag_isRegion (Cond.code y_Subtag_isRegion c_Subtag_isRegion 3 (some .boolean) :: im_T) (im_rm 2 45) (im_Pre D vwCl tA lo im_NW [.long x0] w) (im_Post D vwCl tA lo (some (.int r.1)) r.2) 0 0 (fun q => lo ≤ q) := by
  refine im_ofW (cc := c_Subtag_isRegion) (nL := 3) (ret := (some .boolean)) (by decide) (Nat.le_of_ble_eq_true rfl) ?_
  intro p e s m args below meth c X H locs ls hH hl
  obtain ⟨hx, hb, hr, hts, hown, hlk, hml, hK, hN⟩ := id X
  have hl : lv_has ls 3 [(0, .long x0)] := hl
  unfold sh_Subtag_isRegion at hsh
  refine lv_lload_n hx hb d_Subtag_isRegion_0 rfl (lv_at hl 0 rfl) ?_
  obtain ⟨v3, w1, h2, hsh⟩ := im_bd2 hsh
  refine im_afterI (va_runS (As := [.long x0]) (rest := []) ⟨hx, hb, hml, hown, hts⟩ (met_Subtag_lengthOf h2) ⟨(callB_of 1 hts (im_good wd_283) rfl rfl rfl (hts _ wd_11) (hts _ wd_281) (by decide +kernel) ⟨Nat.le_of_ble_eq_true rfl, Nat.le_of_ble_eq_true rfl⟩), hts _ wd_282⟩ (im_pre im_NW_ok hK hN hH _) rfl rfl hl.1 rfl (lv_room (Nat.le_of_ble_eq_true rfl)) d_Subtag_isRegion_1 ⟨Nat.le_of_ble_eq_true rfl, Nat.le_of_ble_eq_true rfl⟩) hH (fun H locs hH => ?_)
  refine lv_istore_n (lv' := [(2, .int v3), (0, .long x0)]) hx hb d_Subtag_isRegion_4 rfl hl (by decide) rfl (fun ls hl => ?_)
  refine lv_iload_n hx hb d_Subtag_isRegion_5 rfl (lv_at hl 0 rfl) ?_
  refine lv_iconst (v := 2) hx hb d_Subtag_isRegion_6 (by decide) ?_
  refine lv_icmp_ne (tgt := 18) hx hb d_Subtag_isRegion_7 (by decide) (fun cc => ?_) (fun cc => ?_)
  · have hsh := im_if hsh cc
    exact bk_Subtag_isRegion_18 X x0 v3 w1 hsh H locs ls hH (lv_sub hl [1, 0] rfl)
  · have hsh := im_it hsh cc
    refine lv_lload_n hx hb d_Subtag_isRegion_10 rfl (lv_at hl 1 rfl) ?_
    obtain ⟨v6, w4, h5, hsh⟩ := im_bd2 hsh
    refine im_afterI (va_runS (As := [.long x0]) (rest := []) ⟨hx, hb, hml, hown, hts⟩ (met_Subtag_letters h5) ⟨(callB_of 1 hts (im_good wd_290) rfl rfl rfl (hts _ wd_11) (hts _ wd_288) (by decide +kernel) ⟨Nat.le_of_ble_eq_true rfl, Nat.le_of_ble_eq_true rfl⟩), hts _ wd_289⟩ (im_pre im_NW_ok hK hN hH _) rfl rfl hl.1 rfl (lv_room (Nat.le_of_ble_eq_true rfl)) d_Subtag_isRegion_11 ⟨Nat.le_of_ble_eq_true rfl, Nat.le_of_ble_eq_true rfl⟩) hH (fun H locs hH => ?_)
    refine lv_iconst (v := 2) hx hb d_Subtag_isRegion_14 (by decide) ?_
    refine lv_icmp_eq (tgt := 30) hx hb d_Subtag_isRegion_15 (by decide) (fun cc => ?_) (fun cc => ?_)
    · have hsh := im_it hsh cc
      exact bk_Subtag_isRegion_30 X w4 hsh H locs ls hH (lv_sub hl [] rfl)
    · have hsh := im_if hsh cc
      exact bk_Subtag_isRegion_18 X x0 v3 w4 hsh H locs ls hH (lv_sub hl [1, 0] rfl)
theorem d_Subtag_isVariant_0 : decode c_Subtag_isVariant 0 = .ok (.lload_n 0, 1) := by decide +kernel
theorem d_Subtag_isVariant_1 : decode c_Subtag_isVariant 1 = .ok (.invokestatic 27, 3) := by decide +kernel
theorem d_Subtag_isVariant_4 : decode c_Subtag_isVariant 4 = .ok (.istore_n 2, 1) := by decide +kernel
theorem d_Subtag_isVariant_5 : decode c_Subtag_isVariant 5 = .ok (.iload_n 2, 1) := by decide +kernel
theorem d_Subtag_isVariant_6 : decode c_Subtag_isVariant 6 = .ok (.iconst 5, 1) := by decide +kernel
theorem d_Subtag_isVariant_7 : decode c_Subtag_isVariant 7 = .ok (.if_icmp .ge (19), 3) := by decide +kernel
theorem d_Subtag_isVariant_10 : decode c_Subtag_isVariant 10 = .ok (.iload_n 2, 1) := by decide +kernel
theorem d_Subtag_isVariant_11 : decode c_Subtag_isVariant 11 = .ok (.iconst 4, 1) := by decide +kernel
theorem d_Subtag_isVariant_12 : decode c_Subtag_isVariant 12 = .ok (.if_icmp .ne (18), 3) := by decide +kernel
theorem d_Subtag_isVariant_15 : decode c_Subtag_isVariant 15 = .ok (.lload_n 0, 1) := by decide +kernel
theorem d_Subtag_isVariant_16 : decode c_Subtag_isVariant 16 = .ok (.iconst 0, 1) := by decide +kernel
theorem d_Subtag_isVariant_17 : decode c_Subtag_isVariant 17 = .ok (.invokestatic 24, 3) := by decide +kernel
theorem d_Subtag_isVariant_20 : decode c_Subtag_isVariant 20 = .ok (.invokestatic 19, 3) := by decide +kernel
theorem d_Subtag_isVariant_23 : decode c_Subtag_isVariant 23 = .ok (.ifCond .eq (7), 3) := by decide +kernel
theorem d_Subtag_isVariant_26 : decode c_Subtag_isVariant 26 = .ok (.iconst 1, 1) := by decide +kernel
theorem d_Subtag_isVariant_27 : decode c_Subtag_isVariant 27 = .ok (.goto (4), 3) := by decide +kernel
theorem d_Subtag_isVariant_30 : decode c_Subtag_isVariant 30 = .ok (.iconst 0, 1) := by decide +kernel
theorem d_Subtag_isVariant_31 : decode c_Subtag_isVariant 31 = .ok (.ireturn, 1) := by decide +kernel
def sh_Subtag_isVariant_31 (F : Nat) (y0 : Int32) (w : im_W) : Option (Int32 × im_W) :=
  im_rz y0 w
set_option maxHeartbeats 4000000 in
set_option maxRecDepth 100000 in
theorem bk_Subtag_isVariant_31 {F : Nat} {r : Int32 × im_W} (X : im_X D vwCl tA lo im_NW c_Subtag_isVariant 3 (some .boolean) RC_Subtag im_T p s m args meth c) (y0 : Int32) (w : im_W) (hsh : sh_Subtag_isVariant_31 F y0 w = some r) : im_WW D vwCl tA lo 3 p l e (im_rm 2 45) s m args below meth c 0 0 (MQ below (im_Post D vwCl tA lo (some (.int r.1)) r.2) args s 0 0 (fun q => lo ≤ q)) 31 [] [.int y0] w := by
  obtain ⟨hx, hb, hr, hts, hown, hlk, hml, hK, hN⟩ := id X
  intro H locs ls hH hl
  unfold sh_Subtag_isVariant_31 at hsh
  obtain ⟨rfl, hn⟩ := im_rz_s hsh
  exact im_zret hx hb hr hlk hn hH d_Subtag_isVariant_31
def sh_Subtag_isVariant_26 (F : Nat)  (w : im_W) : Option (Int32 × im_W) :=
  sh_Subtag_isVariant_31 F (1 : Int32) w
set_option maxHeartbeats 4000000 in
set_option maxRecDepth 100000 in
theorem bk_Subtag_isVariant_26 {F : Nat} {r : Int32 × im_W} (X : im_X D vwCl tA lo im_NW c_Subtag_isVariant 3 (some .boolean) RC_Subtag im_T p s m args meth c)  (w : im_W) (hsh : sh_Subtag_isVariant_26 F w = some r) : im_WW D vwCl tA lo 3 p l e (im_rm 2 45) s m args below meth c 0 0 (MQ below (im_Post D vwCl tA lo (some (.int r.1)) r.2) args s 0 0 (fun q => lo ≤ q)) 26 [] [] w := by
  obtain ⟨hx, hb, hr, hts, hown, hlk, hml, hK, hN⟩ := id X
  intro H locs ls hH hl
  unfold sh_Subtag_isVariant_26 at hsh
  refine lv_iconst (v := 1) hx hb d_Subtag_isVariant_26 (by decide) ?_
  refine lv_goto (tgt := 31) hx hb d_Subtag_isVariant_27 (by decide) ?_
  exact bk_Subtag_isVariant_31 X (1 : Int32) w hsh H locs ls hH (lv_sub hl [] rfl)
def sh_Subtag_isVariant_30 (F : Nat)  (w : im_W) : Option (Int32 × im_W) :=
  sh_Subtag_isVariant_31 F (0 : Int32) w
set_option maxHeartbeats 4000000 in
set_option maxRecDepth 100000 in
theorem bk_Subtag_isVariant_30 {F : Nat} {r : Int32 × im_W} (X : im_X D vwCl tA lo im_NW c_Subtag_isVariant 3 (some .boolean) RC_Subtag im_T p s m args meth c)  (w : im_W) (hsh : sh_Subtag_isVariant_30 F w = some r) : im_WW D vwCl tA lo 3 p l e (im_rm 2 45) s m args below meth c 0 0 (MQ below (im_Post D vwCl tA lo (some (.int r.1)) r.2) args s 0 0 (fun q => lo ≤ q)) 30 [] [] w := by
  obtain ⟨hx, hb, hr, hts, hown, hlk, hml, hK, hN⟩ := id X
  intro H locs ls hH hl
  unfold sh_Subtag_isVariant_30 at hsh
  refine lv_iconst (v := 0) hx hb d_Subtag_isVariant_30 (by decide) ?_
  exact bk_Subtag_isVariant_31 X (0 : Int32) w hsh H locs ls hH (lv_sub hl [] rfl)
def sh_Subtag_isVariant (F : Nat) (x0 : Int64) (w : im_W) : Option (Int32 × im_W) :=
  im_b2 (sh_Subtag_lengthOf F x0 w) fun v3 w1 => (if (5 : Int32) ≤ v3 then sh_Subtag_isVariant_26 F w1 else (if v3 = (4 : Int32) then im_b2 (sh_Subtag_at F x0 (0 : Int32) w1) fun v6 w4 => im_b2 (sh_Subtag_isDigit F v6 w4) fun v9 w7 => (if v9 = 0 then sh_Subtag_isVariant_30 F w7 else sh_Subtag_isVariant_26 F w7) else sh_Subtag_isVariant_30 F w1))
set_option maxHeartbeats 4000000 in
set_option maxRecDepth 100000 in
theorem met_Subtag_isVariant {F : Nat} {x0 : Int64} {w : im_W} {r : Int32 × im_W} (hsh : sh_Subtag_isVariant F x0 w = some r) : Met l y_Subtag_isVariant (Cond.code y_Subtag_isVariant c_Subtag_isVariant 3 (some .boolean) :: im_T) (im_rm 2 45) (im_Pre D vwCl tA lo im_NW [.long x0] w) (im_Post D vwCl tA lo (some (.int r.1)) r.2) 0 0 (fun q => lo ≤ q) := by
  refine im_ofW (cc := c_Subtag_isVariant) (nL := 3) (ret := (some .boolean)) (by decide) (Nat.le_of_ble_eq_true rfl) ?_
  intro p e s m args below meth c X H locs ls hH hl
  obtain ⟨hx, hb, hr, hts, hown, hlk, hml, hK, hN⟩ := id X
  have hl : lv_has ls 3 [(0, .long x0)] := hl
  unfold sh_Subtag_isVariant at hsh
  refine lv_lload_n hx hb d_Subtag_isVariant_0 rfl (lv_at hl 0 rfl) ?_
  obtain ⟨v3, w1, h2, hsh⟩ := im_bd2 hsh
  refine im_afterI (va_runS (As := [.long x0]) (rest := []) ⟨hx, hb, hml, hown, hts⟩ (met_Subtag_lengthOf h2) ⟨(callB_of 1 hts (im_good wd_283) rfl rfl rfl (hts _ wd_11) (hts _ wd_281) (by decide +kernel) ⟨Nat.le_of_ble_eq_true rfl, Nat.le_of_ble_eq_true rfl⟩), hts _ wd_282⟩ (im_pre im_NW_ok hK hN hH _) rfl rfl hl.1 rfl (lv_room (Nat.le_of_ble_eq_true rfl)) d_Subtag_isVariant_1 ⟨Nat.le_of_ble_eq_true rfl, Nat.le_of_ble_eq_true rfl⟩) hH (fun H locs hH => ?_)
  refine lv_istore_n (lv' := [(2, .int v3), (0, .long x0)]) hx hb d_Subtag_isVariant_4 rfl hl (by decide) rfl (fun ls hl => ?_)
  refine lv_iload_n hx hb d_Subtag_isVariant_5 rfl (lv_at hl 0 rfl) ?_
  refine lv_iconst (v := 5) hx hb d_Subtag_isVariant_6 (by decide) ?_
  refine lv_icmp_ge (tgt := 26) hx hb d_Subtag_isVariant_7 (by decide) (fun cc => ?_) (fun cc => ?_)
  · have hsh := im_it hsh cc
    exact bk_Subtag_isVariant_26 X w1 hsh H locs ls hH (lv_sub hl [] rfl)
  · have hsh := im_if hsh cc
    refine lv_iload_n hx hb d_Subtag_isVariant_10 rfl (lv_at hl 0 rfl) ?_
    refine lv_iconst (v := 4) hx hb d_Subtag_isVariant_11 (by decide) ?_
    refine lv_icmp_ne (tgt := 30) hx hb d_Subtag_isVariant_12 (by decide) (fun cc => ?_) (fun cc => ?_)
    · have hsh := im_if hsh cc
      exact bk_Subtag_isVariant_30 X w1 hsh H locs ls hH (lv_sub hl [] rfl)
    · have hsh := im_it hsh cc
      refine lv_lload_n hx hb d_Subtag_isVariant_15 rfl (lv_at hl 1 rfl) ?_
      refine lv_iconst (v := 0) hx hb d_Subtag_isVariant_16 (by decide) ?_
      obtain ⟨v6, w4, h5, hsh⟩ := im_bd2 hsh
      refine im_afterI (va_runS (As := [.long x0, .int (0 : Int32)]) (rest := []) ⟨hx, hb, hml, hown, hts⟩ (met_Subtag_at h5) ⟨(callB_of 2 hts (im_good wd_286) rfl rfl rfl (hts _ wd_11) (hts _ wd_284) (by decide +kernel) ⟨Nat.le_of_ble_eq_true rfl, Nat.le_of_ble_eq_true rfl⟩), hts _ wd_285⟩ (im_pre im_NW_ok hK hN hH _) rfl rfl hl.1 rfl (lv_room (Nat.le_of_ble_eq_true rfl)) d_Subtag_isVariant_17 ⟨Nat.le_of_ble_eq_true rfl, Nat.le_of_ble_eq_true rfl⟩) hH (fun H locs hH => ?_)
      obtain ⟨v9, w7, h8, hsh⟩ := im_bd2 hsh
      refine im_afterI (va_runS (As := [.int v6]) (rest := []) ⟨hx, hb, hml, hown, hts⟩ (met_Subtag_isDigit h8) ⟨(callB_of 1 hts (im_good wd_233) rfl rfl rfl (hts _ wd_11) (hts _ wd_270) (by decide +kernel) ⟨Nat.le_of_ble_eq_true rfl, Nat.le_of_ble_eq_true rfl⟩), hts _ wd_232⟩ (im_pre im_NW_ok hK hN hH _) rfl rfl hl.1 rfl (lv_room (Nat.le_of_ble_eq_true rfl)) d_Subtag_isVariant_20 ⟨Nat.le_of_ble_eq_true rfl, Nat.le_of_ble_eq_true rfl⟩) hH (fun H locs hH => ?_)
      refine lv_if_eq (tgt := 30) hx hb d_Subtag_isVariant_23 (by decide) (fun cc => ?_) (fun cc => ?_)
      · have hsh := im_it hsh cc
        exact bk_Subtag_isVariant_30 X w7 hsh H locs ls hH (lv_sub hl [] rfl)
      · have hsh := im_if hsh cc
        exact bk_Subtag_isVariant_26 X w7 hsh H locs ls hH (lv_sub hl [] rfl)
theorem d_Subtag_isKey_0 : decode c_Subtag_isKey 0 = .ok (.lload_n 0, 1) := by decide +kernel
theorem d_Subtag_isKey_1 : decode c_Subtag_isKey 1 = .ok (.invokestatic 27, 3) := by decide +kernel
theorem d_Subtag_isKey_4 : decode c_Subtag_isKey 4 = .ok (.iconst 2, 1) := by decide +kernel
theorem d_Subtag_isKey_5 : decode c_Subtag_isKey 5 = .ok (.if_icmp .ne (18), 3) := by decide +kernel
theorem d_Subtag_isKey_8 : decode c_Subtag_isKey 8 = .ok (.lload_n 0, 1) := by decide +kernel
theorem d_Subtag_isKey_9 : decode c_Subtag_isKey 9 = .ok (.iconst 1, 1) := by decide +kernel
theorem d_Subtag_isKey_10 : decode c_Subtag_isKey 10 = .ok (.invokestatic 24, 3) := by decide +kernel
theorem d_Subtag_isKey_13 : decode c_Subtag_isKey 13 = .ok (.invokestatic 15, 3) := by decide +kernel
theorem d_Subtag_isKey_16 : decode c_Subtag_isKey 16 = .ok (.ifCond .eq (7), 3) := by decide +kernel
theorem d_Subtag_isKey_19 : decode c_Subtag_isKey 19 = .ok (.iconst 1, 1) := by decide +kernel
theorem d_Subtag_isKey_20 : decode c_Subtag_isKey 20 = .ok (.goto (4), 3) := by decide +kernel
theorem d_Subtag_isKey_23 : decode c_Subtag_isKey 23 = .ok (.iconst 0, 1) := by decide +kernel
theorem d_Subtag_isKey_24 : decode c_Subtag_isKey 24 = .ok (.ireturn, 1) := by decide +kernel
def sh_Subtag_isKey_24 (F : Nat) (y0 : Int32) (w : im_W) : Option (Int32 × im_W) :=
  im_rz y0 w
set_option maxHeartbeats 4000000 in
set_option maxRecDepth 100000 in
theorem bk_Subtag_isKey_24 {F : Nat} {r : Int32 × im_W} (X : im_X D vwCl tA lo im_NW c_Subtag_isKey 2 (some .boolean) RC_Subtag im_T p s m args meth c) (y0 : Int32) (w : im_W) (hsh : sh_Subtag_isKey_24 F y0 w = some r) : im_WW D vwCl tA lo 2 p l e (im_rm 2 45) s m args below meth c 0 0 (MQ below (im_Post D vwCl tA lo (some (.int r.1)) r.2) args s 0 0 (fun q => lo ≤ q)) 24 [] [.int y0] w := by
  obtain ⟨hx, hb, hr, hts, hown, hlk, hml, hK, hN⟩ := id X
  intro H locs ls hH hl
  unfold sh_Subtag_isKey_24 at hsh
  obtain ⟨rfl, hn⟩ := im_rz_s hsh
  exact im_zret hx hb hr hlk hn hH d_Subtag_isKey_24
def sh_Subtag_isKey_23 (F : Nat)  (w : im_W) : Option (Int32 × im_W) :=
  sh_Subtag_isKey_24 F (0 : Int32) w
set_option maxHeartbeats 4000000 in
set_option maxRecDepth 100000 in
theorem bk_Subtag_isKey_23 {F : Nat} {r : Int32 × im_W} (X : im_X D vwCl tA lo im_NW c_Subtag_isKey 2 (some .boolean) RC_Subtag im_T p s m args meth c)  (w : im_W) (hsh : sh_Subtag_isKey_23 F w = some r) : im_WW D vwCl tA lo 2 p l e (im_rm 2 45) s m args below meth c 0 0 (MQ below (im_Post D vwCl tA lo (some (.int r.1)) r.2) args s 0 0 (fun q => lo ≤ q)) 23 [] [] w := by
  obtain ⟨hx, hb, hr, hts, hown, hlk, hml, hK, hN⟩ := id X
  intro H locs ls hH hl
  unfold sh_Subtag_isKey_23 at hsh
  refine lv_iconst (v := 0) hx hb d_Subtag_isKey_23 (by decide) ?_
  exact bk_Subtag_isKey_24 X (0 : Int32) w hsh H locs ls hH (lv_sub hl [] rfl)
def sh_Subtag_isKey (F : Nat) (x0 : Int64) (w : im_W) : Option (Int32 × im_W) :=
  im_b2 (sh_Subtag_lengthOf F x0 w) fun v3 w1 => (if v3 = (2 : Int32) then im_b2 (sh_Subtag_at F x0 (1 : Int32) w1) fun v6 w4 => im_b2 (sh_Subtag_isLetter F v6 w4) fun v9 w7 => (if v9 = 0 then sh_Subtag_isKey_23 F w7 else sh_Subtag_isKey_24 F (1 : Int32) w7) else sh_Subtag_isKey_23 F w1)
set_option maxHeartbeats 4000000 in
set_option maxRecDepth 100000 in
theorem met_Subtag_isKey {F : Nat} {x0 : Int64} {w : im_W} {r : Int32 × im_W} (hsh : sh_Subtag_isKey F x0 w = some r) : Met l y_Subtag_isKey (Cond.code y_Subtag_isKey c_Subtag_isKey 2 (some .boolean) :: im_T) (im_rm 2 45) (im_Pre D vwCl tA lo im_NW [.long x0] w) (im_Post D vwCl tA lo (some (.int r.1)) r.2) 0 0 (fun q => lo ≤ q) := by
  refine im_ofW (cc := c_Subtag_isKey) (nL := 2) (ret := (some .boolean)) (by decide) (Nat.le_of_ble_eq_true rfl) ?_
  intro p e s m args below meth c X H locs ls hH hl
  obtain ⟨hx, hb, hr, hts, hown, hlk, hml, hK, hN⟩ := id X
  have hl : lv_has ls 2 [(0, .long x0)] := hl
  unfold sh_Subtag_isKey at hsh
  refine lv_lload_n hx hb d_Subtag_isKey_0 rfl (lv_at hl 0 rfl) ?_
  obtain ⟨v3, w1, h2, hsh⟩ := im_bd2 hsh
  refine im_afterI (va_runS (As := [.long x0]) (rest := []) ⟨hx, hb, hml, hown, hts⟩ (met_Subtag_lengthOf h2) ⟨(callB_of 1 hts (im_good wd_283) rfl rfl rfl (hts _ wd_11) (hts _ wd_281) (by decide +kernel) ⟨Nat.le_of_ble_eq_true rfl, Nat.le_of_ble_eq_true rfl⟩), hts _ wd_282⟩ (im_pre im_NW_ok hK hN hH _) rfl rfl hl.1 rfl (lv_room (Nat.le_of_ble_eq_true rfl)) d_Subtag_isKey_1 ⟨Nat.le_of_ble_eq_true rfl, Nat.le_of_ble_eq_true rfl⟩) hH (fun H locs hH => ?_)
  refine lv_iconst (v := 2) hx hb d_Subtag_isKey_4 (by decide) ?_
  refine lv_icmp_ne (tgt := 23) hx hb d_Subtag_isKey_5 (by decide) (fun cc => ?_) (fun cc => ?_)
  · have hsh := im_if hsh cc
    exact bk_Subtag_isKey_23 X w1 hsh H locs ls hH (lv_sub hl [] rfl)
  · have hsh := im_it hsh cc
    refine lv_lload_n hx hb d_Subtag_isKey_8 rfl (lv_at hl 0 rfl) ?_
    refine lv_iconst (v := 1) hx hb d_Subtag_isKey_9 (by decide) ?_
    obtain ⟨v6, w4, h5, hsh⟩ := im_bd2 hsh
    refine im_afterI (va_runS (As := [.long x0, .int (1 : Int32)]) (rest := []) ⟨hx, hb, hml, hown, hts⟩ (met_Subtag_at h5) ⟨(callB_of 2 hts (im_good wd_286) rfl rfl rfl (hts _ wd_11) (hts _ wd_284) (by decide +kernel) ⟨Nat.le_of_ble_eq_true rfl, Nat.le_of_ble_eq_true rfl⟩), hts _ wd_285⟩ (im_pre im_NW_ok hK hN hH _) rfl rfl hl.1 rfl (lv_room (Nat.le_of_ble_eq_true rfl)) d_Subtag_isKey_10 ⟨Nat.le_of_ble_eq_true rfl, Nat.le_of_ble_eq_true rfl⟩) hH (fun H locs hH => ?_)
    obtain ⟨v9, w7, h8, hsh⟩ := im_bd2 hsh
    refine im_afterI (va_runS (As := [.int v6]) (rest := []) ⟨hx, hb, hml, hown, hts⟩ (met_Subtag_isLetter h8) ⟨(callB_of 1 hts (im_good wd_230) rfl rfl rfl (hts _ wd_11) (hts _ wd_269) (by decide +kernel) ⟨Nat.le_of_ble_eq_true rfl, Nat.le_of_ble_eq_true rfl⟩), hts _ wd_229⟩ (im_pre im_NW_ok hK hN hH _) rfl rfl hl.1 rfl (lv_room (Nat.le_of_ble_eq_true rfl)) d_Subtag_isKey_13 ⟨Nat.le_of_ble_eq_true rfl, Nat.le_of_ble_eq_true rfl⟩) hH (fun H locs hH => ?_)
    refine lv_if_eq (tgt := 23) hx hb d_Subtag_isKey_16 (by decide) (fun cc => ?_) (fun cc => ?_)
    · have hsh := im_it hsh cc
      exact bk_Subtag_isKey_23 X w7 hsh H locs ls hH (lv_sub hl [] rfl)
    · have hsh := im_if hsh cc
      refine lv_iconst (v := 1) hx hb d_Subtag_isKey_19 (by decide) ?_
      refine lv_goto (tgt := 24) hx hb d_Subtag_isKey_20 (by decide) ?_
      exact bk_Subtag_isKey_24 X (1 : Int32) w7 hsh H locs ls hH (lv_sub hl [] rfl)
theorem d_Subtag_isType_0 : decode c_Subtag_isType 0 = .ok (.lload_n 0, 1) := by decide +kernel
theorem d_Subtag_isType_1 : decode c_Subtag_isType 1 = .ok (.invokestatic 27, 3) := by decide +kernel
theorem d_Subtag_isType_4 : decode c_Subtag_isType 4 = .ok (.iconst 3, 1) := by decide +kernel
theorem d_Subtag_isType_5 : decode c_Subtag_isType 5 = .ok (.if_icmp .lt (7), 3) := by decide +kernel
theorem d_Subtag_isType_8 : decode c_Subtag_isType 8 = .ok (.iconst 1, 1) := by decide +kernel
theorem d_Subtag_isType_9 : decode c_Subtag_isType 9 = .ok (.goto (4), 3) := by decide +kernel
theorem d_Subtag_isType_12 : decode c_Subtag_isType 12 = .ok (.iconst 0, 1) := by decide +kernel
theorem d_Subtag_isType_13 : decode c_Subtag_isType 13 = .ok (.ireturn, 1) := by decide +kernel
def sh_Subtag_isType_13 (F : Nat) (y0 : Int32) (w : im_W) : Option (Int32 × im_W) :=
  im_rz y0 w
set_option maxHeartbeats 4000000 in
set_option maxRecDepth 100000 in
theorem bk_Subtag_isType_13 {F : Nat} {r : Int32 × im_W} (X : im_X D vwCl tA lo im_NW c_Subtag_isType 2 (some .boolean) RC_Subtag im_T p s m args meth c) (y0 : Int32) (w : im_W) (hsh : sh_Subtag_isType_13 F y0 w = some r) : im_WW D vwCl tA lo 2 p l e (im_rm 2 45) s m args below meth c 0 0 (MQ below (im_Post D vwCl tA lo (some (.int r.1)) r.2) args s 0 0 (fun q => lo ≤ q)) 13 [] [.int y0] w := by
  obtain ⟨hx, hb, hr, hts, hown, hlk, hml, hK, hN⟩ := id X
  intro H locs ls hH hl
  unfold sh_Subtag_isType_13 at hsh
  obtain ⟨rfl, hn⟩ := im_rz_s hsh
  exact im_zret hx hb hr hlk hn hH d_Subtag_isType_13
def sh_Subtag_isType (F : Nat) (x0 : Int64) (w : im_W) : Option (Int32 × im_W) :=
  im_b2 (sh_Subtag_lengthOf F x0 w) fun v3 w1 => (if v3 < (3 : Int32) then sh_Subtag_isType_13 F (0 : Int32) w1 else sh_Subtag_isType_13 F (1 : Int32) w1)
set_option maxHeartbeats 4000000 in
set_option maxRecDepth 100000 in
theorem met_Subtag_isType {F : Nat} {x0 : Int64} {w : im_W} {r : Int32 × im_W} (hsh : sh_Subtag_isType F x0 w = some r) : Met l y_Subtag_isType (Cond.code y_Subtag_isType c_Subtag_isType 2 (some .boolean) :: im_T) (im_rm 2 45) (im_Pre D vwCl tA lo im_NW [.long x0] w) (im_Post D vwCl tA lo (some (.int r.1)) r.2) 0 0 (fun q => lo ≤ q) := by
  refine im_ofW (cc := c_Subtag_isType) (nL := 2) (ret := (some .boolean)) (by decide) (Nat.le_of_ble_eq_true rfl) ?_
  intro p e s m args below meth c X H locs ls hH hl
  obtain ⟨hx, hb, hr, hts, hown, hlk, hml, hK, hN⟩ := id X
  have hl : lv_has ls 2 [(0, .long x0)] := hl
  unfold sh_Subtag_isType at hsh
  refine lv_lload_n hx hb d_Subtag_isType_0 rfl (lv_at hl 0 rfl) ?_
  obtain ⟨v3, w1, h2, hsh⟩ := im_bd2 hsh
  refine im_afterI (va_runS (As := [.long x0]) (rest := []) ⟨hx, hb, hml, hown, hts⟩ (met_Subtag_lengthOf h2) ⟨(callB_of 1 hts (im_good wd_283) rfl rfl rfl (hts _ wd_11) (hts _ wd_281) (by decide +kernel) ⟨Nat.le_of_ble_eq_true rfl, Nat.le_of_ble_eq_true rfl⟩), hts _ wd_282⟩ (im_pre im_NW_ok hK hN hH _) rfl rfl hl.1 rfl (lv_room (Nat.le_of_ble_eq_true rfl)) d_Subtag_isType_1 ⟨Nat.le_of_ble_eq_true rfl, Nat.le_of_ble_eq_true rfl⟩) hH (fun H locs hH => ?_)
  refine lv_iconst (v := 3) hx hb d_Subtag_isType_4 (by decide) ?_
  refine lv_icmp_lt (tgt := 12) hx hb d_Subtag_isType_5 (by decide) (fun cc => ?_) (fun cc => ?_)
  · have hsh := im_it hsh cc
    refine lv_iconst (v := 0) hx hb d_Subtag_isType_12 (by decide) ?_
    exact bk_Subtag_isType_13 X (0 : Int32) w1 hsh H locs ls hH (lv_sub hl [] rfl)
  · have hsh := im_if hsh cc
    refine lv_iconst (v := 1) hx hb d_Subtag_isType_8 (by decide) ?_
    refine lv_goto (tgt := 13) hx hb d_Subtag_isType_9 (by decide) ?_
    exact bk_Subtag_isType_13 X (1 : Int32) w1 hsh H locs ls hH (lv_sub hl [] rfl)
theorem wd_379 : (Jvm.Cond.constantLong "LanguageTags$Subtag" (34 : Nat) (-2305843009213693953 : Int64)) ∈ im_T := im_memT (i := 379) (by decide +kernel) (by decide +kernel)
theorem d_Subtag_titled_0 : decode c_Subtag_titled 0 = .ok (.lload_n 0, 1) := by decide +kernel
theorem d_Subtag_titled_1 : decode c_Subtag_titled 1 = .ok (.ldc2_w 34, 3) := by decide +kernel
theorem d_Subtag_titled_4 : decode c_Subtag_titled 4 = .ok (.land, 1) := by decide +kernel
theorem d_Subtag_titled_5 : decode c_Subtag_titled 5 = .ok (.lreturn, 1) := by decide +kernel
def sh_Subtag_titled (F : Nat) (x0 : Int64) (w : im_W) : Option (Int64 × im_W) :=
  some ((x0 &&& (-2305843009213693953 : Int64)), w)
set_option maxHeartbeats 4000000 in
set_option maxRecDepth 100000 in
theorem met_Subtag_titled {F : Nat} {x0 : Int64} {w : im_W} {r : Int64 × im_W} (hsh : sh_Subtag_titled F x0 w = some r) : Met l y_Subtag_titled (Cond.code y_Subtag_titled c_Subtag_titled 2 (some .long) :: im_T) (im_rm 0 0) (im_Pre D vwCl tA lo im_NW [.long x0] w) (im_Post D vwCl tA lo (some (.long r.1)) r.2) 0 0 (fun q => lo ≤ q) := by
  refine im_ofW (cc := c_Subtag_titled) (nL := 2) (ret := (some .long)) (by decide) (Nat.le_of_ble_eq_true rfl) ?_
  intro p e s m args below meth c X H locs ls hH hl
  obtain ⟨hx, hb, hr, hts, hown, hlk, hml, hK, hN⟩ := id X
  have hl : lv_has ls 2 [(0, .long x0)] := hl
  unfold sh_Subtag_titled at hsh
  refine lv_lload_n hx hb d_Subtag_titled_0 rfl (lv_at hl 0 rfl) ?_
  refine lv_ldc2 (v := -2305843009213693953) hx hb hown (hts _ wd_379) d_Subtag_titled_1 ?_
  refine lv_land hx hb d_Subtag_titled_4 ?_
  obtain rfl := Option.some.inj hsh
  exact im_lret hx hb hr hlk hH d_Subtag_titled_5
theorem wd_383 : (Jvm.Cond.constantLong "LanguageTags$Subtag" (36 : Nat) (-2314885530818453537 : Int64)) ∈ im_T := im_memT (i := 383) (by decide +kernel) (by decide +kernel)
theorem d_Subtag_capitals_0 : decode c_Subtag_capitals 0 = .ok (.lload_n 0, 1) := by decide +kernel
theorem d_Subtag_capitals_1 : decode c_Subtag_capitals 1 = .ok (.invokestatic 31, 3) := by decide +kernel
theorem d_Subtag_capitals_4 : decode c_Subtag_capitals 4 = .ok (.ifCond .ne (7), 3) := by decide +kernel
theorem d_Subtag_capitals_7 : decode c_Subtag_capitals 7 = .ok (.lload_n 0, 1) := by decide +kernel
theorem d_Subtag_capitals_8 : decode c_Subtag_capitals 8 = .ok (.goto (8), 3) := by decide +kernel
theorem d_Subtag_capitals_11 : decode c_Subtag_capitals 11 = .ok (.lload_n 0, 1) := by decide +kernel
theorem d_Subtag_capitals_12 : decode c_Subtag_capitals 12 = .ok (.ldc2_w 36, 3) := by decide +kernel
theorem d_Subtag_capitals_15 : decode c_Subtag_capitals 15 = .ok (.land, 1) := by decide +kernel
theorem d_Subtag_capitals_16 : decode c_Subtag_capitals 16 = .ok (.lreturn, 1) := by decide +kernel
def sh_Subtag_capitals_16 (F : Nat) (y0 : Int64) (w : im_W) : Option (Int64 × im_W) :=
  some (y0, w)
set_option maxHeartbeats 4000000 in
set_option maxRecDepth 100000 in
theorem bk_Subtag_capitals_16 {F : Nat} {r : Int64 × im_W} (X : im_X D vwCl tA lo im_NW c_Subtag_capitals 2 (some .long) RC_Subtag im_T p s m args meth c) (y0 : Int64) (w : im_W) (hsh : sh_Subtag_capitals_16 F y0 w = some r) : im_WW D vwCl tA lo 2 p l e (im_rm 2 45) s m args below meth c 0 0 (MQ below (im_Post D vwCl tA lo (some (.long r.1)) r.2) args s 0 0 (fun q => lo ≤ q)) 16 [] [.long y0] w := by
  obtain ⟨hx, hb, hr, hts, hown, hlk, hml, hK, hN⟩ := id X
  intro H locs ls hH hl
  unfold sh_Subtag_capitals_16 at hsh
  obtain rfl := Option.some.inj hsh
  exact im_lret hx hb hr hlk hH d_Subtag_capitals_16
def sh_Subtag_capitals (F : Nat) (x0 : Int64) (w : im_W) : Option (Int64 × im_W) :=
  im_b2 (sh_Subtag_letters F x0 w) fun v3 w1 => (if v3 = 0 then sh_Subtag_capitals_16 F x0 w1 else sh_Subtag_capitals_16 F (x0 &&& (-2314885530818453537 : Int64)) w1)
set_option maxHeartbeats 4000000 in
set_option maxRecDepth 100000 in
theorem met_Subtag_capitals {F : Nat} {x0 : Int64} {w : im_W} {r : Int64 × im_W} (hsh : sh_Subtag_capitals F x0 w = some r) : Met l y_Subtag_capitals (Cond.code y_Subtag_capitals c_Subtag_capitals 2 (some .long) :: im_T) (im_rm 2 45) (im_Pre D vwCl tA lo im_NW [.long x0] w) (im_Post D vwCl tA lo (some (.long r.1)) r.2) 0 0 (fun q => lo ≤ q) := by
  refine im_ofW (cc := c_Subtag_capitals) (nL := 2) (ret := (some .long)) (by decide) (Nat.le_of_ble_eq_true rfl) ?_
  intro p e s m args below meth c X H locs ls hH hl
  obtain ⟨hx, hb, hr, hts, hown, hlk, hml, hK, hN⟩ := id X
  have hl : lv_has ls 2 [(0, .long x0)] := hl
  unfold sh_Subtag_capitals at hsh
  refine lv_lload_n hx hb d_Subtag_capitals_0 rfl (lv_at hl 0 rfl) ?_
  obtain ⟨v3, w1, h2, hsh⟩ := im_bd2 hsh
  refine im_afterI (va_runS (As := [.long x0]) (rest := []) ⟨hx, hb, hml, hown, hts⟩ (met_Subtag_letters h2) ⟨(callB_of 1 hts (im_good wd_290) rfl rfl rfl (hts _ wd_11) (hts _ wd_288) (by decide +kernel) ⟨Nat.le_of_ble_eq_true rfl, Nat.le_of_ble_eq_true rfl⟩), hts _ wd_289⟩ (im_pre im_NW_ok hK hN hH _) rfl rfl hl.1 rfl (lv_room (Nat.le_of_ble_eq_true rfl)) d_Subtag_capitals_1 ⟨Nat.le_of_ble_eq_true rfl, Nat.le_of_ble_eq_true rfl⟩) hH (fun H locs hH => ?_)
  refine lv_if_ne (tgt := 11) hx hb d_Subtag_capitals_4 (by decide) (fun cc => ?_) (fun cc => ?_)
  · have hsh := im_if hsh cc
    refine lv_lload_n hx hb d_Subtag_capitals_11 rfl (lv_at hl 0 rfl) ?_
    refine lv_ldc2 (v := -2314885530818453537) hx hb hown (hts _ wd_383) d_Subtag_capitals_12 ?_
    refine lv_land hx hb d_Subtag_capitals_15 ?_
    exact bk_Subtag_capitals_16 X (x0 &&& (-2314885530818453537 : Int64)) w1 hsh H locs ls hH (lv_sub hl [] rfl)
  · have hsh := im_it hsh cc
    refine lv_lload_n hx hb d_Subtag_capitals_7 rfl (lv_at hl 0 rfl) ?_
    refine lv_goto (tgt := 16) hx hb d_Subtag_capitals_8 (by decide) ?_
    exact bk_Subtag_capitals_16 X x0 w1 hsh H locs ls hH (lv_sub hl [] rfl)
theorem d_Text_length_0 : decode c_Text_length 0 = .ok (.aload_n 0, 1) := by decide +kernel
theorem d_Text_length_1 : decode c_Text_length 1 = .ok (.getfield 13, 3) := by decide +kernel
theorem d_Text_length_4 : decode c_Text_length 4 = .ok (.ireturn, 1) := by decide +kernel
def sh_Text_length (F : Nat) (x0 : Nat) (w : im_W) : Option (Int32 × im_W) :=
  (im_gI w 7 x0 1).bind fun f1 => some (f1, w)
set_option maxHeartbeats 4000000 in
set_option maxRecDepth 100000 in
theorem met_Text_length {F : Nat} {x0 : Nat} {w : im_W} {r : Int32 × im_W} (hsh : sh_Text_length F x0 w = some r) : Met l y_Text_length (Cond.code y_Text_length c_Text_length 1 (some .int) :: im_T) (im_rm 0 0) (im_Pre D vwCl tA lo im_NW [.ref (lo + x0)] w) (im_Post D vwCl tA lo (some (.int r.1)) r.2) 0 0 (fun q => lo ≤ q) := by
  refine im_ofW (cc := c_Text_length) (nL := 1) (ret := (some .int)) (by decide) (Nat.le_of_ble_eq_true rfl) ?_
  intro p e s m args below meth c X H locs ls hH hl
  obtain ⟨hx, hb, hr, hts, hown, hlk, hml, hK, hN⟩ := id X
  have hl : lv_has ls 1 [(0, .ref (lo + x0))] := hl
  unfold sh_Text_length at hsh
  refine lv_aload_n hx hb d_Text_length_0 rfl (lv_at hl 0 rfl) ?_
  obtain ⟨f1, h2, hsh⟩ := im_bd hsh
  refine im_getI hx hb hts inC_Text hown hK hH (ci := 7) rfl 1 (by decide) (hts _ wd_27) rfl h2 d_Text_length_1 ?_
  obtain rfl := Option.some.inj hsh
  exact im_iret hx hb hr hlk hH d_Text_length_4
theorem d_Text_isFull_0 : decode c_Text_isFull 0 = .ok (.aload_n 0, 1) := by decide +kernel
theorem d_Text_isFull_1 : decode c_Text_isFull 1 = .ok (.getfield 13, 3) := by decide +kernel
theorem d_Text_isFull_4 : decode c_Text_isFull 4 = .ok (.aload_n 0, 1) := by decide +kernel
theorem d_Text_isFull_5 : decode c_Text_isFull 5 = .ok (.getfield 7, 3) := by decide +kernel
theorem d_Text_isFull_8 : decode c_Text_isFull 8 = .ok (.arraylength, 1) := by decide +kernel
theorem d_Text_isFull_9 : decode c_Text_isFull 9 = .ok (.if_icmp .lt (7), 3) := by decide +kernel
theorem d_Text_isFull_12 : decode c_Text_isFull 12 = .ok (.iconst 1, 1) := by decide +kernel
theorem d_Text_isFull_13 : decode c_Text_isFull 13 = .ok (.goto (4), 3) := by decide +kernel
theorem d_Text_isFull_16 : decode c_Text_isFull 16 = .ok (.iconst 0, 1) := by decide +kernel
theorem d_Text_isFull_17 : decode c_Text_isFull 17 = .ok (.ireturn, 1) := by decide +kernel
def sh_Text_isFull_17 (F : Nat) (y0 : Int32) (w : im_W) : Option (Int32 × im_W) :=
  im_rz y0 w
set_option maxHeartbeats 4000000 in
set_option maxRecDepth 100000 in
theorem bk_Text_isFull_17 {F : Nat} {r : Int32 × im_W} (X : im_X D vwCl tA lo im_NW c_Text_isFull 1 (some .boolean) RC_Text im_T p s m args meth c) (y0 : Int32) (w : im_W) (hsh : sh_Text_isFull_17 F y0 w = some r) : im_WW D vwCl tA lo 1 p l e (im_rm 0 0) s m args below meth c 0 0 (MQ below (im_Post D vwCl tA lo (some (.int r.1)) r.2) args s 0 0 (fun q => lo ≤ q)) 17 [] [.int y0] w := by
  obtain ⟨hx, hb, hr, hts, hown, hlk, hml, hK, hN⟩ := id X
  intro H locs ls hH hl
  unfold sh_Text_isFull_17 at hsh
  obtain ⟨rfl, hn⟩ := im_rz_s hsh
  exact im_zret hx hb hr hlk hn hH d_Text_isFull_17
def sh_Text_isFull (F : Nat) (x0 : Nat) (w : im_W) : Option (Int32 × im_W) :=
  (im_gI w 7 x0 1).bind fun f1 => (im_gR w 7 x0 0).bind fun f3 => (im_len w 2 f3).bind fun n5 => (if f1 < n5 then sh_Text_isFull_17 F (0 : Int32) w else sh_Text_isFull_17 F (1 : Int32) w)
set_option maxHeartbeats 4000000 in
set_option maxRecDepth 100000 in
theorem met_Text_isFull {F : Nat} {x0 : Nat} {w : im_W} {r : Int32 × im_W} (hsh : sh_Text_isFull F x0 w = some r) : Met l y_Text_isFull (Cond.code y_Text_isFull c_Text_isFull 1 (some .boolean) :: im_T) (im_rm 0 0) (im_Pre D vwCl tA lo im_NW [.ref (lo + x0)] w) (im_Post D vwCl tA lo (some (.int r.1)) r.2) 0 0 (fun q => lo ≤ q) := by
  refine im_ofW (cc := c_Text_isFull) (nL := 1) (ret := (some .boolean)) (by decide) (Nat.le_of_ble_eq_true rfl) ?_
  intro p e s m args below meth c X H locs ls hH hl
  obtain ⟨hx, hb, hr, hts, hown, hlk, hml, hK, hN⟩ := id X
  have hl : lv_has ls 1 [(0, .ref (lo + x0))] := hl
  unfold sh_Text_isFull at hsh
  refine lv_aload_n hx hb d_Text_isFull_0 rfl (lv_at hl 0 rfl) ?_
  obtain ⟨f1, h2, hsh⟩ := im_bd hsh
  refine im_getI hx hb hts inC_Text hown hK hH (ci := 7) rfl 1 (by decide) (hts _ wd_27) rfl h2 d_Text_isFull_1 ?_
  refine lv_aload_n hx hb d_Text_isFull_4 rfl (lv_at hl 0 rfl) ?_
  obtain ⟨f3, h4, hsh⟩ := im_bd hsh
  refine im_getR hx hb hts inC_Text hown hK hH (ci := 7) rfl 0 (by decide) (hts _ wd_26) rfl h4 d_Text_isFull_5 ?_
  obtain ⟨n5, h6, hsh⟩ := im_bd hsh
  refine im_alen hx hb hK hH (by decide) h6 d_Text_isFull_8 ?_
  refine lv_icmp_lt (tgt := 16) hx hb d_Text_isFull_9 (by decide) (fun cc => ?_) (fun cc => ?_)
  · have hsh := im_it hsh cc
    refine lv_iconst (v := 0) hx hb d_Text_isFull_16 (by decide) ?_
    exact bk_Text_isFull_17 X (0 : Int32) w hsh H locs ls hH (lv_sub hl [] rfl)
  · have hsh := im_if hsh cc
    refine lv_iconst (v := 1) hx hb d_Text_isFull_12 (by decide) ?_
    refine lv_goto (tgt := 17) hx hb d_Text_isFull_13 (by decide) ?_
    exact bk_Text_isFull_17 X (1 : Int32) w hsh H locs ls hH (lv_sub hl [] rfl)
theorem d_Text_clear_0 : decode c_Text_clear 0 = .ok (.aload_n 0, 1) := by decide +kernel
theorem d_Text_clear_1 : decode c_Text_clear 1 = .ok (.iconst 0, 1) := by decide +kernel
theorem d_Text_clear_2 : decode c_Text_clear 2 = .ok (.putfield 13, 3) := by decide +kernel
theorem d_Text_clear_5 : decode c_Text_clear 5 = .ok (.return_, 1) := by decide +kernel
def sh_Text_clear (F : Nat) (x0 : Nat) (w : im_W) : Option (im_W) :=
  (im_pV w 7 x0 1 (.int (0 : Int32))).bind fun w1 => some w1
set_option maxHeartbeats 4000000 in
set_option maxRecDepth 100000 in
theorem met_Text_clear {F : Nat} {x0 : Nat} {w : im_W} {r : im_W} (hsh : sh_Text_clear F x0 w = some r) : Met l y_Text_clear (Cond.code y_Text_clear c_Text_clear 1 none :: im_T) (im_rm 0 0) (im_Pre D vwCl tA lo im_NW [.ref (lo + x0)] w) (im_Post D vwCl tA lo none r) 0 0 (fun q => lo ≤ q) := by
  refine im_ofW (cc := c_Text_clear) (nL := 1) (ret := none) (by decide) (Nat.le_of_ble_eq_true rfl) ?_
  intro p e s m args below meth c X H locs ls hH hl
  obtain ⟨hx, hb, hr, hts, hown, hlk, hml, hK, hN⟩ := id X
  have hl : lv_has ls 1 [(0, .ref (lo + x0))] := hl
  unfold sh_Text_clear at hsh
  refine lv_aload_n hx hb d_Text_clear_0 rfl (lv_at hl 0 rfl) ?_
  refine lv_iconst (v := 0) hx hb d_Text_clear_1 (by decide) ?_
  obtain ⟨w1, h2, hsh⟩ := im_bd hsh
  refine im_put (v := .int (0 : Int32)) hx hb hts inC_Text tyC_Text tyC_Text_ok nmC_Text hown hK hH (ci := 7) rfl 1 (by decide) (hts _ wd_27) rfl rfl rfl rfl h2 d_Text_clear_2 (fun H locs hH => ?_)
  obtain rfl := Option.some.inj hsh
  exact im_vret hx hb hr hlk hH d_Text_clear_5
theorem wd_238 : (Jvm.Cond.instanceMethod ({ cls := "LanguageTags$Text", name := "isFull", desc := "()Z" } : Jvm.MethodName)) ∈ im_T := im_memT (i := 238) (by decide +kernel) (by decide +kernel)
theorem wd_239 : (Jvm.Cond.selects "LanguageTags$Text" ({ cls := "LanguageTags$Text", name := "isFull", desc := "()Z" } : Jvm.MethodName) ({ cls := "LanguageTags$Text", name := "isFull", desc := "()Z" } : Jvm.MethodName)) ∈ im_T := im_memT (i := 239) (by decide +kernel) (by decide +kernel)
theorem wd_240 : (Jvm.Cond.code ({ cls := "LanguageTags$Text", name := "isFull", desc := "()Z" } : Jvm.MethodName) prog_10_method_3_code (1 : Nat) (Option.some Jvm.ClassFile.FieldType.boolean)) ∈ im_T := im_memT (i := 240) (by decide +kernel) (by decide +kernel)
theorem wd_245 : (Jvm.Cond.methodLink "LanguageTags$Text" (17 : Nat) ({ cls := "LanguageTags$Text", name := "isFull", desc := "()Z" } : Jvm.MethodName)) ∈ im_T := im_memT (i := 245) (by decide +kernel) (by decide +kernel)
theorem d_Text_append_0 : decode c_Text_append 0 = .ok (.aload_n 0, 1) := by decide +kernel
theorem d_Text_append_1 : decode c_Text_append 1 = .ok (.invokevirtual 17, 3) := by decide +kernel
theorem d_Text_append_4 : decode c_Text_append 4 = .ok (.ifCond .ne (23), 3) := by decide +kernel
theorem d_Text_append_7 : decode c_Text_append 7 = .ok (.aload_n 0, 1) := by decide +kernel
theorem d_Text_append_8 : decode c_Text_append 8 = .ok (.getfield 7, 3) := by decide +kernel
theorem d_Text_append_11 : decode c_Text_append 11 = .ok (.aload_n 0, 1) := by decide +kernel
theorem d_Text_append_12 : decode c_Text_append 12 = .ok (.getfield 13, 3) := by decide +kernel
theorem d_Text_append_15 : decode c_Text_append 15 = .ok (.iload_n 1, 1) := by decide +kernel
theorem d_Text_append_16 : decode c_Text_append 16 = .ok (.castore, 1) := by decide +kernel
theorem d_Text_append_17 : decode c_Text_append 17 = .ok (.aload_n 0, 1) := by decide +kernel
theorem d_Text_append_18 : decode c_Text_append 18 = .ok (.dup, 1) := by decide +kernel
theorem d_Text_append_19 : decode c_Text_append 19 = .ok (.getfield 13, 3) := by decide +kernel
theorem d_Text_append_22 : decode c_Text_append 22 = .ok (.iconst 1, 1) := by decide +kernel
theorem d_Text_append_23 : decode c_Text_append 23 = .ok (.iadd, 1) := by decide +kernel
theorem d_Text_append_24 : decode c_Text_append 24 = .ok (.putfield 13, 3) := by decide +kernel
theorem d_Text_append_27 : decode c_Text_append 27 = .ok (.return_, 1) := by decide +kernel
def sh_Text_append_27 (F : Nat)  (w : im_W) : Option (im_W) :=
  some w
set_option maxHeartbeats 4000000 in
set_option maxRecDepth 100000 in
theorem bk_Text_append_27 {F : Nat} {r : im_W} (X : im_X D vwCl tA lo im_NW c_Text_append 2 none RC_Text im_T p s m args meth c)  (w : im_W) (hsh : sh_Text_append_27 F w = some r) : im_WW D vwCl tA lo 2 p l e (im_rm 1 20) s m args below meth c 0 0 (MQ below (im_Post D vwCl tA lo none r) args s 0 0 (fun q => lo ≤ q)) 27 [] [] w := by
  obtain ⟨hx, hb, hr, hts, hown, hlk, hml, hK, hN⟩ := id X
  intro H locs ls hH hl
  unfold sh_Text_append_27 at hsh
  obtain rfl := Option.some.inj hsh
  exact im_vret hx hb hr hlk hH d_Text_append_27
def sh_Text_append (F : Nat) (x0 : Nat) (x1 : Int32) (w : im_W) : Option (im_W) :=
  (im_is w 7 x0).bind fun u1 => im_b2 (sh_Text_isFull F x0 w) fun v7 w5 => (if v7 = 0 then (im_gR w5 7 x0 0).bind fun f8 => (im_gI w5 7 x0 1).bind fun f10 => (im_sI w5 2 f8 f10 (vp_nar .char x1)).bind fun w12 => (im_gI w12 7 x0 1).bind fun f14 => (im_pV w12 7 x0 1 (.int (f14 + (1 : Int32)))).bind fun w16 => sh_Text_append_27 F w16 else sh_Text_append_27 F w5)
set_option maxHeartbeats 4000000 in
set_option maxRecDepth 100000 in
theorem met_Text_append {F : Nat} {x0 : Nat} {x1 : Int32} {w : im_W} {r : im_W} (hsh : sh_Text_append F x0 x1 w = some r) : Met l y_Text_append (Cond.code y_Text_append c_Text_append 2 none :: im_T) (im_rm 1 20) (im_Pre D vwCl tA lo im_NW [.ref (lo + x0), .int x1] w) (im_Post D vwCl tA lo none r) 0 0 (fun q => lo ≤ q) := by
  refine im_ofW (cc := c_Text_append) (nL := 2) (ret := none) (by decide) (Nat.le_of_ble_eq_true rfl) ?_
  intro p e s m args below meth c X H locs ls hH hl
  obtain ⟨hx, hb, hr, hts, hown, hlk, hml, hK, hN⟩ := id X
  have hl : lv_has ls 2 [(0, .ref (lo + x0)), (1, .int x1)] := hl
  unfold sh_Text_append at hsh
  refine lv_aload_n hx hb d_Text_append_0 rfl (lv_at hl 0 rfl) ?_
  obtain ⟨u1, h2, hsh⟩ := im_bd hsh
  obtain ⟨g3, h4⟩ := im_is_s h2
  obtain ⟨v7, w5, h6, hsh⟩ := im_bd2 hsh
  refine im_afterI (va_runV (As := []) (rest := []) (C := RC_Text) ⟨hx, hb, hml, hown, hts⟩ (met_Text_isFull h6) ⟨(callB_of 0 hts (im_good wd_240) rfl rfl rfl (hts _ wd_2) (hts _ wd_245) (by decide +kernel) ⟨Nat.le_of_ble_eq_true rfl, Nat.le_of_ble_eq_true rfl⟩), hts _ wd_238, hts _ wd_239⟩ (im_preV im_NW_ok hK hN hH (ci := 7) rfl rfl h4 _) rfl rfl hl.1 rfl (lv_room (Nat.le_of_ble_eq_true rfl)) d_Text_append_1 ⟨Nat.le_of_ble_eq_true rfl, Nat.le_of_ble_eq_true rfl⟩) hH (fun H locs hH => ?_)
  refine lv_if_ne (tgt := 27) hx hb d_Text_append_4 (by decide) (fun cc => ?_) (fun cc => ?_)
  · have hsh := im_if hsh cc
    exact bk_Text_append_27 X w5 hsh H locs ls hH (lv_sub hl [] rfl)
  · have hsh := im_it hsh cc
    refine lv_aload_n hx hb d_Text_append_7 rfl (lv_at hl 0 rfl) ?_
    obtain ⟨f8, h9, hsh⟩ := im_bd hsh
    refine im_getR hx hb hts inC_Text hown hK hH (ci := 7) rfl 0 (by decide) (hts _ wd_26) rfl h9 d_Text_append_8 ?_
    refine lv_aload_n hx hb d_Text_append_11 rfl (lv_at hl 0 rfl) ?_
    obtain ⟨f10, h11, hsh⟩ := im_bd hsh
    refine im_getI hx hb hts inC_Text hown hK hH (ci := 7) rfl 1 (by decide) (hts _ wd_27) rfl h11 d_Text_append_12 ?_
    refine lv_iload_n hx hb d_Text_append_15 rfl (lv_at hl 1 rfl) ?_
    obtain ⟨w12, h13, hsh⟩ := im_bd hsh
    refine im_cast hx hb hK hH h13 d_Text_append_16 (fun H locs hH => ?_)
    refine lv_aload_n hx hb d_Text_append_17 rfl (lv_at hl 0 rfl) ?_
    refine lv_dup hx hb d_Text_append_18 rfl ?_
    obtain ⟨f14, h15, hsh⟩ := im_bd hsh
    refine im_getI hx hb hts inC_Text hown hK hH (ci := 7) rfl 1 (by decide) (hts _ wd_27) rfl h15 d_Text_append_19 ?_
    refine lv_iconst (v := 1) hx hb d_Text_append_22 (by decide) ?_
    refine lv_iadd hx hb d_Text_append_23 ?_
    obtain ⟨w16, h17, hsh⟩ := im_bd hsh
    refine im_put (v := .int (f14 + (1 : Int32))) hx hb hts inC_Text tyC_Text tyC_Text_ok nmC_Text hown hK hH (ci := 7) rfl 1 (by decide) (hts _ wd_27) rfl rfl rfl rfl h17 d_Text_append_24 (fun H locs hH => ?_)
    exact bk_Text_append_27 X w16 hsh H locs ls hH (lv_sub hl [] rfl)
theorem wd_242 : (Jvm.Cond.instanceMethod ({ cls := "LanguageTags$Text", name := "append", desc := "(C)V" } : Jvm.MethodName)) ∈ im_T := im_memT (i := 242) (by decide +kernel) (by decide +kernel)
theorem wd_243 : (Jvm.Cond.selects "LanguageTags$Text" ({ cls := "LanguageTags$Text", name := "append", desc := "(C)V" } : Jvm.MethodName) ({ cls := "LanguageTags$Text", name := "append", desc := "(C)V" } : Jvm.MethodName)) ∈ im_T := im_memT (i := 243) (by decide +kernel) (by decide +kernel)
theorem wd_244 : (Jvm.Cond.code ({ cls := "LanguageTags$Text", name := "append", desc := "(C)V" } : Jvm.MethodName) prog_10_method_5_code (2 : Nat) (Option.none : Option Jvm.ClassFile.FieldType)) ∈ im_T := im_memT (i := 244) (by decide +kernel) (by decide +kernel)
theorem wd_498 : (Jvm.Cond.methodLink "LanguageTags$Text" (21 : Nat) ({ cls := "LanguageTags$Text", name := "append", desc := "(C)V" } : Jvm.MethodName)) ∈ im_T := im_memT (i := 498) (by decide +kernel) (by decide +kernel)
theorem wd_499 : (Jvm.Cond.methodLink "LanguageTags$Text" (25 : Nat) ({ cls := "LanguageTags$Subtag", name := "lengthOf", desc := "(J)I" } : Jvm.MethodName)) ∈ im_T := im_memT (i := 499) (by decide +kernel) (by decide +kernel)
theorem wd_500 : (Jvm.Cond.methodLink "LanguageTags$Text" (31 : Nat) ({ cls := "LanguageTags$Subtag", name := "at", desc := "(JI)C" } : Jvm.MethodName)) ∈ im_T := im_memT (i := 500) (by decide +kernel) (by decide +kernel)
theorem d_Text_appendSubtag_0 : decode c_Text_appendSubtag 0 = .ok (.aload_n 0, 1) := by decide +kernel
theorem d_Text_appendSubtag_1 : decode c_Text_appendSubtag 1 = .ok (.getfield 13, 3) := by decide +kernel
theorem d_Text_appendSubtag_4 : decode c_Text_appendSubtag 4 = .ok (.ifCond .le (9), 3) := by decide +kernel
theorem d_Text_appendSubtag_7 : decode c_Text_appendSubtag 7 = .ok (.aload_n 0, 1) := by decide +kernel
theorem d_Text_appendSubtag_8 : decode c_Text_appendSubtag 8 = .ok (.bipush (45), 2) := by decide +kernel
theorem d_Text_appendSubtag_10 : decode c_Text_appendSubtag 10 = .ok (.invokevirtual 21, 3) := by decide +kernel
theorem d_Text_appendSubtag_13 : decode c_Text_appendSubtag 13 = .ok (.lload_n 1, 1) := by decide +kernel
theorem d_Text_appendSubtag_14 : decode c_Text_appendSubtag 14 = .ok (.invokestatic 25, 3) := by decide +kernel
theorem d_Text_appendSubtag_17 : decode c_Text_appendSubtag 17 = .ok (.istore_n 3, 1) := by decide +kernel
theorem d_Text_appendSubtag_18 : decode c_Text_appendSubtag 18 = .ok (.iconst 0, 1) := by decide +kernel
theorem d_Text_appendSubtag_19 : decode c_Text_appendSubtag 19 = .ok (.istore 4, 2) := by decide +kernel
theorem d_Text_appendSubtag_21 : decode c_Text_appendSubtag 21 = .ok (.iload 4, 2) := by decide +kernel
theorem d_Text_appendSubtag_23 : decode c_Text_appendSubtag 23 = .ok (.iload_n 3, 1) := by decide +kernel
theorem d_Text_appendSubtag_24 : decode c_Text_appendSubtag 24 = .ok (.if_icmp .ge (19), 3) := by decide +kernel
theorem d_Text_appendSubtag_27 : decode c_Text_appendSubtag 27 = .ok (.aload_n 0, 1) := by decide +kernel
theorem d_Text_appendSubtag_28 : decode c_Text_appendSubtag 28 = .ok (.lload_n 1, 1) := by decide +kernel
theorem d_Text_appendSubtag_29 : decode c_Text_appendSubtag 29 = .ok (.iload 4, 2) := by decide +kernel
theorem d_Text_appendSubtag_31 : decode c_Text_appendSubtag 31 = .ok (.invokestatic 31, 3) := by decide +kernel
theorem d_Text_appendSubtag_34 : decode c_Text_appendSubtag 34 = .ok (.invokevirtual 21, 3) := by decide +kernel
theorem d_Text_appendSubtag_37 : decode c_Text_appendSubtag 37 = .ok (.iinc 4 (1), 3) := by decide +kernel
theorem d_Text_appendSubtag_40 : decode c_Text_appendSubtag 40 = .ok (.goto (-19), 3) := by decide +kernel
theorem d_Text_appendSubtag_43 : decode c_Text_appendSubtag 43 = .ok (.return_, 1) := by decide +kernel
def sh_Text_appendSubtag_21 (F : Nat) : Nat → Nat → Int64 → Int32 → Int32 → im_W → Option (im_W)
  | 0, _, _, _, _, _ => none
  | f + 1, x0, x1, x3, x4, w => (if x3 ≤ x4 then some w else im_b2 (sh_Subtag_at F x1 x4 w) fun v3 w1 => (im_is w1 7 x0).bind fun u4 => (sh_Text_append F x0 v3 w1).bind fun w8 => (sh_Text_appendSubtag_21 F f) x0 x1 x3 (x4 + (1 : Int32)) w8)
set_option maxHeartbeats 4000000 in
set_option maxRecDepth 100000 in
theorem bk_Text_appendSubtag_21 {F : Nat} {r : im_W} (X : im_X D vwCl tA lo im_NW c_Text_appendSubtag 5 none RC_Text im_T p s m args meth c) : ∀ (f : Nat) (x0 : Nat) (x1 : Int64) (x3 : Int32) (x4 : Int32) (w : im_W), sh_Text_appendSubtag_21 F f x0 x1 x3 x4 w = some r → im_WW D vwCl tA lo 5 p l e (im_rm 2 45) s m args below meth c 0 0 (MQ below (im_Post D vwCl tA lo none r) args s 0 0 (fun q => lo ≤ q)) 21 [(0, .ref (lo + x0)), (1, .long x1), (3, .int x3), (4, .int x4)] [] w := by
  obtain ⟨hx, hb, hr, hts, hown, hlk, hml, hK, hN⟩ := id X
  intro f
  induction f with
  | zero =>
    intro x0 x1 x3 x4 w hsh
    cases hsh
  | succ f ih =>
    intro x0 x1 x3 x4 w hsh H locs ls hH hl
    unfold sh_Text_appendSubtag_21 at hsh
    refine lv_iload hx hb d_Text_appendSubtag_21 (lv_at hl 3 rfl) ?_
    refine lv_iload_n hx hb d_Text_appendSubtag_23 rfl (lv_at hl 2 rfl) ?_
    refine lv_icmp_ge (tgt := 43) hx hb d_Text_appendSubtag_24 (by decide) (fun cc => ?_) (fun cc => ?_)
    · have hsh := im_it hsh cc
      obtain rfl := Option.some.inj hsh
      exact im_vret hx hb hr hlk hH d_Text_appendSubtag_43
    · have hsh := im_if hsh cc
      refine lv_aload_n hx hb d_Text_appendSubtag_27 rfl (lv_at hl 0 rfl) ?_
      refine lv_lload_n hx hb d_Text_appendSubtag_28 rfl (lv_at hl 1 rfl) ?_
      refine lv_iload hx hb d_Text_appendSubtag_29 (lv_at hl 3 rfl) ?_
      obtain ⟨v3, w1, h2, hsh⟩ := im_bd2 hsh
      refine im_afterI (va_runS (As := [.long x1, .int x4]) (rest := [.ref (lo + x0)]) ⟨hx, hb, hml, hown, hts⟩ (met_Subtag_at h2) ⟨(callB_of 2 hts (im_good wd_286) rfl rfl rfl (hts _ wd_11) (hts _ wd_500) (by decide +kernel) ⟨Nat.le_of_ble_eq_true rfl, Nat.le_of_ble_eq_true rfl⟩), hts _ wd_285⟩ (im_pre im_NW_ok hK hN hH _) rfl rfl hl.1 rfl (lv_room (Nat.le_of_ble_eq_true rfl)) d_Text_appendSubtag_31 ⟨Nat.le_of_ble_eq_true rfl, Nat.le_of_ble_eq_true rfl⟩) hH (fun H locs hH => ?_)
      obtain ⟨u4, h5, hsh⟩ := im_bd hsh
      obtain ⟨g6, h7⟩ := im_is_s h5
      obtain ⟨w8, h9, hsh⟩ := im_bd hsh
      refine im_afterV (va_runV (As := [.int v3]) (rest := []) (C := RC_Text) ⟨hx, hb, hml, hown, hts⟩ (met_Text_append h9) ⟨(callB_of 1 hts (im_good wd_244) rfl rfl rfl (hts _ wd_2) (hts _ wd_498) (by decide +kernel) ⟨Nat.le_of_ble_eq_true rfl, Nat.le_of_ble_eq_true rfl⟩), hts _ wd_242, hts _ wd_243⟩ (im_preV im_NW_ok hK hN hH (ci := 7) rfl rfl h7 _) rfl rfl hl.1 rfl (lv_room (Nat.le_of_ble_eq_true rfl)) d_Text_appendSubtag_34 ⟨Nat.le_of_ble_eq_true rfl, Nat.le_of_ble_eq_true rfl⟩) hH (fun H locs hH => ?_)
      refine lv_iinc (v := (x4 + (1 : Int32))) (lv' := [(4, .int (x4 + (1 : Int32))), (0, .ref (lo + x0)), (1, .long x1), (3, .int x3)]) hx hb d_Text_appendSubtag_37 hl (k := 3) rfl rfl (by decide) rfl (fun ls hl => ?_)
      refine lv_goto (tgt := 21) hx hb d_Text_appendSubtag_40 (by decide) ?_
      exact ih x0 x1 x3 (x4 + (1 : Int32)) w8 hsh H locs ls hH (lv_sub hl [1, 2, 3, 0] rfl)
def sh_Text_appendSubtag_13 (F : Nat) (x0 : Nat) (x1 : Int64) (w : im_W) : Option (im_W) :=
  im_b2 (sh_Subtag_lengthOf F x1 w) fun v3 w1 => sh_Text_appendSubtag_21 F F x0 x1 v3 (0 : Int32) w1
set_option maxHeartbeats 4000000 in
set_option maxRecDepth 100000 in
theorem bk_Text_appendSubtag_13 {F : Nat} {r : im_W} (X : im_X D vwCl tA lo im_NW c_Text_appendSubtag 5 none RC_Text im_T p s m args meth c) (x0 : Nat) (x1 : Int64) (w : im_W) (hsh : sh_Text_appendSubtag_13 F x0 x1 w = some r) : im_WW D vwCl tA lo 5 p l e (im_rm 2 45) s m args below meth c 0 0 (MQ below (im_Post D vwCl tA lo none r) args s 0 0 (fun q => lo ≤ q)) 13 [(0, .ref (lo + x0)), (1, .long x1)] [] w := by
  obtain ⟨hx, hb, hr, hts, hown, hlk, hml, hK, hN⟩ := id X
  intro H locs ls hH hl
  unfold sh_Text_appendSubtag_13 at hsh
  refine lv_lload_n hx hb d_Text_appendSubtag_13 rfl (lv_at hl 1 rfl) ?_
  obtain ⟨v3, w1, h2, hsh⟩ := im_bd2 hsh
  refine im_afterI (va_runS (As := [.long x1]) (rest := []) ⟨hx, hb, hml, hown, hts⟩ (met_Subtag_lengthOf h2) ⟨(callB_of 1 hts (im_good wd_283) rfl rfl rfl (hts _ wd_11) (hts _ wd_499) (by decide +kernel) ⟨Nat.le_of_ble_eq_true rfl, Nat.le_of_ble_eq_true rfl⟩), hts _ wd_282⟩ (im_pre im_NW_ok hK hN hH _) rfl rfl hl.1 rfl (lv_room (Nat.le_of_ble_eq_true rfl)) d_Text_appendSubtag_14 ⟨Nat.le_of_ble_eq_true rfl, Nat.le_of_ble_eq_true rfl⟩) hH (fun H locs hH => ?_)
  refine lv_istore_n (lv' := [(3, .int v3), (0, .ref (lo + x0)), (1, .long x1)]) hx hb d_Text_appendSubtag_17 rfl hl (by decide) rfl (fun ls hl => ?_)
  refine lv_iconst (v := 0) hx hb d_Text_appendSubtag_18 (by decide) ?_
  refine lv_istore (lv' := [(4, .int (0 : Int32)), (3, .int v3), (0, .ref (lo + x0)), (1, .long x1)]) hx hb d_Text_appendSubtag_19 hl (by decide) rfl (fun ls hl => ?_)
  exact bk_Text_appendSubtag_21 X F x0 x1 v3 (0 : Int32) w1 hsh H locs ls hH (lv_sub hl [2, 3, 1, 0] rfl)
def sh_Text_appendSubtag (F : Nat) (x0 : Nat) (x1 : Int64) (w : im_W) : Option (im_W) :=
  (im_gI w 7 x0 1).bind fun f1 => (if f1 ≤ 0 then sh_Text_appendSubtag_13 F x0 x1 w else (im_is w 7 x0).bind fun u3 => (sh_Text_append F x0 (45 : Int32) w).bind fun w7 => sh_Text_appendSubtag_13 F x0 x1 w7)
set_option maxHeartbeats 4000000 in
set_option maxRecDepth 100000 in
theorem met_Text_appendSubtag {F : Nat} {x0 : Nat} {x1 : Int64} {w : im_W} {r : im_W} (hsh : sh_Text_appendSubtag F x0 x1 w = some r) : Met l y_Text_appendSubtag (Cond.code y_Text_appendSubtag c_Text_appendSubtag 5 none :: im_T) (im_rm 2 45) (im_Pre D vwCl tA lo im_NW [.ref (lo + x0), .long x1] w) (im_Post D vwCl tA lo none r) 0 0 (fun q => lo ≤ q) := by
  refine im_ofW (cc := c_Text_appendSubtag) (nL := 5) (ret := none) (by decide) (Nat.le_of_ble_eq_true rfl) ?_
  intro p e s m args below meth c X H locs ls hH hl
  obtain ⟨hx, hb, hr, hts, hown, hlk, hml, hK, hN⟩ := id X
  have hl : lv_has ls 5 [(0, .ref (lo + x0)), (1, .long x1)] := hl
  unfold sh_Text_appendSubtag at hsh
  refine lv_aload_n hx hb d_Text_appendSubtag_0 rfl (lv_at hl 0 rfl) ?_
  obtain ⟨f1, h2, hsh⟩ := im_bd hsh
  refine im_getI hx hb hts inC_Text hown hK hH (ci := 7) rfl 1 (by decide) (hts _ wd_27) rfl h2 d_Text_appendSubtag_1 ?_
  refine lv_if_le (tgt := 13) hx hb d_Text_appendSubtag_4 (by decide) (fun cc => ?_) (fun cc => ?_)
  · have hsh := im_it hsh cc
    exact bk_Text_appendSubtag_13 X x0 x1 w hsh H locs ls hH (lv_sub hl [0, 1] rfl)
  · have hsh := im_if hsh cc
    refine lv_aload_n hx hb d_Text_appendSubtag_7 rfl (lv_at hl 0 rfl) ?_
    refine lv_bipush (v := 45) hx hb d_Text_appendSubtag_8 (by decide) ?_
    obtain ⟨u3, h4, hsh⟩ := im_bd hsh
    obtain ⟨g5, h6⟩ := im_is_s h4
    obtain ⟨w7, h8, hsh⟩ := im_bd hsh
    refine im_afterV (va_runV (As := [.int (45 : Int32)]) (rest := []) (C := RC_Text) ⟨hx, hb, hml, hown, hts⟩ (met_Text_append h8) ⟨(callB_of 1 hts (im_good wd_244) rfl rfl rfl (hts _ wd_2) (hts _ wd_498) (by decide +kernel) ⟨Nat.le_of_ble_eq_true rfl, Nat.le_of_ble_eq_true rfl⟩), hts _ wd_242, hts _ wd_243⟩ (im_preV im_NW_ok hK hN hH (ci := 7) rfl rfl h6 _) rfl rfl hl.1 rfl (lv_room (Nat.le_of_ble_eq_true rfl)) d_Text_appendSubtag_10 ⟨Nat.le_of_ble_eq_true rfl, Nat.le_of_ble_eq_true rfl⟩) hH (fun H locs hH => ?_)
    exact bk_Text_appendSubtag_13 X x0 x1 w7 hsh H locs ls hH (lv_sub hl [0, 1] rfl)
theorem d_Text_placeOf_0 : decode c_Text_placeOf 0 = .ok (.iconst 0, 1) := by decide +kernel
theorem d_Text_placeOf_1 : decode c_Text_placeOf 1 = .ok (.istore_n 2, 1) := by decide +kernel
theorem d_Text_placeOf_2 : decode c_Text_placeOf 2 = .ok (.iload_n 2, 1) := by decide +kernel
theorem d_Text_placeOf_3 : decode c_Text_placeOf 3 = .ok (.aload_n 0, 1) := by decide +kernel
theorem d_Text_placeOf_4 : decode c_Text_placeOf 4 = .ok (.getfield 13, 3) := by decide +kernel
theorem d_Text_placeOf_7 : decode c_Text_placeOf 7 = .ok (.if_icmp .ge (21), 3) := by decide +kernel
theorem d_Text_placeOf_10 : decode c_Text_placeOf 10 = .ok (.aload_n 0, 1) := by decide +kernel
theorem d_Text_placeOf_11 : decode c_Text_placeOf 11 = .ok (.getfield 7, 3) := by decide +kernel
theorem d_Text_placeOf_14 : decode c_Text_placeOf 14 = .ok (.iload_n 2, 1) := by decide +kernel
theorem d_Text_placeOf_15 : decode c_Text_placeOf 15 = .ok (.caload, 1) := by decide +kernel
theorem d_Text_placeOf_16 : decode c_Text_placeOf 16 = .ok (.iload_n 1, 1) := by decide +kernel
theorem d_Text_placeOf_17 : decode c_Text_placeOf 17 = .ok (.if_icmp .ne (5), 3) := by decide +kernel
theorem d_Text_placeOf_20 : decode c_Text_placeOf 20 = .ok (.iload_n 2, 1) := by decide +kernel
theorem d_Text_placeOf_21 : decode c_Text_placeOf 21 = .ok (.ireturn, 1) := by decide +kernel
theorem d_Text_placeOf_22 : decode c_Text_placeOf 22 = .ok (.iinc 2 (1), 3) := by decide +kernel
theorem d_Text_placeOf_25 : decode c_Text_placeOf 25 = .ok (.goto (-23), 3) := by decide +kernel
theorem d_Text_placeOf_28 : decode c_Text_placeOf 28 = .ok (.iconst (-1), 1) := by decide +kernel
theorem d_Text_placeOf_29 : decode c_Text_placeOf 29 = .ok (.ireturn, 1) := by decide +kernel
def sh_Text_placeOf_2 (F : Nat) : Nat → Nat → Int32 → Int32 → im_W → Option (Int32 × im_W)
  | 0, _, _, _, _ => none
  | f + 1, x0, x1, x2, w => (im_gI w 7 x0 1).bind fun f1 => (if f1 ≤ x2 then some ((-1 : Int32), w) else (im_gR w 7 x0 0).bind fun f3 => (im_lI w 2 f3 x2).bind fun e5 => (if e5 = x1 then some (x2, w) else (sh_Text_placeOf_2 F f) x0 x1 (x2 + (1 : Int32)) w))
set_option maxHeartbeats 4000000 in
set_option maxRecDepth 100000 in
theorem bk_Text_placeOf_2 {F : Nat} {r : Int32 × im_W} (X : im_X D vwCl tA lo im_NW c_Text_placeOf 3 (some .int) RC_Text im_T p s m args meth c) : ∀ (f : Nat) (x0 : Nat) (x1 : Int32) (x2 : Int32) (w : im_W), sh_Text_placeOf_2 F f x0 x1 x2 w = some r → im_WW D vwCl tA lo 3 p l e (im_rm 0 0) s m args below meth c 0 0 (MQ below (im_Post D vwCl tA lo (some (.int r.1)) r.2) args s 0 0 (fun q => lo ≤ q)) 2 [(0, .ref (lo + x0)), (1, .int x1), (2, .int x2)] [] w := by
  obtain ⟨hx, hb, hr, hts, hown, hlk, hml, hK, hN⟩ := id X
  intro f
  induction f with
  | zero =>
    intro x0 x1 x2 w hsh
    cases hsh
  | succ f ih =>
    intro x0 x1 x2 w hsh H locs ls hH hl
    unfold sh_Text_placeOf_2 at hsh
    refine lv_iload_n hx hb d_Text_placeOf_2 rfl (lv_at hl 2 rfl) ?_
    refine lv_aload_n hx hb d_Text_placeOf_3 rfl (lv_at hl 0 rfl) ?_
    obtain ⟨f1, h2, hsh⟩ := im_bd hsh
    refine im_getI hx hb hts inC_Text hown hK hH (ci := 7) rfl 1 (by decide) (hts _ wd_27) rfl h2 d_Text_placeOf_4 ?_
    refine lv_icmp_ge (tgt := 28) hx hb d_Text_placeOf_7 (by decide) (fun cc => ?_) (fun cc => ?_)
    · have hsh := im_it hsh cc
      refine lv_iconst (v := -1) hx hb d_Text_placeOf_28 (by decide) ?_
      obtain rfl := Option.some.inj hsh
      exact im_iret hx hb hr hlk hH d_Text_placeOf_29
    · have hsh := im_if hsh cc
      refine lv_aload_n hx hb d_Text_placeOf_10 rfl (lv_at hl 0 rfl) ?_
      obtain ⟨f3, h4, hsh⟩ := im_bd hsh
      refine im_getR hx hb hts inC_Text hown hK hH (ci := 7) rfl 0 (by decide) (hts _ wd_26) rfl h4 d_Text_placeOf_11 ?_
      refine lv_iload_n hx hb d_Text_placeOf_14 rfl (lv_at hl 2 rfl) ?_
      obtain ⟨e5, h6, hsh⟩ := im_bd hsh
      refine im_cald hx hb hK hH h6 d_Text_placeOf_15 ?_
      refine lv_iload_n hx hb d_Text_placeOf_16 rfl (lv_at hl 1 rfl) ?_
      refine lv_icmp_ne (tgt := 22) hx hb d_Text_placeOf_17 (by decide) (fun cc => ?_) (fun cc => ?_)
      · have hsh := im_if hsh cc
        refine lv_iinc (v := (x2 + (1 : Int32))) (lv' := [(2, .int (x2 + (1 : Int32))), (0, .ref (lo + x0)), (1, .int x1)]) hx hb d_Text_placeOf_22 hl (k := 2) rfl rfl (by decide) rfl (fun ls hl => ?_)
        refine lv_goto (tgt := 2) hx hb d_Text_placeOf_25 (by decide) ?_
        exact ih x0 x1 (x2 + (1 : Int32)) w hsh H locs ls hH (lv_sub hl [1, 2, 0] rfl)
      · have hsh := im_it hsh cc
        refine lv_iload_n hx hb d_Text_placeOf_20 rfl (lv_at hl 2 rfl) ?_
        obtain rfl := Option.some.inj hsh
        exact im_iret hx hb hr hlk hH d_Text_placeOf_21
def sh_Text_placeOf (F : Nat) (x0 : Nat) (x1 : Int32) (w : im_W) : Option (Int32 × im_W) :=
  sh_Text_placeOf_2 F F x0 x1 (0 : Int32) w
set_option maxHeartbeats 4000000 in
set_option maxRecDepth 100000 in
theorem met_Text_placeOf {F : Nat} {x0 : Nat} {x1 : Int32} {w : im_W} {r : Int32 × im_W} (hsh : sh_Text_placeOf F x0 x1 w = some r) : Met l y_Text_placeOf (Cond.code y_Text_placeOf c_Text_placeOf 3 (some .int) :: im_T) (im_rm 0 0) (im_Pre D vwCl tA lo im_NW [.ref (lo + x0), .int x1] w) (im_Post D vwCl tA lo (some (.int r.1)) r.2) 0 0 (fun q => lo ≤ q) := by
  refine im_ofW (cc := c_Text_placeOf) (nL := 3) (ret := (some .int)) (by decide) (Nat.le_of_ble_eq_true rfl) ?_
  intro p e s m args below meth c X H locs ls hH hl
  obtain ⟨hx, hb, hr, hts, hown, hlk, hml, hK, hN⟩ := id X
  have hl : lv_has ls 3 [(0, .ref (lo + x0)), (1, .int x1)] := hl
  unfold sh_Text_placeOf at hsh
  refine lv_iconst (v := 0) hx hb d_Text_placeOf_0 (by decide) ?_
  refine lv_istore_n (lv' := [(2, .int (0 : Int32)), (0, .ref (lo + x0)), (1, .int x1)]) hx hb d_Text_placeOf_1 rfl hl (by decide) rfl (fun ls hl => ?_)
  exact bk_Text_placeOf_2 X F x0 x1 (0 : Int32) w hsh H locs ls hH (lv_sub hl [1, 2, 0] rfl)
end GEN
