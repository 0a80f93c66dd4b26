def im_w0 : im_W := (0, fun _ => .inr (0, []))
def sh_Law (F n0 : Nat) (xs : Nat → Int32) : Option Unit :=
  im_b2 (im_al im_w0 (.inr (8, df0_LT))) fun n1 w2 => (sh_LT_init F n1 w2).bind fun w4 => (im_sz w4 (w2.1 + 247)).bind fun _ => im_b2 (im_al w4 (.inr (9, df0_Model))) fun n7 w8 => (sh_Model_init F n7 w8).bind fun w10 => (im_sz w10 (w8.1 + 26)).bind fun _ => sh_Law_law_18 F n0 xs F n1 n7 (0 : Int32) w10
theorem ao_Tag : Cond.arrayOver (.object "LanguageTags$Tag") ∈ lw_tbl := List.mem_append_right _ (List.mem_of_getElem? (i := 148) (by decide +kernel))
theorem ao_Form : Cond.arrayOver (.object "LanguageTags$Form") ∈ lw_tbl := List.mem_append_right _ (List.mem_of_getElem? (i := 79) (by decide +kernel))
set_option maxHeartbeats 4000000 in
set_option maxRecDepth 100000 in
/-- the claim's walk, once the function that the law is answers () -/
theorem whole_law {p : Program} {e : Env} {s : State} {m : MethodId} {below : List Frame} {meth : Method} {c : Code} (l : Launch) {b n0 F : Nat} {xs : Nat → Int32} (hsh : sh_Law F n0 xs = some ()) (C0 : lw_At p s m meth c b n0 xs) : W p l e room_1 s m #[Value.ref b] below meth c s.heap [] 0 0 (lw_Z below #[Value.ref b] s) (entryFrame m ([Value.ref b] : List Value).toArray 4) := by
  obtain ⟨hx, hb, hr, hml, hown, hts0, hX, hbl, hlk, hgv⟩ := C0
  have hts : ∀ w ∈ im_T, w.before #[Value.ref b] s = true := fun w h => hts0 w (im_T_in w h)
  obtain ⟨c0, iS0, hKn0⟩ := u_known (C := RC_Aliases) (T := TC_Aliases) (N := 4) (n := 4) hts inC_Aliases (hts _ wd_53)
  obtain ⟨c1, iS1, hKn1⟩ := u_known (C := RC_Core) (T := TC_Core) (N := 3) (n := 3) hts inC_Core (hts _ wd_86)
  obtain ⟨c2, iS2, hKn2⟩ := u_known (C := RC_Form) (T := TC_Form) (N := 3) (n := 3) hts inC_Form (hts _ wd_80)
  obtain ⟨c3, iS3, hKn3⟩ := u_known (C := RC_Likely) (T := TC_Likely) (N := 4) (n := 4) hts inC_Likely (hts _ wd_127)
  obtain ⟨c4, iS4, hKn4⟩ := u_known (C := RC_Pairs) (T := TC_Pairs) (N := 3) (n := 3) hts inC_Pairs (hts _ wd_73)
  obtain ⟨c5, iS5, hKn5⟩ := u_known (C := RC_Reader) (T := TC_Reader) (N := 3) (n := 3) hts inC_Reader (hts _ wd_35)
  obtain ⟨c6, iS6, hKn6⟩ := u_known (C := RC_Tag) (T := TC_Tag) (N := 4) (n := 4) hts inC_Tag (hts _ wd_149)
  obtain ⟨c7, iS7, hKn7⟩ := u_known (C := RC_Text) (T := TC_Text) (N := 2) (n := 2) hts inC_Text (hts _ wd_21)
  obtain ⟨c8, iS8, hKn8⟩ := u_known (C := RC_LT) (T := TC_LT) (N := 16) (n := 16) hts inC_LT (hts _ wd_13)
  obtain ⟨c9, iS9, hKn9⟩ := u_known (C := RC_Model) (T := TC_Model) (N := 44) (n := 44) hts inC_Model (hts _ wd_626)
  obtain ⟨dC, dI, hKc⟩ : ∃ (dC : Nat → ClassId) (dI : Nat → Nat → Nat), ∀ (k : Nat) (q : vw_C), vwCl[k]? = some q → u_Kn s q.1 q.2.1 q.2.2 (dC k) (dI k) := by
    refine ⟨fun k => [c0, c1, c2, c3, c4, c5, c6, c7, c8, c9].getD k c0, fun k => [iS0, iS1, iS2, iS3, iS4, iS5, iS6, iS7, iS8, iS9].getD k iS0, ?_⟩
    intro k q hq
    match k, hq with
    | 0, hq => cases hq; exact hKn0
    | 1, hq => cases hq; exact hKn1
    | 2, hq => cases hq; exact hKn2
    | 3, hq => cases hq; exact hKn3
    | 4, hq => cases hq; exact hKn4
    | 5, hq => cases hq; exact hKn5
    | 6, hq => cases hq; exact hKn6
    | 7, hq => cases hq; exact hKn7
    | 8, hq => cases hq; exact hKn8
    | 9, hq => cases hq; exact hKn9
    | k + 10, hq => simp [vwCl] at hq
  obtain ⟨a0, k0, m0, f0, g0, e0⟩ := Cond.arrayClass_spec (hts _ wd_51)
  obtain ⟨a1, k1, m1, f1, g1, e1⟩ := Cond.arrayClass_spec (hts _ wd_50)
  obtain ⟨a2, k2, m2, f2, g2, e2⟩ := Cond.arrayClass_spec (hts _ wd_33)
  obtain ⟨a3, k3, m3, f3, g3, e3⟩ := Cond.arrayClass_spec (hts _ wd_71)
  obtain ⟨m4, a4, k4, q4, -, g4, e4, f4⟩ := Cond.arrayOver_spec (hts0 _ ao_Tag)
  obtain ⟨m5, a5, k5, q5, -, g5, e5, f5⟩ := Cond.arrayOver_spec (hts0 _ ao_Form)
  obtain ⟨tA, hKa⟩ : ∃ tA : Nat → ClassId, ∀ (k : Nat) (q : ClassId × FieldType), (im_tys tA)[k]? = some q → ArrOfT s q.1 q.2 ∧ va_RA s q.1 q.2 := by
    refine ⟨fun j => [a0, a1, a2, a3, a4, a5].getD j a0, ?_⟩
    intro k q hq
    match k, hq with
    | 0, hq => cases hq; exact ⟨fun n z => ⟨fun k h => (by cases h), k0, g0, m0, e0⟩, f0⟩
    | 1, hq => cases hq; exact ⟨fun n z => ⟨fun k h => (by cases h), k1, g1, m1, e1⟩, f1⟩
    | 2, hq => cases hq; exact ⟨fun n z => ⟨fun k h => (by cases h), k2, g2, m2, e2⟩, f2⟩
    | 3, hq => cases hq; exact ⟨fun n z => ⟨fun k h => (by cases h), k3, g3, m3, e3⟩, f3⟩
    | 4, hq => cases hq; exact ⟨fun n z => ⟨fun k h => (by cases h), k4, g4, m4, e4⟩, k4, m4, g4, e4, q4, f4⟩
    | 5, hq => cases hq; exact ⟨fun n z => ⟨fun k h => (by cases h), k5, g5, m5, e5⟩, k5, m5, g5, e5, q5, f5⟩
    | k + 6, hq => simp [im_tys] at hq
  have hK : va_K (dC, dI) vwCl (im_tys tA) s := ⟨hKc, hKa⟩
  have hN : ∀ x ∈ im_NW, va_Nw x s := fun x h => (im_NW_ok x h).of (hts0 x (im_NW_in x h))
  have hAO : ∀ C ∈ im_AO, va_AO C s := by
    intro C hC
    simp only [im_AO, List.mem_cons, List.not_mem_nil, or_false] at hC
    rcases hC with rfl | rfl
    · exact va_AO.of (hts0 _ ao_Tag)
    · exact va_AO.of (hts0 _ ao_Form)
  obtain ⟨lo, hlo0⟩ : ∃ lo : Nat, lo = s.heap.size := ⟨_, rfl⟩
  have hlo : lo ≤ s.heap.size := Nat.le_of_eq hlo0
  have hz : s.heap.size + 0 = lo + im_w0.1 := by rw [hlo0]; rfl
  have hH : im_H (dC, dI) vwCl tA lo im_w0 s s.heap [] := ⟨fun k q h => by simp [im_ws, im_w0] at h, va_S.rf⟩
  have X : im_X (dC, dI) vwCl tA lo im_NW c_Law_law 4 ret RC_Law im_T p s m #[Value.ref b] meth c := ⟨hx, hb, hr, hts, hown, hlk, hml, hK, hN⟩
  have hl := lv_entry ([.ref b]) (n := 4) (Nat.le_of_ble_eq_true rfl)
  rw [lg_entry_eq]
  generalize (lg_sl ([.ref b]) ++ List.replicate (4 - (lg_sl ([.ref b])).length) Slot.unset).toArray = ls at hl ⊢
  have hl : lv_has ls 4 [(0, .ref b)] := hl
  unfold sh_Law at hsh
  obtain ⟨n1, w2, h3, hsh_1⟩ := im_bd2 hsh
  clear hsh
  refine im_new' (ci := 8) (fs := df0_LT) hx hb hts inC_LT tyC_LT tyC_LT_ok hown (hts _ wd_12) (hts _ wd_13) (hts _ wd_1) hK hH rfl hlo hz (dfC_LT lo) (Nat.le_of_ble_eq_true rfl) (Nat.le_of_ble_eq_true rfl) h3 d_Law_law_0 (fun H hH => ?_)
  have hz := im_z_al h3 hz
  refine lv_dup hx hb d_Law_law_3 rfl ?_
  obtain ⟨w4, h5, hsh_2⟩ := im_bd hsh_1
  clear hsh_1
  obtain ⟨_, h6, hsh_3⟩ := im_bd hsh_2
  clear hsh_2
  refine im_sized (fun hsz => ?_)
  have hHz : H.size = lo + w2.1 := Nat.le_antisymm (Nat.le_trans hsz (Nat.le_of_eq hz)) (im_low hH hlo)
  refine im_afterC (va_runI (As := []) (rest := [.ref (lo + n1)]) ⟨hx, hb, hml, hown, hts⟩ (metc_LT_init h5) ⟨(callB_of 0 hts (im_good wd_16) rfl rfl rfl (hts _ wd_1) (hts _ wd_14) (by decide +kernel) ⟨Nat.le_of_ble_eq_true rfl, Nat.le_of_ble_eq_true rfl⟩), rfl, hts _ wd_15⟩ (im_preC im_NW_ok hK hN hAO hH hHz _) rfl rfl hl.1 rfl (lv_room (Nat.le_of_ble_eq_true rfl)) d_Law_law_4 ⟨Nat.le_of_ble_eq_true rfl, Nat.le_of_ble_eq_true rfl⟩) hH (fun H locs hH => ?_)
  have hz := im_z_k h6 hz
  refine lv_astore_n (lv' := [(1, .ref (lo + n1)), (0, .ref b)]) hx hb d_Law_law_7 rfl hl (by decide) rfl (fun ls hl => ?_)
  obtain ⟨n7, w8, h9, hsh_4⟩ := im_bd2 hsh_3
  clear hsh_3
  refine im_new' (ci := 9) (fs := df0_Model) hx hb hts inC_Model tyC_Model tyC_Model_ok hown (hts _ wd_625) (hts _ wd_626) (hts _ wd_10) hK hH rfl hlo hz (dfC_Model lo) (Nat.le_of_ble_eq_true rfl) (Nat.le_of_ble_eq_true rfl) h9 d_Law_law_8 (fun H hH => ?_)
  have hz := im_z_al h9 hz
  refine lv_dup hx hb d_Law_law_11 rfl ?_
  obtain ⟨w10, h11, hsh_5⟩ := im_bd hsh_4
  clear hsh_4
  obtain ⟨_, h12, hsh_6⟩ := im_bd hsh_5
  clear hsh_5
  refine im_sized (fun hsz => ?_)
  have hHz : H.size = lo + w8.1 := Nat.le_antisymm (Nat.le_trans hsz (Nat.le_of_eq hz)) (im_low hH hlo)
  refine im_afterC (va_runI (As := []) (rest := [.ref (lo + n7)]) ⟨hx, hb, hml, hown, hts⟩ (metc_Model_init h11) ⟨(callB_of 0 hts (im_good wd_629) rfl rfl rfl (hts _ wd_10) (hts _ wd_627) (by decide +kernel) ⟨Nat.le_of_ble_eq_true rfl, Nat.le_of_ble_eq_true rfl⟩), rfl, hts _ wd_628⟩ (im_preC im_NW_ok hK hN hAO hH hHz _) rfl rfl hl.1 rfl (lv_room (Nat.le_of_ble_eq_true rfl)) d_Law_law_12 ⟨Nat.le_of_ble_eq_true rfl, Nat.le_of_ble_eq_true rfl⟩) hH (fun H locs hH => ?_)
  have hz := im_z_k h12 hz
  refine lv_astore_n (lv' := [(2, .ref (lo + n7)), (1, .ref (lo + n1)), (0, .ref b)]) hx hb d_Law_law_15 rfl hl (by decide) rfl (fun ls hl => ?_)
  refine lv_iconst (v := 0) hx hb d_Law_law_16 (by decide) ?_
  refine lv_istore_n (lv' := [(3, .int (0 : Int32)), (2, .ref (lo + n7)), (1, .ref (lo + n1)), (0, .ref b)]) hx hb d_Law_law_17 rfl hl (by decide) rfl (fun ls hl => ?_)
  exact bk_Law_law_18 hX hbl hlo0 X F n1 n7 (0 : Int32) w10 hsh_6 _ _ ls hH (lv_sub hl [3, 2, 1, 0] rfl)
