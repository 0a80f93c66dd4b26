/-! the machine's rows over the ideal world -/
def im_isN (x : Cond) : Prop := (∃ (a : String) (i : Nat) (b n d h : String), x = .fieldLinkNest a i b n d h) ∨ ∃ (a : String) (i : Nat) (y : MethodName) (h : String), x = .methodLinkNest a i y h
theorem im_isN.warm {x : Cond} {s U : State} (h : im_isN x) (hW : s.WarmedH U.vm) (hx : va_Nw x s) : va_Nw x U := by
  rcases h with ⟨a, i, b, n, d, h, rfl⟩ | ⟨a, i, y, h, rfl⟩
  · exact va_Nw.warmF hW hx
  · exact va_Nw.warmM hW hx
theorem im_isN.same {x : Cond} {s U : State} (h : im_isN x) (hv : s.vm = U.vm) (hx : va_Nw x s) : va_Nw x U := by
  rcases h with ⟨a, i, b, n, d, h, rfl⟩ | ⟨a, i, y, h, rfl⟩
  · exact va_Nw.same rfl hv hx
  · exact va_Nw.same rfl hv hx
def im_Pre (D : va_G) (cl : List vw_C) (tA : Nat → ClassId) (lo : Nat) (NW : List Cond) (As : List Value) (w : im_W) : Array Value → State → Prop := va_Pc As (fun U => va_P D cl (im_ws tA lo w) U.heap ∧ va_K D cl (im_tys tA) U ∧ ∀ x ∈ NW, va_Nw x U)
def im_Post (D : va_G) (cl : List vw_C) (tA : Nat → ClassId) (lo : Nat) (rv : Option Value) (w : im_W) : Array Value → State → Outcome → State → Prop := fun _ st oc t => oc = .returned rv ∧ va_P D cl (im_ws tA lo w) t.heap ∧ va_F (fun q => lo ≤ q) st t
def im_X (D : va_G) (cl : List vw_C) (tA : Nat → ClassId) (lo : Nat) (NW : List Cond) (cc : ByteArray) (nL : Nat) (ret : Option FieldType) (own : String) (Ts : List Cond) (p : Program) (s : State) (m : MethodId) (args : Array Value) (meth : Method) (c : Code) : Prop :=
  p.tables.exec = Jvm.exec ∧ c.code = cc ∧ meth.sig.returnType = ret ∧ (∀ w ∈ Ts, w.before args s = true) ∧ s.vm.findClass own = some m.cls ∧ meth.locks = false ∧ c.maxLocals = nL ∧ va_K D cl (im_tys tA) s ∧ ∀ x ∈ NW, va_Nw x s
theorem im_blind {D : va_G} {cl : List vw_C} {tA : Nat → ClassId} {lo : Nat} {NW : List Cond} (hNW : ∀ x ∈ NW, im_isN x) {As : List Value} {w : im_W} : FrameBlind (im_Pre D cl tA lo NW As w) := by
  intro a U g mk q
  obtain ⟨q0, qP, qK, qN⟩ := q
  exact ⟨q0, qP, va_K.moved (u := U) (U := U.calling g mk a) (Vm.Alike.refl U.vm) qK, fun x hx => (hNW x hx).same (s := U) (U := U.calling g mk a) rfl (qN x hx)⟩
/-- a reference that may be null, as the machine has it -/
def im_rf (lo : Nat) (r : Option Nat) : Value := match r with
  | some a => .ref (lo + a)
  | none => .null
section IMR
variable {p : Program} {l : Launch} {e : Env} {R : Room} {s : State} {m : MethodId} {args : Array Value} {below : List Frame} {meth : Method} {c : Code} {H : Heap} {locs : List Loc} {cells slots : Nat} {Q : State → Prop}
variable {cc : ByteArray} {pc : Nat} {ls : Array Slot} {rest : List Value} {D : va_G} {cl : List vw_C} {tA : Nat → ClassId} {lo : Nat} {w w' : im_W}
theorem im_at_ob {ci h : Nat} {fs : List Value} (e : im_ob w ci h = some fs) : (im_ws tA lo w)[h]? = some (lo + h, .inr (ci, fs.map (im_sv lo))) := by
  obtain ⟨h1, h2⟩ := im_ob_s e
  rw [im_ws_at h1, h2]
  rfl
theorem im_at_ar {t h : Nat} {a : vp_A} (e : im_ar w t h = some a) : (im_ws tA lo w)[h]? = some (lo + h, .inl (tA t, im_sa lo a)) := by
  obtain ⟨h1, h2⟩ := im_ar_s e
  rw [im_ws_at h1, h2]
  rfl
theorem im_get (hx : p.tables.exec = Jvm.exec) (hb : c.code = cc) {own ref C : String} {T : u_T} {N ci index : Nat} {Ts : List Cond} (hts : ∀ w ∈ Ts, w.before args s = true) (hin : ∀ w ∈ u_ws C T N, w ∈ Ts) (hown : s.vm.findClass own = some m.cls) (hK : va_K D cl (im_tys tA) s) (hH : im_H D cl tA lo w s H locs) (hc : cl[ci]? = some (C, T, N)) (k : Nat) (hk : k < N) (hlink : (Cond.fieldLink own index ref (T k).2.1 (T k).2.2.1).before args s = true) (hsame : (T k).1 = ref) {h : Nat} {v : Value} (hv : im_fd w ci h k = some v) (hdg : decode cc pc = .ok (.getfield index, 3))
    (kk : W p l e R s m args below meth c H locs cells slots Q (F0 m (pc + 3) ls (im_sv lo v :: rest))) : W p l e R s m args below meth c H locs cells slots Q (F0 m pc ls (.ref (lo + h) :: rest)) := by
  obtain ⟨fs, h1, h2⟩ := im_fd_s hv
  exact va_get hx hb hts hin hown hK hH.1 h (im_at_ob h1) hc k hk hlink (by subst hsame; exact fun _ h9 => h9) (v := im_sv lo v) (by rw [List.getElem?_map, h2]; rfl) hdg kk
theorem im_getN (hx : p.tables.exec = Jvm.exec) (hb : c.code = cc) {own ref C host : String} {T : u_T} {N ci index : Nat} {Ts : List Cond} (hts : ∀ w ∈ Ts, w.before args s = true) (hin : ∀ w ∈ u_ws C T N, w ∈ Ts) (hown : s.vm.findClass own = some m.cls) (hK : va_K D cl (im_tys tA) s) (hH : im_H D cl tA lo w s H locs) (hc : cl[ci]? = some (C, T, N)) (k : Nat) (hk : k < N) (hlink : va_Nw (Cond.fieldLinkNest own index ref (T k).2.1 (T k).2.2.1 host) s) (hsame : (T k).1 = ref) {h : Nat} {v : Value} (hv : im_fd w ci h k = some v) (hdg : decode cc pc = .ok (.getfield index, 3))
    (kk : W p l e R s m args below meth c H locs cells slots Q (F0 m (pc + 3) ls (im_sv lo v :: rest))) : W p l e R s m args below meth c H locs cells slots Q (F0 m pc ls (.ref (lo + h) :: rest)) := by
  obtain ⟨fs, h1, h2⟩ := im_fd_s hv
  exact va_getN hx hb hts hin hown hK hH.1 h (im_at_ob h1) hc k hk (va_Nw.use rfl hlink) (by subst hsame; exact fun _ h9 => h9) (v := im_sv lo v) (by rw [List.getElem?_map, h2]; rfl) hdg kk
theorem im_getI (hx : p.tables.exec = Jvm.exec) (hb : c.code = cc) {own ref C : String} {T : u_T} {N ci index : Nat} {Ts : List Cond} (hts : ∀ w ∈ Ts, w.before args s = true) (hin : ∀ w ∈ u_ws C T N, w ∈ Ts) (hown : s.vm.findClass own = some m.cls) (hK : va_K D cl (im_tys tA) s) (hH : im_H D cl tA lo w s H locs) (hc : cl[ci]? = some (C, T, N)) (k : Nat) (hk : k < N) (hlink : (Cond.fieldLink own index ref (T k).2.1 (T k).2.2.1).before args s = true) (hsame : (T k).1 = ref) {h : Nat} {x : Int32} (hv : im_gI w ci h k = some x) (hdg : decode cc pc = .ok (.getfield index, 3))
    (kk : W p l e R s m args below meth c H locs cells slots Q (F0 m (pc + 3) ls (.int x :: rest))) : W p l e R s m args below meth c H locs cells slots Q (F0 m pc ls (.ref (lo + h) :: rest)) :=
  im_get (v := .int x) hx hb hts hin hown hK hH hc k hk hlink hsame (im_gI_s hv) hdg kk
theorem im_getL (hx : p.tables.exec = Jvm.exec) (hb : c.code = cc) {own ref C : String} {T : u_T} {N ci index : Nat} {Ts : List Cond} (hts : ∀ w ∈ Ts, w.before args s = true) (hin : ∀ w ∈ u_ws C T N, w ∈ Ts) (hown : s.vm.findClass own = some m.cls) (hK : va_K D cl (im_tys tA) s) (hH : im_H D cl tA lo w s H locs) (hc : cl[ci]? = some (C, T, N)) (k : Nat) (hk : k < N) (hlink : (Cond.fieldLink own index ref (T k).2.1 (T k).2.2.1).before args s = true) (hsame : (T k).1 = ref) {h : Nat} {x : Int64} (hv : im_gL w ci h k = some x) (hdg : decode cc pc = .ok (.getfield index, 3))
    (kk : W p l e R s m args below meth c H locs cells slots Q (F0 m (pc + 3) ls (.long x :: rest))) : W p l e R s m args below meth c H locs cells slots Q (F0 m pc ls (.ref (lo + h) :: rest)) :=
  im_get (v := .long x) hx hb hts hin hown hK hH hc k hk hlink hsame (im_gL_s hv) hdg kk
theorem im_getR (hx : p.tables.exec = Jvm.exec) (hb : c.code = cc) {own ref C : String} {T : u_T} {N ci index : Nat} {Ts : List Cond} (hts : ∀ w ∈ Ts, w.before args s = true) (hin : ∀ w ∈ u_ws C T N, w ∈ Ts) (hown : s.vm.findClass own = some m.cls) (hK : va_K D cl (im_tys tA) s) (hH : im_H D cl tA lo w s H locs) (hc : cl[ci]? = some (C, T, N)) (k : Nat) (hk : k < N) (hlink : (Cond.fieldLink own index ref (T k).2.1 (T k).2.2.1).before args s = true) (hsame : (T k).1 = ref) {h : Nat} {x : Nat} (hv : im_gR w ci h k = some x) (hdg : decode cc pc = .ok (.getfield index, 3))
    (kk : W p l e R s m args below meth c H locs cells slots Q (F0 m (pc + 3) ls (.ref (lo + x) :: rest))) : W p l e R s m args below meth c H locs cells slots Q (F0 m pc ls (.ref (lo + h) :: rest)) :=
  im_get (v := .ref x) hx hb hts hin hown hK hH hc k hk hlink hsame (im_gR_s hv) hdg kk
theorem im_getNI (hx : p.tables.exec = Jvm.exec) (hb : c.code = cc) {own ref C host : String} {T : u_T} {N ci index : Nat} {Ts : List Cond} (hts : ∀ w ∈ Ts, w.before args s = true) (hin : ∀ w ∈ u_ws C T N, w ∈ Ts) (hown : s.vm.findClass own = some m.cls) (hK : va_K D cl (im_tys tA) s) (hH : im_H D cl tA lo w s H locs) (hc : cl[ci]? = some (C, T, N)) (k : Nat) (hk : k < N) (hlink : va_Nw (Cond.fieldLinkNest own index ref (T k).2.1 (T k).2.2.1 host) s) (hsame : (T k).1 = ref) {h : Nat} {x : Int32} (hv : im_gI w ci h k = some x) (hdg : decode cc pc = .ok (.getfield index, 3))
    (kk : W p l e R s m args below meth c H locs cells slots Q (F0 m (pc + 3) ls (.int x :: rest))) : W p l e R s m args below meth c H locs cells slots Q (F0 m pc ls (.ref (lo + h) :: rest)) :=
  im_getN (v := .int x) hx hb hts hin hown hK hH hc k hk hlink hsame (im_gI_s hv) hdg kk
theorem im_getNL (hx : p.tables.exec = Jvm.exec) (hb : c.code = cc) {own ref C host : String} {T : u_T} {N ci index : Nat} {Ts : List Cond} (hts : ∀ w ∈ Ts, w.before args s = true) (hin : ∀ w ∈ u_ws C T N, w ∈ Ts) (hown : s.vm.findClass own = some m.cls) (hK : va_K D cl (im_tys tA) s) (hH : im_H D cl tA lo w s H locs) (hc : cl[ci]? = some (C, T, N)) (k : Nat) (hk : k < N) (hlink : va_Nw (Cond.fieldLinkNest own index ref (T k).2.1 (T k).2.2.1 host) s) (hsame : (T k).1 = ref) {h : Nat} {x : Int64} (hv : im_gL w ci h k = some x) (hdg : decode cc pc = .ok (.getfield index, 3))
    (kk : W p l e R s m args below meth c H locs cells slots Q (F0 m (pc + 3) ls (.long x :: rest))) : W p l e R s m args below meth c H locs cells slots Q (F0 m pc ls (.ref (lo + h) :: rest)) :=
  im_getN (v := .long x) hx hb hts hin hown hK hH hc k hk hlink hsame (im_gL_s hv) hdg kk
theorem im_getNR (hx : p.tables.exec = Jvm.exec) (hb : c.code = cc) {own ref C host : String} {T : u_T} {N ci index : Nat} {Ts : List Cond} (hts : ∀ w ∈ Ts, w.before args s = true) (hin : ∀ w ∈ u_ws C T N, w ∈ Ts) (hown : s.vm.findClass own = some m.cls) (hK : va_K D cl (im_tys tA) s) (hH : im_H D cl tA lo w s H locs) (hc : cl[ci]? = some (C, T, N)) (k : Nat) (hk : k < N) (hlink : va_Nw (Cond.fieldLinkNest own index ref (T k).2.1 (T k).2.2.1 host) s) (hsame : (T k).1 = ref) {h : Nat} {x : Nat} (hv : im_gR w ci h k = some x) (hdg : decode cc pc = .ok (.getfield index, 3))
    (kk : W p l e R s m args below meth c H locs cells slots Q (F0 m (pc + 3) ls (.ref (lo + x) :: rest))) : W p l e R s m args below meth c H locs cells slots Q (F0 m pc ls (.ref (lo + h) :: rest)) :=
  im_getN (v := .ref x) hx hb hts hin hown hK hH hc k hk hlink hsame (im_gR_s hv) hdg kk
theorem im_H.set {h : Nat} {e : im_E} {H1 : Heap} {locs1 : List Loc} (hP : va_P D cl ((im_ws tA lo w).set h (lo + h, im_cv tA lo e)) H1) (hS : va_S (fun q => lo ≤ q) s.heap H1 locs1) : im_H D cl tA lo (im_up w h e) s H1 locs1 := by
  rw [im_ws_up] at hP
  exact ⟨hP, hS⟩
theorem im_cv_set {ci k : Nat} {fs : List Value} {v : Value} : im_cv tA lo (.inr (ci, fs.set k v)) = .inr (ci, (fs.map (im_sv lo)).set k (im_sv lo v)) := by
  show (Sum.inr (ci, (fs.set k v).map (im_sv lo)) : va_E) = _
  rw [List.map_set]
theorem im_put (hx : p.tables.exec = Jvm.exec) (hb : c.code = cc) {own ref C : String} {T : u_T} {N ci index : Nat} {Ts : List Cond} (hts : ∀ w ∈ Ts, w.before args s = true) (hin : ∀ w ∈ u_ws C T N, w ∈ Ts) (ty0 : Nat → FieldType) (hty : ∀ k, k < N → parseFieldDescriptor (T k).2.2.1 = some (ty0 k)) (hnm : ∀ a, a < N → ∀ b, b < N → a ≠ b → (T a).2.1 ≠ (T b).2.1) (hown : s.vm.findClass own = some m.cls) (hK : va_K D cl (im_tys tA) s) (hH : im_H D cl tA lo w s H locs) (hc : cl[ci]? = some (C, T, N)) (k : Nat) (hk : k < N) (hlink : (Cond.fieldLink own index ref (T k).2.1 (T k).2.2.1).before args s = true) (hsame : (T k).1 = ref) (hfin : (T k).2.2.2 = false) {h : Nat} {v : Value} (hn : narrow (ty0 k) (im_sv lo v) = im_sv lo v) (hfit : fits (ty0 k) (im_sv lo v) = true) (hv : im_pV w ci h k v = some w') (hdg : decode cc pc = .ok (.putfield index, 3))
    (kk : ∀ (H : Heap) (locs : List Loc), im_H D cl tA lo w' s H locs → W p l e R s m args below meth c H locs cells slots Q (F0 m (pc + 3) ls rest)) : W p l e R s m args below meth c H locs cells slots Q (F0 m pc ls (im_sv lo v :: .ref (lo + h) :: rest)) := by
  obtain ⟨fs, h1, h2, rfl⟩ := im_pV_s hv
  refine va_put hx hb hts hin ty0 hty hnm hown hK hH.1 im_D hH.2 h (im_at_ob h1) hc k hk hlink (by subst hsame; exact fun _ h9 => h9) hfin (hty k hk) hn hfit (by rw [List.length_map]; exact h2) hdg (fun H1 locs1 hP _ hS => ?_)
  exact kk H1 locs1 (im_H.set (by rw [im_cv_set]; exact hP) hS)
theorem im_putN (hx : p.tables.exec = Jvm.exec) (hb : c.code = cc) {own ref C host : String} {T : u_T} {N ci index : Nat} {Ts : List Cond} (hts : ∀ w ∈ Ts, w.before args s = true) (hin : ∀ w ∈ u_ws C T N, w ∈ Ts) (ty0 : Nat → FieldType) (hty : ∀ k, k < N → parseFieldDescriptor (T k).2.2.1 = some (ty0 k)) (hnm : ∀ a, a < N → ∀ b, b < N → a ≠ b → (T a).2.1 ≠ (T b).2.1) (hown : s.vm.findClass own = some m.cls) (hK : va_K D cl (im_tys tA) s) (hH : im_H D cl tA lo w s H locs) (hc : cl[ci]? = some (C, T, N)) (k : Nat) (hk : k < N) (hlink : va_Nw (Cond.fieldLinkNest own index ref (T k).2.1 (T k).2.2.1 host) s) (hsame : (T k).1 = ref) (hfin : (T k).2.2.2 = false) {h : Nat} {v : Value} (hn : narrow (ty0 k) (im_sv lo v) = im_sv lo v) (hfit : fits (ty0 k) (im_sv lo v) = true) (hv : im_pV w ci h k v = some w') (hdg : decode cc pc = .ok (.putfield index, 3))
    (kk : ∀ (H : Heap) (locs : List Loc), im_H D cl tA lo w' s H locs → W p l e R s m args below meth c H locs cells slots Q (F0 m (pc + 3) ls rest)) : W p l e R s m args below meth c H locs cells slots Q (F0 m pc ls (im_sv lo v :: .ref (lo + h) :: rest)) := by
  obtain ⟨fs, h1, h2, rfl⟩ := im_pV_s hv
  refine va_putN hx hb hts hin ty0 hty hnm hown hK hH.1 im_D hH.2 h (im_at_ob h1) hc k hk (va_Nw.use rfl hlink) (by subst hsame; exact fun _ h9 => h9) hfin (hty k hk) hn hfit (by rw [List.length_map]; exact h2) hdg (fun H1 locs1 hP _ hS => ?_)
  exact kk H1 locs1 (im_H.set (by rw [im_cv_set]; exact hP) hS)
theorem im_iald (hx : p.tables.exec = Jvm.exec) (hb : c.code = cc) (hK : va_K D cl (im_tys tA) s) (hH : im_H D cl tA lo w s H locs) {h : Nat} {i x : Int32} (hv : im_lI w 0 h i = some x) (hdg : decode cc pc = .ok (.iaload, 1))
    (kk : W p l e R s m args below meth c H locs cells slots Q (F0 m (pc + 1) ls (.int x :: rest))) : W p l e R s m args below meth c H locs cells slots Q (F0 m pc ls (.int i :: .ref (lo + h) :: rest)) := by
  obtain ⟨n, f, h1, h2, rfl⟩ := im_lI_s hv
  exact va_iald hx hb hK hH.1 h 0 (im_at_ar h1) (im_tys_at (by decide)) h2 hdg kk
theorem im_cald (hx : p.tables.exec = Jvm.exec) (hb : c.code = cc) (hK : va_K D cl (im_tys tA) s) (hH : im_H D cl tA lo w s H locs) {h : Nat} {i x : Int32} (hv : im_lI w 2 h i = some x) (hdg : decode cc pc = .ok (.caload, 1))
    (kk : W p l e R s m args below meth c H locs cells slots Q (F0 m (pc + 1) ls (.int x :: rest))) : W p l e R s m args below meth c H locs cells slots Q (F0 m pc ls (.int i :: .ref (lo + h) :: rest)) := by
  obtain ⟨n, f, h1, h2, rfl⟩ := im_lI_s hv
  exact va_cald hx hb hK hH.1 h 2 (im_at_ar h1) (im_tys_at (by decide)) h2 hdg kk
theorem im_zald (hx : p.tables.exec = Jvm.exec) (hb : c.code = cc) (hK : va_K D cl (im_tys tA) s) (hH : im_H D cl tA lo w s H locs) {h : Nat} {i x : Int32} (hv : im_lI w 3 h i = some x) (hdg : decode cc pc = .ok (.baload, 1))
    (kk : W p l e R s m args below meth c H locs cells slots Q (F0 m (pc + 1) ls (.int x :: rest))) : W p l e R s m args below meth c H locs cells slots Q (F0 m pc ls (.int i :: .ref (lo + h) :: rest)) := by
  obtain ⟨n, f, h1, h2, rfl⟩ := im_lI_s hv
  exact va_zald hx hb hK hH.1 h 3 (im_at_ar h1) (im_tys_at (by decide)) h2 hdg kk
theorem im_lald (hx : p.tables.exec = Jvm.exec) (hb : c.code = cc) (hK : va_K D cl (im_tys tA) s) (hH : im_H D cl tA lo w s H locs) {h : Nat} {i : Int32} {x : Int64} (hv : im_lL w 1 h i = some x) (hdg : decode cc pc = .ok (.laload, 1))
    (kk : W p l e R s m args below meth c H locs cells slots Q (F0 m (pc + 1) ls (.long x :: rest))) : W p l e R s m args below meth c H locs cells slots Q (F0 m pc ls (.int i :: .ref (lo + h) :: rest)) := by
  obtain ⟨n, f, h1, h2, rfl⟩ := im_lL_s hv
  exact va_lald hx hb hK hH.1 h 1 (im_at_ar h1) (im_tys_at (by decide)) h2 hdg kk
theorem im_aald4 (hx : p.tables.exec = Jvm.exec) (hb : c.code = cc) (hK : va_K D cl (im_tys tA) s) (hH : im_H D cl tA lo w s H locs) {h : Nat} {i : Int32} {x : Nat} (hv : im_lR w 4 h i = some x) (hdg : decode cc pc = .ok (.aaload, 1))
    (kk : W p l e R s m args below meth c H locs cells slots Q (F0 m (pc + 1) ls (.ref (lo + x) :: rest))) : W p l e R s m args below meth c H locs cells slots Q (F0 m pc ls (.int i :: .ref (lo + h) :: rest)) := by
  obtain ⟨n, f, h1, h2, h3⟩ := im_lQ_s (im_lR_s hv)
  refine va_aldq hx hb hK hH.1 h 4 (im_at_ar h1) (C := "LanguageTags$Tag") (im_tys_at (by decide)) h2 hdg ?_
  rw [← h3]
  exact kk
theorem im_aald5 (hx : p.tables.exec = Jvm.exec) (hb : c.code = cc) (hK : va_K D cl (im_tys tA) s) (hH : im_H D cl tA lo w s H locs) {h : Nat} {i : Int32} {x : Nat} (hv : im_lR w 5 h i = some x) (hdg : decode cc pc = .ok (.aaload, 1))
    (kk : W p l e R s m args below meth c H locs cells slots Q (F0 m (pc + 1) ls (.ref (lo + x) :: rest))) : W p l e R s m args below meth c H locs cells slots Q (F0 m pc ls (.int i :: .ref (lo + h) :: rest)) := by
  obtain ⟨n, f, h1, h2, h3⟩ := im_lQ_s (im_lR_s hv)
  refine va_aldq hx hb hK hH.1 h 5 (im_at_ar h1) (C := "LanguageTags$Form") (im_tys_at (by decide)) h2 hdg ?_
  rw [← h3]
  exact kk
theorem im_iast (hx : p.tables.exec = Jvm.exec) (hb : c.code = cc) (hK : va_K D cl (im_tys tA) s) (hH : im_H D cl tA lo w s H locs) {h : Nat} {i x : Int32} (hv : im_sI w 0 h i x = some w') (hdg : decode cc pc = .ok (.iastore, 1))
    (kk : ∀ (H : Heap) (locs : List Loc), im_H D cl tA lo w' s H locs → W p l e R s m args below meth c H locs cells slots Q (F0 m (pc + 1) ls rest)) : W p l e R s m args below meth c H locs cells slots Q (F0 m pc ls (.int x :: .int i :: .ref (lo + h) :: rest)) := by
  obtain ⟨n, f, h1, h2, rfl⟩ := im_sI_s hv
  exact va_iast hx hb hK hH.1 im_D hH.2 h 0 (im_at_ar h1) (im_tys_at (by decide)) h2 hdg (fun H1 locs1 hP _ hS => kk H1 locs1 (im_H.set hP hS))
theorem im_cast (hx : p.tables.exec = Jvm.exec) (hb : c.code = cc) (hK : va_K D cl (im_tys tA) s) (hH : im_H D cl tA lo w s H locs) {h : Nat} {i x : Int32} (hv : im_sI w 2 h i (vp_nar .char x) = some w') (hdg : decode cc pc = .ok (.castore, 1))
    (kk : ∀ (H : Heap) (locs : List Loc), im_H D cl tA lo w' s H locs → W p l e R s m args below meth c H locs cells slots Q (F0 m (pc + 1) ls rest)) : W p l e R s m args below meth c H locs cells slots Q (F0 m pc ls (.int x :: .int i :: .ref (lo + h) :: rest)) := by
  obtain ⟨n, f, h1, h2, rfl⟩ := im_sI_s hv
  exact va_cast hx hb hK hH.1 im_D hH.2 h 2 (im_at_ar h1) (im_tys_at (by decide)) h2 hdg (fun H1 locs1 hP _ hS => kk H1 locs1 (im_H.set hP hS))
theorem im_zast (hx : p.tables.exec = Jvm.exec) (hb : c.code = cc) (hK : va_K D cl (im_tys tA) s) (hH : im_H D cl tA lo w s H locs) {h : Nat} {i x : Int32} (hv : im_sI w 3 h i (vp_nar .boolean x) = some w') (hdg : decode cc pc = .ok (.bastore, 1))
    (kk : ∀ (H : Heap) (locs : List Loc), im_H D cl tA lo w' s H locs → W p l e R s m args below meth c H locs cells slots Q (F0 m (pc + 1) ls rest)) : W p l e R s m args below meth c H locs cells slots Q (F0 m pc ls (.int x :: .int i :: .ref (lo + h) :: rest)) := by
  obtain ⟨n, f, h1, h2, rfl⟩ := im_sI_s hv
  exact va_zast hx hb hK hH.1 im_D hH.2 h 3 (im_at_ar h1) (im_tys_at (by decide)) h2 hdg (fun H1 locs1 hP _ hS => kk H1 locs1 (im_H.set hP hS))
theorem im_last (hx : p.tables.exec = Jvm.exec) (hb : c.code = cc) (hK : va_K D cl (im_tys tA) s) (hH : im_H D cl tA lo w s H locs) {h : Nat} {i : Int32} {x : Int64} (hv : im_sL w 1 h i x = some w') (hdg : decode cc pc = .ok (.lastore, 1))
    (kk : ∀ (H : Heap) (locs : List Loc), im_H D cl tA lo w' s H locs → W p l e R s m args below meth c H locs cells slots Q (F0 m (pc + 1) ls rest)) : W p l e R s m args below meth c H locs cells slots Q (F0 m pc ls (.long x :: .int i :: .ref (lo + h) :: rest)) := by
  obtain ⟨n, f, h1, h2, rfl⟩ := im_sL_s hv
  exact va_last hx hb hK hH.1 im_D hH.2 h 1 (im_at_ar h1) (im_tys_at (by decide)) h2 hdg (fun H1 locs1 hP _ hS => kk H1 locs1 (im_H.set hP hS))
theorem im_alen (hx : p.tables.exec = Jvm.exec) (hb : c.code = cc) (hK : va_K D cl (im_tys tA) s) (hH : im_H D cl tA lo w s H locs) {t h : Nat} (ht : t < 6) {x : Int32} (hv : im_len w t h = some x) (hdg : decode cc pc = .ok (.arraylength, 1))
    (kk : W p l e R s m args below meth c H locs cells slots Q (F0 m (pc + 1) ls (.int x :: rest))) : W p l e R s m args below meth c H locs cells slots Q (F0 m pc ls (.ref (lo + h) :: rest)) := by
  obtain ⟨a, h1, h2⟩ := im_len_s hv
  exact va_alen hx hb hK hH.1 h t (im_at_ar h1) (im_tys_at ht) (v := x) h2 hdg kk
/-! calls -/
theorem im_after {rv : Option Value} {st0 : List Value} {a : Array Value} (hr : va_Run p l e R s m args below meth c H locs cells slots 0 0 (F0 m pc ls st0) rest (im_Post D cl tA lo rv w' a) (fun q => lo ≤ q)) (hH : im_H D cl tA lo w s H locs)
    (kk : ∀ (H : Heap) (locs : List Loc), im_H D cl tA lo w' s H locs → W p l e R s m args below meth c H locs cells slots Q (F0 m (pc + 3) ls (rv.toList ++ rest))) : W p l e R s m args below meth c H locs cells slots Q (F0 m pc ls st0) := by
  intro T hT X
  obtain ⟨v, st₀, t, T', L, h0, X', hL, e1, e2, ⟨hv, hP, hz, hk⟩, st⟩ := hr T hT X
  cases hv
  rw [h0] at hz hk
  obtain ⟨t2, a1, b1⟩ := kk T'.heap (locs ++ L) ⟨by rw [e1]; exact hP, Nat.le_trans hH.2.1 (by rw [e1]; exact hz), fun q h1 h2 => by rw [e1, hk q (Nat.lt_of_lt_of_le h1 hH.2.1) h2]; exact hH.2.2.1 q h1 h2, fun q hq => by
      rcases List.mem_append.mp hq with h | h
      · exact hH.2.2.2 q h
      · exact hL q h⟩ T' rfl X'
  exact ⟨t2, st t2 a1, b1⟩
theorem im_afterI {x : Int32} {st0 : List Value} {a : Array Value} (hr : va_Run p l e R s m args below meth c H locs cells slots 0 0 (F0 m pc ls st0) rest (im_Post D cl tA lo (some (.int x)) w' a) (fun q => lo ≤ q)) (hH : im_H D cl tA lo w s H locs)
    (kk : ∀ (H : Heap) (locs : List Loc), im_H D cl tA lo w' s H locs → W p l e R s m args below meth c H locs cells slots Q (F0 m (pc + 3) ls (.int x :: rest))) : W p l e R s m args below meth c H locs cells slots Q (F0 m pc ls st0) := im_after hr hH kk
theorem im_afterL {x : Int64} {st0 : List Value} {a : Array Value} (hr : va_Run p l e R s m args below meth c H locs cells slots 0 0 (F0 m pc ls st0) rest (im_Post D cl tA lo (some (.long x)) w' a) (fun q => lo ≤ q)) (hH : im_H D cl tA lo w s H locs)
    (kk : ∀ (H : Heap) (locs : List Loc), im_H D cl tA lo w' s H locs → W p l e R s m args below meth c H locs cells slots Q (F0 m (pc + 3) ls (.long x :: rest))) : W p l e R s m args below meth c H locs cells slots Q (F0 m pc ls st0) := im_after hr hH kk
theorem im_afterQ {x : Option Nat} {st0 : List Value} {a : Array Value} (hr : va_Run p l e R s m args below meth c H locs cells slots 0 0 (F0 m pc ls st0) rest (im_Post D cl tA lo (some (im_rf lo x)) w' a) (fun q => lo ≤ q)) (hH : im_H D cl tA lo w s H locs)
    (kk : ∀ (H : Heap) (locs : List Loc), im_H D cl tA lo w' s H locs → W p l e R s m args below meth c H locs cells slots Q (F0 m (pc + 3) ls (im_rf lo x :: rest))) : W p l e R s m args below meth c H locs cells slots Q (F0 m pc ls st0) := im_after hr hH kk
theorem im_afterV {st0 : List Value} {a : Array Value} (hr : va_Run p l e R s m args below meth c H locs cells slots 0 0 (F0 m pc ls st0) rest (im_Post D cl tA lo none w' a) (fun q => lo ≤ q)) (hH : im_H D cl tA lo w s H locs)
    (kk : ∀ (H : Heap) (locs : List Loc), im_H D cl tA lo w' s H locs → W p l e R s m args below meth c H locs cells slots Q (F0 m (pc + 3) ls rest)) : W p l e R s m args below meth c H locs cells slots Q (F0 m pc ls st0) := im_after hr hH kk
theorem im_pre {NW : List Cond} (hNW : ∀ x ∈ NW, im_isN x) (hK : va_K D cl (im_tys tA) s) (hN : ∀ x ∈ NW, va_Nw x s) (hH : im_H D cl tA lo w s H locs) (As : List Value) : PreS s H (im_Pre D cl tA lo NW As w) As :=
  ⟨im_blind hNW, fun U hU hW => ⟨rfl, by rw [hU]; exact hH.1, va_K.moved hW.alike hK, fun x hx => (hNW x hx).warm hW (hN x hx)⟩⟩
theorem im_preV {NW : List Cond} (hNW : ∀ x ∈ NW, im_isN x) (hK : va_K D cl (im_tys tA) s) (hN : ∀ x ∈ NW, va_Nw x s) (hH : im_H D cl tA lo w s H locs) {C : String} {q : vw_C} {ci b : Nat} {fs : List Value} (hc : cl[ci]? = some q) (hC : q.1 = C) (hb : im_ob w ci b = some fs) (As : List Value) : PreV s H C (lo + b) (im_Pre D cl tA lo NW (.ref (lo + b) :: As) w) As :=
  ⟨im_blind hNW, by rw [← hC]; exact va_recv hK hH.1 hc (im_at_ob hb), fun U hU hW => ⟨rfl, by rw [hU]; exact hH.1, va_K.moved hW.alike hK, fun x hx => (hNW x hx).warm hW (hN x hx)⟩⟩
/-! ends -/
theorem im_iret {x : Int32} (hx : p.tables.exec = Jvm.exec) (hb : c.code = cc) (hr : meth.sig.returnType = some .int) (hlk : meth.locks = false) (hH : im_H D cl tA lo w s H locs) (hdg : decode cc pc = .ok (.ireturn, 1)) : W p l e R s m args below meth c H locs cells slots (MQ below (im_Post D cl tA lo (some (.int x)) w) args s cells slots (fun q => lo ≤ q)) (F0 m pc ls [.int x]) :=
  W.iret hx hb hr (fun t ht _ => ⟨rfl, by rw [ht]; exact hH.1, hH.2.F ht⟩) hH.2.2.2 hdg hlk
theorem im_zret {x : Int32} {ty : FieldType} (hx : p.tables.exec = Jvm.exec) (hb : c.code = cc) (hr : meth.sig.returnType = some ty) (hlk : meth.locks = false) (hn : narrow ty (.int x) = .int x) (hH : im_H D cl tA lo w s H locs) (hdg : decode cc pc = .ok (.ireturn, 1)) : W p l e R s m args below meth c H locs cells slots (MQ below (im_Post D cl tA lo (some (.int x)) w) args s cells slots (fun q => lo ≤ q)) (F0 m pc ls [.int x]) :=
  W.zret hx hb hr hn (fun t ht _ => ⟨rfl, by rw [ht]; exact hH.1, hH.2.F ht⟩) hH.2.2.2 hdg hlk
theorem im_lret {x : Int64} (hx : p.tables.exec = Jvm.exec) (hb : c.code = cc) (hr : meth.sig.returnType = some .long) (hlk : meth.locks = false) (hH : im_H D cl tA lo w s H locs) (hdg : decode cc pc = .ok (.lreturn, 1)) : W p l e R s m args below meth c H locs cells slots (MQ below (im_Post D cl tA lo (some (.long x)) w) args s cells slots (fun q => lo ≤ q)) (F0 m pc ls [.long x]) :=
  W.lret hx hb hr (fun t ht _ => ⟨rfl, by rw [ht]; exact hH.1, hH.2.F ht⟩) hH.2.2.2 hdg hlk
theorem im_vret (hx : p.tables.exec = Jvm.exec) (hb : c.code = cc) (hr : meth.sig.returnType = none) (hlk : meth.locks = false) (hH : im_H D cl tA lo w s H locs) (hdg : decode cc pc = .ok (.return_, 1)) : W p l e R s m args below meth c H locs cells slots (MQ below (im_Post D cl tA lo none w) args s cells slots (fun q => lo ≤ q)) (F0 m pc ls []) :=
  W.vret hx hb hr (fun t ht _ => ⟨rfl, by rw [ht]; exact hH.1, hH.2.F ht⟩) hH.2.2.2 hdg hlk
theorem im_aret {r : Option Nat} {C : String} (hx : p.tables.exec = Jvm.exec) (hb : c.code = cc) (hr : meth.sig.returnType = some (.object C)) (hlk : meth.locks = false) (hH : im_H D cl tA lo w s H locs) (hdg : decode cc pc = .ok (.areturn, 1)) : W p l e R s m args below meth c H locs cells slots (MQ below (im_Post D cl tA lo (some (im_rf lo r)) w) args s cells slots (fun q => lo ≤ q)) (F0 m pc ls [im_rf lo r]) :=
  W.aret hx hb hr (Or.inl ⟨C, rfl⟩) (by cases r with
    | none => exact Or.inl rfl
    | some a => exact Or.inr ⟨lo + a, rfl⟩) (fun t ht _ => ⟨rfl, by rw [ht]; exact hH.1, hH.2.F ht⟩) hH.2.2.2 hdg hlk
/-! references that may be null -/
theorem im_null (hx : p.tables.exec = Jvm.exec) (hb : c.code = cc) (hdg : decode cc pc = .ok (.aconst_null, 1)) (k : W p l e R s m args below meth c H locs cells slots Q (F0 m (pc + 1) ls (im_rf lo none :: rest))) : W p l e R s m args below meth c H locs cells slots Q (F0 m pc ls rest) := lv_null hx hb hdg k
theorem im_aloadQ_n (hx : p.tables.exec = Jvm.exec) (hb : c.code = cc) {k : Fin 4} {i : Nat} {q : Option Nat} (hdg : decode cc pc = .ok (.aload_n k, 1)) (hi : (k : Nat) = i) (hl : ls[i]? = some (.val (im_rf lo q))) (kk : W p l e R s m args below meth c H locs cells slots Q (F0 m (pc + 1) ls (im_rf lo q :: rest))) : W p l e R s m args below meth c H locs cells slots Q (F0 m pc ls rest) := by
  cases q with
  | none => exact lv_aload_nN hx hb hdg hi hl kk
  | some a => exact lv_aload_n hx hb hdg hi hl kk
theorem im_aloadQ (hx : p.tables.exec = Jvm.exec) (hb : c.code = cc) {i : Nat} {q : Option Nat} (hdg : decode cc pc = .ok (.aload i, 2)) (hl : ls[i]? = some (.val (im_rf lo q))) (kk : W p l e R s m args below meth c H locs cells slots Q (F0 m (pc + 2) ls (im_rf lo q :: rest))) : W p l e R s m args below meth c H locs cells slots Q (F0 m pc ls rest) := by
  cases q with
  | none => exact lv_aloadN hx hb hdg hl kk
  | some a => exact lv_aload hx hb hdg hl kk
theorem im_astoreQ_n (hx : p.tables.exec = Jvm.exec) (hb : c.code = cc) {k : Fin 4} {i nL : Nat} {q : Option Nat} {lv lv' : List (Nat × Value)} (hdg : decode cc pc = .ok (.astore_n k, 1)) (hi : (k : Nat) = i) (h : lv_has ls nL lv) (hn : i < nL) (hl : (i, im_rf lo q) :: lv.filter (fun q => !(q.1 == i) && !(q.1 + 1 == i && q.2.category == 2)) = lv')
    (kk : ∀ ls : Array Slot, lv_has ls nL lv' → W p l e R s m args below meth c H locs cells slots Q (F0 m (pc + 1) ls rest)) : W p l e R s m args below meth c H locs cells slots Q (F0 m pc ls (im_rf lo q :: rest)) := by
  cases q with
  | none => exact lv_astore_nN hx hb hdg hi h hn hl kk
  | some a => exact lv_astore_n hx hb hdg hi h hn hl kk
theorem im_astoreQ (hx : p.tables.exec = Jvm.exec) (hb : c.code = cc) {i nL : Nat} {q : Option Nat} {lv lv' : List (Nat × Value)} (hdg : decode cc pc = .ok (.astore i, 2)) (h : lv_has ls nL lv) (hn : i < nL) (hl : (i, im_rf lo q) :: lv.filter (fun q => !(q.1 == i) && !(q.1 + 1 == i && q.2.category == 2)) = lv')
    (kk : ∀ ls : Array Slot, lv_has ls nL lv' → W p l e R s m args below meth c H locs cells slots Q (F0 m (pc + 2) ls rest)) : W p l e R s m args below meth c H locs cells slots Q (F0 m pc ls (im_rf lo q :: rest)) := by
  cases q with
  | none => exact lv_astoreN hx hb hdg h hn hl kk
  | some a => exact lv_astore hx hb hdg h hn hl kk
/-! the script -/
theorem im_sld (hx : p.tables.exec = Jvm.exec) (hb : c.code = cc) {b n : Nat} {xs : Nat → Int32} (hX : va_X b n xs s s.heap) (hbl : b < s.heap.size) (hbA : ¬ lo ≤ b) (hH : im_H D cl tA lo w s H locs) {i x : Int32} (hv : im_scr n xs i = some x) (hdg : decode cc pc = .ok (.iaload, 1))
    (kk : W p l e R s m args below meth c H locs cells slots Q (F0 m (pc + 1) ls (.int x :: rest))) : W p l e R s m args below meth c H locs cells slots Q (F0 m pc ls (.int i :: .ref b :: rest)) := by
  obtain ⟨h1, rfl⟩ := im_scr_s hv
  exact va_sld hx hb hX hbl (A := fun q => lo ≤ q) hbA hH.2 h1 hdg kk
theorem im_slen (hx : p.tables.exec = Jvm.exec) (hb : c.code = cc) {b n : Nat} {xs : Nat → Int32} (hX : va_X b n xs s s.heap) (hbl : b < s.heap.size) (hbA : ¬ lo ≤ b) (hH : im_H D cl tA lo w s H locs) (hdg : decode cc pc = .ok (.arraylength, 1))
    (kk : W p l e R s m args below meth c H locs cells slots Q (F0 m (pc + 1) ls (.int (Int32.ofNat n) :: rest))) : W p l e R s m args below meth c H locs cells slots Q (F0 m pc ls (.ref b :: rest)) :=
  va_slen hx hb hX hbl (A := fun q => lo ≤ q) hbA hH.2 hdg kk
end IMR
def im_WW (D : va_G) (cl : List vw_C) (tA : Nat → ClassId) (lo nL : Nat) (p : Program) (l : Launch) (e : Env) (R : Room) (s : State) (m : MethodId) (args : Array Value) (below : List Frame) (meth : Method) (c : Code) (cells slots : Nat) (Q : State → Prop) (pc : Nat) (lv : List (Nat × Value)) (st : List Value) (w : im_W) : Prop :=
  ∀ (H : Heap) (locs : List Loc) (ls : Array Slot), im_H D cl tA lo w s H locs → lv_has ls nL lv → W p l e R s m args below meth c H locs cells slots Q (F0 m pc ls st)
/-! a method's contract out of its walk -/
theorem im_ofW {D : va_G} {cl : List vw_C} {tA : Nat → ClassId} {lo : Nat} {NW : List Cond} {l : Launch} {y : MethodName} {Ts : List Cond} {rm : Room} {cc : ByteArray} {nL : Nat} {ret : Option FieldType} {As : List Value} {w w' : im_W} {rv : Option Value} (hy : plainName y.cls = true) (hn : (lg_sl As).length ≤ nL)
    (body : ∀ (p : Program) (e : Env) (s : State) (m : MethodId) (args : Array Value) (below : List Frame) (meth : Method) (c : Code), im_X D cl tA lo NW cc nL ret y.cls Ts p s m args meth c → ∀ (H : Heap) (locs : List Loc) (ls : Array Slot), im_H D cl tA lo w s H locs → lv_has ls nL (lv_args 0 As) → W p l e rm s m args below meth c H locs 0 0 (MQ below (im_Post D cl tA lo rv w') args s 0 0 (fun q => lo ≤ q)) (F0 m 0 ls [])) :
    Met l y (Cond.code y cc nL ret :: Ts) rm (im_Pre D cl tA lo NW As w) (im_Post D cl tA lo rv w') 0 0 (fun q => lo ≤ q) := by
  refine Met.ofW (cc := cc) (maxL := nL) (ret := ret) hy rfl ?_
  intro p e s m args below meth c s₁ B hml hv
  obtain ⟨rfl, hP, hK, hN⟩ := hv
  have hl := lv_entry As (n := nL) hn
  rw [lg_entry_eq]
  generalize (lg_sl As ++ List.replicate (nL - (lg_sl As).length) Slot.unset).toArray = ls at hl ⊢
  have hts := atoms_spec (ws := Cond.code y cc nL ret :: Ts) B.pre
  exact body p e s m _ below meth c ⟨B.exec, B.bytes, B.returns, fun w h => hts w (List.mem_cons_of_mem _ h), findClass_of_methodNamed B.named, B.notSynchronized, hml, hK, hN⟩ s.heap [] ls ⟨hP, va_S.rf⟩ hl
