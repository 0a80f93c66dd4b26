/-! constructors: methods that make cells -/
def im_al (w : im_W) (e : im_E) : Option (Nat × im_W) := some (w.1, im_push w e)
def im_sz (w : im_W) (n : Nat) : Option Unit := if w.1 = n then some () else none
def im_sR (w : im_W) (t h : Nat) (i : Int32) (ci v : Nat) : Option im_W := match im_ar w t h with
  | some (n, .inr (.inr (.inr (.inr f)))) => (match im_ob w ci v with
    | some _ => if i < 0 ∨ n ≤ i.toNatClampNeg then none else some (im_up w h (.inl (t, n, .inr (.inr (.inr (.inr (va_up f i.toNatClampNeg (some v))))))))
    | none => none)
  | _ => none
theorem im_al_s {w w' : im_W} {e : im_E} {n : Nat} (h : im_al w e = some (n, w')) : n = w.1 ∧ w' = im_push w e := by
  cases h
  exact ⟨rfl, rfl⟩
theorem im_sR_s {w w' : im_W} {t h ci v : Nat} {i : Int32} (e : im_sR w t h i ci v = some w') : ∃ (n : Nat) (f : Nat → Option Nat) (fs : List Value), im_ar w t h = some (n, .inr (.inr (.inr (.inr f)))) ∧ im_ob w ci v = some fs ∧ vp_in i n ∧ w' = im_up w h (.inl (t, n, .inr (.inr (.inr (.inr (va_up f i.toNatClampNeg (some v))))))) := by
  unfold im_sR at e
  split at e
  · rename_i n f h1
    split at e
    · rename_i fs h3
      split at e
      · cases e
      · rename_i h2
        cases e
        exact ⟨n, f, fs, h1, h3, h2, rfl⟩
    · cases e
  · cases e
theorem im_z_al {w w' : im_W} {e : im_E} {n a b lo : Nat} (h : im_al w e = some (n, w')) (hz : a + b = lo + w.1) : a + (b + 1) = lo + w'.1 := by
  obtain ⟨-, rfl⟩ := im_al_s h
  show a + (b + 1) = lo + (w.1 + 1)
  omega
theorem im_z_p {w w' : im_W} {ci h k a b lo : Nat} {v : Value} (e : im_pV w ci h k v = some w') (hz : a + b = lo + w.1) : a + b = lo + w'.1 := by
  obtain ⟨fs, -, -, rfl⟩ := im_pV_s e
  exact hz
theorem im_z_s {w w' : im_W} {t h ci v a b lo : Nat} {i : Int32} (e : im_sR w t h i ci v = some w') (hz : a + b = lo + w.1) : a + b = lo + w'.1 := by
  obtain ⟨n, f, fs, -, -, -, rfl⟩ := im_sR_s e
  exact hz
theorem im_z_k {w w' : im_W} {K a b lo : Nat} {u : Unit} (e : im_sz w' (w.1 + K) = some u) (hz : a + b = lo + w.1) : a + (b + K) = lo + w'.1 := by
  unfold im_sz at e
  split at e
  · omega
  · cases e
def im_rmc (f k mc ms : Nat) : Room := { frames := f, cells := mc, slots := ms, locals := k }
def im_AO : List String := ["LanguageTags$Tag", "LanguageTags$Form"]
def im_PreC (D : va_G) (cl : List vw_C) (tA : Nat → ClassId) (lo : Nat) (NW : List Cond) (As : List Value) (w : im_W) : Array Value → State → Prop := fun a U => im_Pre D cl tA lo NW As w a U ∧ U.heap.size = lo + w.1 ∧ ∀ C ∈ im_AO, va_AO C U
section IMC
variable {p : Program} {l : Launch} {e : Env} {R : Room} {s : State} {m : MethodId} {args : Array Value} {below : List Frame} {meth : Method} {c : Code} {H : Heap} {locs : List Loc} {cells slots : Nat} {Q : State → Prop}
variable {cc : ByteArray} {pc : Nat} {ls : Array Slot} {rest : List Value} {D : va_G} {cl : List vw_C} {tA : Nat → ClassId} {lo : Nat} {w w' : im_W}
theorem im_new' (hx : p.tables.exec = Jvm.exec) (hb : c.code = cc) {own C : String} {T : u_T} {N ci index : Nat} {Ts : List Cond} (hts : ∀ w ∈ Ts, w.before args s = true) (hin : ∀ w ∈ u_ws C T N, w ∈ Ts) (ty : Nat → FieldType) (hty : ∀ k, k < N → parseFieldDescriptor (T k).2.2.1 = some (ty k)) (hown : s.vm.findClass own = some m.cls) (hcl : (Cond.classLink own index C).before args s = true) (hinst : (Cond.instantiable C N).before args s = true) (hini : (Cond.initialized C).before args s = true)
    (hK : va_K D cl (im_tys tA) s) (hH : im_H D cl tA lo w s H locs) (hc : cl[ci]? = some (C, T, N)) (hlo : lo ≤ s.heap.size) (hz : s.heap.size + cells = lo + w.1) {fs : List Value} (hfs : ∀ j, j < N → defaultValue (ty j) = vp_V (fs.map (im_sv lo)) j) (hcells : cells + 1 ≤ R.cells) (hslots : slots + N ≤ R.slots) {n : Nat} (h : im_al w (.inr (ci, fs)) = some (n, w')) (hdg : decode cc pc = .ok (.new index, 3))
    (kk : ∀ (H : Heap), im_H D cl tA lo w' s H locs → W p l e R s m args below meth c H locs (cells + 1) (slots + N) Q (F0 m (pc + 3) ls (.ref (lo + n) :: rest))) : W p l e R s m args below meth c H locs cells slots Q (F0 m pc ls rest) := by
  obtain ⟨rfl, rfl⟩ := im_al_s h
  exact im_new hx hb hts hin ty hty hown hcl hinst hini hK hH hc hlo hz hfs hcells hslots hdg kk
theorem im_newa' (hx : p.tables.exec = Jvm.exec) (hb : c.code = cc) {atype : ArrayType} (harr : (Cond.arrayClass (newarray.typeOf atype)).before args s = true) {t : Nat} (ht : t < 6) (hty : newarray.typeOf atype = im_ty t) (hK : va_K D cl (im_tys tA) s) (hH : im_H D cl tA lo w s H locs) (hlo : lo ≤ s.heap.size) (hz : s.heap.size + cells = lo + w.1)
    {n : Int32} {N' : Nat} {a0 : vp_A} (ha : ∀ cA : ClassId, vp_cell cA (im_sa lo a0) = arrV cA N' (fun _ => defaultValue (im_ty t))) (hn : ¬ n < 0) (hN : n.toNatClampNeg = N') (hbytes : N' * componentBytes (im_ty t) ≤ 536870912) (hcells : cells + 1 ≤ R.cells) (hslots : slots + N' ≤ R.slots) {k : Nat} (h : im_al w (.inl (t, a0)) = some (k, w')) (hdg : decode cc pc = .ok (.newarray atype, 2))
    (kk : ∀ (H : Heap), im_H D cl tA lo w' s H locs → W p l e R s m args below meth c H locs (cells + 1) (slots + N') Q (F0 m (pc + 2) ls (.ref (lo + k) :: rest))) : W p l e R s m args below meth c H locs cells slots Q (F0 m pc ls (.int n :: rest)) := by
  obtain ⟨rfl, rfl⟩ := im_al_s h
  exact im_newa hx hb harr ht hty hK hH hlo hz ha hn hN hbytes hcells hslots hdg kk
theorem im_newq' (hx : p.tables.exec = Jvm.exec) (hb : c.code = cc) {own C : String} {index : Nat} (hown : s.vm.findClass own = some m.cls) (hclink : (Cond.classLink own index C).before args s = true) (hover : va_AO C s) {t : Nat} (ht : t < 6) (hty : im_ty t = .object C) (hK : va_K D cl (im_tys tA) s) (hH : im_H D cl tA lo w s H locs) (hlo : lo ≤ s.heap.size) (hz : s.heap.size + cells = lo + w.1)
    {n : Int32} {N' : Nat} (hn : ¬ n < 0) (hN : n.toNatClampNeg = N') (hbytes : N' * 4 ≤ 536870912) (hcells : cells + 1 ≤ R.cells) (hslots : slots + N' ≤ R.slots) {k : Nat} (h : im_al w (.inl (t, N', .inr (.inr (.inr (.inr (fun _ => none)))))) = some (k, w')) (hdg : decode cc pc = .ok (.anewarray index, 3))
    (kk : ∀ (H : Heap), im_H D cl tA lo w' s H locs → W p l e R s m args below meth c H locs (cells + 1) (slots + N') Q (F0 m (pc + 3) ls (.ref (lo + k) :: rest))) : W p l e R s m args below meth c H locs cells slots Q (F0 m pc ls (.int n :: rest)) := by
  obtain ⟨rfl, rfl⟩ := im_al_s h
  exact im_newq hx hb hown hclink hover ht hty hK hH hlo hz hn hN hbytes hcells hslots hdg kk
theorem im_putF (hx : p.tables.exec = Jvm.exec) (hb : c.code = cc) {own ref C : String} {T : u_T} {N ci index : Nat} {Ts : List Cond} (hts : ∀ w ∈ Ts, w.before args s = true) (hin : ∀ w ∈ u_ws C T N, w ∈ Ts) (ty0 : Nat → FieldType) (hty : ∀ k, k < N → parseFieldDescriptor (T k).2.2.1 = some (ty0 k)) (hnm : ∀ a, a < N → ∀ b, b < N → a ≠ b → (T a).2.1 ≠ (T b).2.1) (hown : s.vm.findClass own = some m.cls) (hK : va_K D cl (im_tys tA) s) (hH : im_H D cl tA lo w s H locs) (hc : cl[ci]? = some (C, T, N)) (k : Nat) (hk : k < N) (hlink : (Cond.fieldLink own index ref (T k).2.1 (T k).2.2.1).before args s = true) (hsame : (T k).1 = ref) (hfin : (T k).2.2.2 = true) (hin2 : meth.name = "<init>") (hdecl : (T k).1 = own) {h : Nat} {v : Value} (hn : narrow (ty0 k) (im_sv lo v) = im_sv lo v) (hfit : fits (ty0 k) (im_sv lo v) = true) (hv : im_pV w ci h k v = some w') (hdg : decode cc pc = .ok (.putfield index, 3))
    (kk : ∀ (H : Heap) (locs : List Loc), im_H D cl tA lo w' s H locs → W p l e R s m args below meth c H locs cells slots Q (F0 m (pc + 3) ls rest)) : W p l e R s m args below meth c H locs cells slots Q (F0 m pc ls (im_sv lo v :: .ref (lo + h) :: rest)) := by
  obtain ⟨fs, h1, h2, rfl⟩ := im_pV_s hv
  refine va_putF hx hb hts hin ty0 hty hnm hown hK hH.1 im_D hH.2 h (im_at_ob h1) hc k hk hlink (by subst hsame; exact fun _ h9 => h9) hfin hin2 hdecl (hty k hk) hn hfit (by rw [List.length_map]; exact h2) hdg (fun H1 locs1 hP _ hS => ?_)
  exact kk H1 locs1 (im_H.set (by rw [im_cv_set]; exact hP) hS)
theorem im_aast (hx : p.tables.exec = Jvm.exec) (hb : c.code = cc) (hK : va_K D cl (im_tys tA) s) (hH : im_H D cl tA lo w s H locs) {t h ci v : Nat} {r : vw_C} (ht : t < 6) (hty : im_ty t = .object r.1) (hc : cl[ci]? = some r) {i : Int32} (hv : im_sR w t h i ci v = some w') (hdg : decode cc pc = .ok (.aastore, 1))
    (kk : ∀ (H : Heap) (locs : List Loc), im_H D cl tA lo w' s H locs → W p l e R s m args below meth c H locs cells slots Q (F0 m (pc + 1) ls rest)) : W p l e R s m args below meth c H locs cells slots Q (F0 m pc ls (.ref (lo + v) :: .int i :: .ref (lo + h) :: rest)) := by
  obtain ⟨n, f, fs, h1, h3, h2, rfl⟩ := im_sR_s hv
  refine va_astq hx hb hK hH.1 im_D hH.2 h t v ci (r := r) (im_at_ar h1) (by rw [← hty]; exact im_tys_at ht) (im_at_ob h3) hc h2 hdg (fun H1 locs1 hP _ hS => kk H1 locs1 (im_H.set ?_ hS))
  have e : im_cv tA lo (.inl (t, n, .inr (.inr (.inr (.inr (va_up f i.toNatClampNeg (some v))))))) = .inl (tA t, n, .inr (.inr (.inr (.inr (va_up (fun j => (f j).map (fun a => lo + a)) i.toNatClampNeg (some (lo + v))))))) := by
    have hf : (fun j => (va_up f i.toNatClampNeg (some v) j).map (fun a => lo + a)) = va_up (fun j => (f j).map (fun a => lo + a)) i.toNatClampNeg (some (lo + v)) := by
      funext j
      by_cases hj : j = i.toNatClampNeg
      · simp [va_up, hj]
      · simp [va_up, hj]
    rw [← hf]
    rfl
  rw [e]
  exact hP
theorem im_low (hH : im_H D cl tA lo w s H locs) (hlo : lo ≤ s.heap.size) : lo + w.1 ≤ H.size := by
  cases hn : w.1 with
  | zero => exact Nat.le_trans hlo hH.2.1
  | succ n =>
    have h1 := (hH.1 n _ (im_ws_at (by omega))).lt
    have h1 : lo + n < H.size := h1
    omega
theorem im_afterC {mc ms : Nat} {st0 : List Value} {a : Array Value} (hr : va_Run p l e R s m args below meth c H locs cells slots mc ms (F0 m pc ls st0) rest (im_Post D cl tA lo none w' a) (fun q => lo ≤ q)) (hH : im_H D cl tA lo w s H locs)
    (kk : ∀ (H : Heap) (locs : List Loc), im_H D cl tA lo w' s H locs → W p l e R s m args below meth c H locs (cells + mc) (slots + ms) Q (F0 m (pc + 3) ls rest)) : W p l e R s m args below meth c H locs cells slots Q (F0 m pc ls st0) := by
  intro T hT X
  obtain ⟨v, st₀, t, T', L, h0, X', hL, e1, e2, ⟨hv, hP, hz, hk⟩, st⟩ := hr T hT X
  cases hv
  rw [h0] at hz hk
  obtain ⟨t2, a1, b1⟩ := kk T'.heap (locs ++ L) ⟨by rw [e1]; exact hP, Nat.le_trans hH.2.1 (by rw [e1]; exact hz), fun q h1 h2 => by rw [e1, hk q (Nat.lt_of_lt_of_le h1 hH.2.1) h2]; exact hH.2.2.1 q h1 h2, fun q hq => by
      rcases List.mem_append.mp hq with h | h
      · exact hH.2.2.2 q h
      · exact hL q h⟩ T' rfl X'
  exact ⟨t2, st t2 a1, b1⟩
theorem im_preC {NW : List Cond} (hNW : ∀ x ∈ NW, im_isN x) (hK : va_K D cl (im_tys tA) s) (hN : ∀ x ∈ NW, va_Nw x s) (hAO : ∀ C ∈ im_AO, va_AO C s) (hH : im_H D cl tA lo w s H locs) (hsz : H.size = lo + w.1) (As : List Value) : PreS s H (im_PreC D cl tA lo NW As w) As :=
  ⟨fun a U g mk q => ⟨im_blind hNW a U g mk q.1, q.2.1, fun C hC => va_AO.moved (u := U) (U := U.calling g mk a) (Vm.Alike.refl U.vm) (q.2.2 C hC)⟩, fun U hU hW => ⟨(im_pre hNW hK hN hH As).2 U hU hW, by rw [hU]; exact hsz, fun C hC => va_AO.moved hW.alike (hAO C hC)⟩⟩
end IMC
theorem im_ofWC {D : va_G} {cl : List vw_C} {tA : Nat → ClassId} {lo : Nat} {NW : List Cond} {l : Launch} {y : MethodName} {Ts : List Cond} {rm : Room} {cc : ByteArray} {nL mc ms : Nat} {As : List Value} {w w' : im_W} (hy : plainName y.cls = true) (hyn : y.name = "<init>") (hn : (lg_sl As).length ≤ nL)
    (body : ∀ (p : Program) (e : Env) (s : State) (m : MethodId) (args : Array Value) (below : List Frame) (meth : Method) (c : Code), im_X D cl tA lo NW cc nL none y.cls Ts p s m args meth c → meth.name = "<init>" → lo ≤ s.heap.size → s.heap.size + 0 = lo + w.1 → (∀ C ∈ im_AO, va_AO C s) → ∀ (H : Heap) (locs : List Loc) (ls : Array Slot), im_H D cl tA lo w s H locs → lv_has ls nL (lv_args 0 As) → W p l e rm s m args below meth c H locs 0 0 (MQ below (im_Post D cl tA lo none w') args s mc ms (fun q => lo ≤ q)) (F0 m 0 ls [])) :
    Met l y (Cond.code y cc nL none :: Ts) rm (im_PreC D cl tA lo NW As w) (im_Post D cl tA lo none w') mc ms (fun q => lo ≤ q) := by
  refine Met.ofW (cc := cc) (maxL := nL) (ret := none) hy rfl ?_
  intro p e s m args below meth c s₁ B hml hv
  obtain ⟨⟨rfl, hP, hK, hN⟩, hsz, hAO⟩ := hv
  have hl := lv_entry As (n := nL) hn
  rw [lg_entry_eq]
  generalize (lg_sl As ++ List.replicate (nL - (lg_sl As).length) Slot.unset).toArray = ls at hl ⊢
  have hts := atoms_spec (ws := Cond.code y cc nL none :: Ts) B.pre
  have hin : meth.name = "<init>" := by rw [← hyn]; exact (name_of_methodNamed B.named B.method).1
  exact body p e s m _ below meth c ⟨B.exec, B.bytes, B.returns, fun w h => hts w (List.mem_cons_of_mem _ h), findClass_of_methodNamed B.named, B.notSynchronized, hml, hK, hN⟩ hin (by omega) hsz hAO s.heap [] ls ⟨hP, va_S.rf⟩ hl
