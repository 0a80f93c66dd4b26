/-! making cells: their addresses are known, for the heap's size is -/
section IMA
variable {p : Program} {l : Launch} {e : Env} {R : Room} {s : State} {m : MethodId} {args : Array Value} {below : List Frame} {meth : Method} {c : Code} {H : Heap} {locs : List Loc} {cells slots : Nat} {Q : State → Prop}
variable {cc : ByteArray} {pc : Nat} {ls : Array Slot} {rest : List Value} {D : va_G} {cl : List vw_C} {tA : Nat → ClassId} {lo : Nat} {w w' : im_W}
theorem im_sized {g : JFrame} (k : H.size ≤ s.heap.size + cells → W p l e R s m args below meth c H locs cells slots Q g) : W p l e R s m args below meth c H locs cells slots Q g := fun T hT X => k (by rw [← hT]; exact X.heapSize) T hT X
theorem im_ws_len : (im_ws tA lo w).length = w.1 := by simp [im_ws]
theorem im_fresh {q : Nat} {e' : va_E} {H1 : Heap} (hP : va_P D cl (im_ws tA lo w ++ [(q, e')]) H1) (hD : va_D (fun q => lo ≤ q) (im_ws tA lo w ++ [(q, e')])) (hz : H1.size ≤ lo + w.1 + 1) : q = lo + w.1 := by
  have hlen : (im_ws tA lo w).length = w.1 := im_ws_len
  have hq : (im_ws tA lo w ++ [(q, e')])[w.1]? = some (q, e') := by
    rw [List.getElem?_append_right (by omega)]
    simp [hlen]
  have h1 : q < H1.size := (hP _ _ hq).lt
  have h2 : lo ≤ q := hD.2 _ _ hq
  by_cases h : q - lo < w.1
  · have hk : (im_ws tA lo w ++ [(q, e')])[q - lo]? = some (lo + (q - lo), im_cv tA lo (w.2 (q - lo))) := by
      rw [List.getElem?_append_left (by omega), im_ws_at h]
    have h3 := hD.1 _ _ _ _ hk hq (show lo + (q - lo) = q by omega)
    omega
  · omega
theorem im_new (hx : p.tables.exec = Jvm.exec) (hb : c.code = cc) {own C : String} {T : u_T} {N ci index : Nat} {Ts : List Cond} (hts : ∀ w ∈ Ts, w.before args s = true) (hin : ∀ w ∈ u_ws C T N, w ∈ Ts) (ty : Nat → FieldType) (hty : ∀ k, k < N → parseFieldDescriptor (T k).2.2.1 = some (ty k)) (hown : s.vm.findClass own = some m.cls) (hcl : (Cond.classLink own index C).before args s = true) (hinst : (Cond.instantiable C N).before args s = true) (hini : (Cond.initialized C).before args s = true)
    (hK : va_K D cl (im_tys tA) s) (hH : im_H D cl tA lo w s H locs) (hc : cl[ci]? = some (C, T, N)) (hlo : lo ≤ s.heap.size) (hz : s.heap.size + cells = lo + w.1) {fs : List Value} (hfs : ∀ j, j < N → defaultValue (ty j) = vp_V (fs.map (im_sv lo)) j) (hcells : cells + 1 ≤ R.cells) (hslots : slots + N ≤ R.slots) (hdg : decode cc pc = .ok (.new index, 3))
    (kk : ∀ (H : Heap), im_H D cl tA lo (im_push w (.inr (ci, fs))) s H locs → W p l e R s m args below meth c H locs (cells + 1) (slots + N) Q (F0 m (pc + 3) ls (.ref (lo + w.1) :: rest))) : W p l e R s m args below meth c H locs cells slots Q (F0 m pc ls rest) := by
  refine va_new (fs := fs.map (im_sv lo)) hx hb hts hin ty hty hown hcl hinst hini hK hH.1 im_D hH.2 (fun q hq => Nat.le_trans hlo hq) hc hfs hcells hslots hdg (fun q H1 hP hD hS => im_sized (fun hsz => ?_))
  obtain rfl := im_fresh hP hD (by omega)
  have hP : va_P D cl (im_ws tA lo w ++ [(lo + w.1, im_cv tA lo (.inr (ci, fs)))]) H1 := hP
  rw [im_ws_push] at hP
  exact kk H1 ⟨hP, hS⟩
theorem im_tA {t : Nat} {cA : ClassId} {ty : FieldType} (hK : va_K D cl (im_tys tA) s) (ht : t < 6) (hty : im_ty t = ty) (hK2 : va_K D cl (im_tys tA ++ [(cA, ty)]) s) : cA = tA t := by
  have h1 := (hK.2 t _ (im_tys_at ht)).2
  have h2 := (hK2.2 6 (cA, ty) (by rw [List.getElem?_append_right (by simp [im_tys])]; simp [im_tys])).2
  subst hty
  have key : ∀ (ty : FieldType) (c1 c2 : ClassId), va_RA s c1 ty → va_RA s c2 ty → c1 = c2 := by
    intro ty c1 c2 a1 a2
    cases ty with
    | object C =>
      obtain ⟨_, _, _, _, _, b1⟩ := a1
      obtain ⟨_, _, _, _, _, b2⟩ := a2
      exact Option.some.inj (b1.symm.trans b2)
    | _ => exact Option.some.inj (Eq.trans (Eq.symm a1) a2)
  exact key _ _ _ h2 h1
theorem im_newa (hx : p.tables.exec = Jvm.exec) (hb : c.code = cc) {atype : ArrayType} (harr : (Cond.arrayClass (newarray.typeOf atype)).before args s = true) {t : Nat} (ht : t < 6) (hty : newarray.typeOf atype = im_ty t) (hK : va_K D cl (im_tys tA) s) (hH : im_H D cl tA lo w s H locs) (hlo : lo ≤ s.heap.size) (hz : s.heap.size + cells = lo + w.1)
    {n : Int32} {N' : Nat} {a0 : vp_A} (ha : ∀ cA : ClassId, vp_cell cA (im_sa lo a0) = arrV cA N' (fun _ => defaultValue (im_ty t))) (hn : ¬ n < 0) (hN : n.toNatClampNeg = N') (hbytes : N' * componentBytes (im_ty t) ≤ 536870912) (hcells : cells + 1 ≤ R.cells) (hslots : slots + N' ≤ R.slots) (hdg : decode cc pc = .ok (.newarray atype, 2))
    (kk : ∀ (H : Heap), im_H D cl tA lo (im_push w (.inl (t, a0))) s H locs → W p l e R s m args below meth c H locs (cells + 1) (slots + N') Q (F0 m (pc + 2) ls (.ref (lo + w.1) :: rest))) : W p l e R s m args below meth c H locs cells slots Q (F0 m pc ls (.int n :: rest)) := by
  refine va_newa hx hb harr hty hK hH.1 im_D hH.2 (fun q hq => Nat.le_trans hlo hq) ha hn hN hbytes hcells hslots hdg (fun q cA H1 hK2 hP hD hS => im_sized (fun hsz => ?_))
  obtain rfl := im_fresh hP hD (by omega)
  obtain rfl := im_tA hK ht rfl hK2
  have hP : va_P D cl (im_ws tA lo w ++ [(lo + w.1, im_cv tA lo (.inl (t, a0)))]) H1 := hP
  rw [im_ws_push] at hP
  exact kk H1 ⟨hP, hS⟩
theorem im_newq (hx : p.tables.exec = Jvm.exec) (hb : c.code = cc) {own C : String} {index : Nat} (hown : s.vm.findClass own = some m.cls) (hclink : (Cond.classLink own index C).before args s = true) (hover : va_AO C s) {t : Nat} (ht : t < 6) (hty : im_ty t = .object C) (hK : va_K D cl (im_tys tA) s) (hH : im_H D cl tA lo w s H locs) (hlo : lo ≤ s.heap.size) (hz : s.heap.size + cells = lo + w.1)
    {n : Int32} {N' : Nat} (hn : ¬ n < 0) (hN : n.toNatClampNeg = N') (hbytes : N' * 4 ≤ 536870912) (hcells : cells + 1 ≤ R.cells) (hslots : slots + N' ≤ R.slots) (hdg : decode cc pc = .ok (.anewarray index, 3))
    (kk : ∀ (H : Heap), im_H D cl tA lo (im_push w (.inl (t, N', .inr (.inr (.inr (.inr (fun _ => none))))))) s H locs → W p l e R s m args below meth c H locs (cells + 1) (slots + N') Q (F0 m (pc + 3) ls (.ref (lo + w.1) :: rest))) : W p l e R s m args below meth c H locs cells slots Q (F0 m pc ls (.int n :: rest)) := by
  refine va_newq hx hb hown hclink hover hK hH.1 im_D hH.2 (fun q hq => Nat.le_trans hlo hq) hn hN hbytes hcells hslots hdg (fun q cA H1 hK2 hP hD hS => im_sized (fun hsz => ?_))
  obtain rfl := im_fresh hP hD (by omega)
  obtain rfl := im_tA hK ht hty hK2
  have hP : va_P D cl (im_ws tA lo w ++ [(lo + w.1, im_cv tA lo (.inl (t, N', .inr (.inr (.inr (.inr (fun _ => none)))))))]) H1 := hP
  rw [im_ws_push] at hP
  exact kk H1 ⟨hP, hS⟩
end IMA
