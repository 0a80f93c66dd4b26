section
/-! the ideal world: cells 0, 1, .. lie at lo, lo + 1, ..; references in it are numbers of cells -/
abbrev im_E : Type := (Nat × vp_A) ⊕ (Nat × List Value)
abbrev im_W : Type := Nat × (Nat → im_E)
def im_ty : Nat → FieldType
  | 0 => .int
  | 1 => .long
  | 2 => .char
  | 3 => .boolean
  | 4 => .object "LanguageTags$Tag"
  | _ => .object "LanguageTags$Form"
def im_tys (tA : Nat → ClassId) : List (ClassId × FieldType) := (List.range 6).map (fun j => (tA j, im_ty j))
theorem im_tys_at {tA : Nat → ClassId} {j : Nat} (h : j < 6) : (im_tys tA)[j]? = some (tA j, im_ty j) := by simp [im_tys, h]
def im_sv (lo : Nat) (v : Value) : Value := match v with
  | .ref a => .ref (lo + a)
  | v => v
def im_sa (lo : Nat) (a : vp_A) : vp_A := (a.1, match a.2 with
  | .inr (.inr (.inr (.inr f))) => .inr (.inr (.inr (.inr (fun j => (f j).map (fun a => lo + a)))))
  | x => x)
def im_cv (tA : Nat → ClassId) (lo : Nat) (e : im_E) : va_E := match e with
  | .inl a => .inl (tA a.1, im_sa lo a.2)
  | .inr o => .inr (o.1, o.2.map (im_sv lo))
def im_ws (tA : Nat → ClassId) (lo : Nat) (w : im_W) : va_W := (List.range w.1).map (fun k => (lo + k, im_cv tA lo (w.2 k)))
def im_up (w : im_W) (k : Nat) (e : im_E) : im_W := (w.1, fun j => if j = k then e else w.2 j)
def im_push (w : im_W) (e : im_E) : im_W := (w.1 + 1, fun j => if j = w.1 then e else w.2 j)
theorem im_ws_at {tA : Nat → ClassId} {lo : Nat} {w : im_W} {k : Nat} (h : k < w.1) : (im_ws tA lo w)[k]? = some (lo + k, im_cv tA lo (w.2 k)) := by simp [im_ws, h]
theorem im_ws_inv {tA : Nat → ClassId} {lo : Nat} {w : im_W} {k : Nat} {q : Nat × va_E} (h : (im_ws tA lo w)[k]? = some q) : k < w.1 ∧ q = (lo + k, im_cv tA lo (w.2 k)) := by
  have hk : k < w.1 := by
    have h1 := (List.getElem?_eq_some_iff.mp h).1
    simpa [im_ws] using h1
  rw [im_ws_at hk] at h
  exact ⟨hk, (Option.some.inj h).symm⟩
theorem im_D {tA : Nat → ClassId} {lo : Nat} {w : im_W} : va_D (fun q => lo ≤ q) (im_ws tA lo w) := by
  refine ⟨fun i j p q hi hj he => ?_, fun k q hk => ?_⟩
  · obtain ⟨-, rfl⟩ := im_ws_inv hi
    obtain ⟨-, rfl⟩ := im_ws_inv hj
    have he : lo + i = lo + j := he
    omega
  · obtain ⟨-, rfl⟩ := im_ws_inv hk
    exact Nat.le_add_right lo k
theorem im_ws_up {tA : Nat → ClassId} {lo : Nat} {w : im_W} {k : Nat} (e : im_E) : (im_ws tA lo w).set k (lo + k, im_cv tA lo e) = im_ws tA lo (im_up w k e) := by
  refine List.ext_getElem? fun i => ?_
  by_cases hi : i < w.1
  · have h2 : (im_ws tA lo (im_up w k e))[i]? = some (lo + i, im_cv tA lo ((im_up w k e).2 i)) := im_ws_at (w := im_up w k e) hi
    rw [h2]
    by_cases hik : i = k
    · subst hik
      rw [List.getElem?_set_self (by simpa [im_ws] using hi)]
      simp [im_up]
    · rw [List.getElem?_set_ne (fun q => hik q.symm), im_ws_at hi]
      simp [im_up, hik]
  · have h1 : ((im_ws tA lo w).set k (lo + k, im_cv tA lo e))[i]? = none := by simp [im_ws]; omega
    have h2 : (im_ws tA lo (im_up w k e))[i]? = none := by simp [im_ws, im_up]; omega
    rw [h1, h2]
theorem im_ws_push {tA : Nat → ClassId} {lo : Nat} {w : im_W} (e : im_E) : im_ws tA lo w ++ [(lo + w.1, im_cv tA lo e)] = im_ws tA lo (im_push w e) := by
  have h1 : (im_push w e).1 = w.1 + 1 := rfl
  unfold im_ws
  rw [h1, List.range_succ, List.map_append]
  congr 1
  · refine List.map_congr_left fun k hk => ?_
    have hk : k < w.1 := List.mem_range.mp hk
    have hne : ¬ k = w.1 := by omega
    simp [im_push, hne]
  · simp [im_push]
def im_H (D : va_G) (cl : List vw_C) (tA : Nat → ClassId) (lo : Nat) (w : im_W) (s : State) (H : Heap) (locs : List Loc) : Prop := va_P D cl (im_ws tA lo w) H ∧ va_S (fun q => lo ≤ q) s.heap H locs
/-! reading and writing it -/
def im_ob (w : im_W) (ci h : Nat) : Option (List Value) := if h < w.1 then (match w.2 h with
  | .inr o => if o.1 = ci then some o.2 else none
  | .inl _ => none) else none
theorem im_ob_s {w : im_W} {ci h : Nat} {fs : List Value} (e : im_ob w ci h = some fs) : h < w.1 ∧ w.2 h = .inr (ci, fs) := by
  unfold im_ob at e
  split at e
  · rename_i h1
    refine ⟨h1, ?_⟩
    split at e
    · rename_i o ho
      split at e
      · rename_i h2
        obtain ⟨o1, o2⟩ := o
        cases e
        cases h2
        exact ho
      · cases e
    · cases e
  · cases e
def im_fd (w : im_W) (ci h k : Nat) : Option Value := match im_ob w ci h with
  | some fs => fs[k]?
  | none => none
theorem im_fd_s {w : im_W} {ci h k : Nat} {v : Value} (e : im_fd w ci h k = some v) : ∃ fs, im_ob w ci h = some fs ∧ fs[k]? = some v := by
  unfold im_fd at e
  split at e
  · rename_i fs h1
    exact ⟨fs, h1, e⟩
  · cases e
def im_gI (w : im_W) (ci h k : Nat) : Option Int32 := match im_fd w ci h k with
  | some (.int x) => some x
  | _ => none
def im_gL (w : im_W) (ci h k : Nat) : Option Int64 := match im_fd w ci h k with
  | some (.long x) => some x
  | _ => none
def im_gR (w : im_W) (ci h k : Nat) : Option Nat := match im_fd w ci h k with
  | some (.ref x) => some x
  | _ => none
theorem im_gI_s {w : im_W} {ci h k : Nat} {x : Int32} (e : im_gI w ci h k = some x) : im_fd w ci h k = some (.int x) := by
  unfold im_gI at e
  split at e
  · rename_i y hy
    cases e
    exact hy
  · cases e
theorem im_gL_s {w : im_W} {ci h k : Nat} {x : Int64} (e : im_gL w ci h k = some x) : im_fd w ci h k = some (.long x) := by
  unfold im_gL at e
  split at e
  · rename_i y hy
    cases e
    exact hy
  · cases e
theorem im_gR_s {w : im_W} {ci h k : Nat} {x : Nat} (e : im_gR w ci h k = some x) : im_fd w ci h k = some (.ref x) := by
  unfold im_gR at e
  split at e
  · rename_i y hy
    cases e
    exact hy
  · cases e
def im_pV (w : im_W) (ci h k : Nat) (v : Value) : Option im_W := match im_ob w ci h with
  | some fs => if k < fs.length then some (im_up w h (.inr (ci, fs.set k v))) else none
  | none => none
theorem im_pV_s {w w' : im_W} {ci h k : Nat} {v : Value} (e : im_pV w ci h k v = some w') : ∃ fs, im_ob w ci h = some fs ∧ k < fs.length ∧ w' = im_up w h (.inr (ci, fs.set k v)) := by
  unfold im_pV at e
  split at e
  · rename_i fs h1
    split at e
    · rename_i h2
      cases e
      exact ⟨fs, h1, h2, rfl⟩
    · cases e
  · cases e
def im_ar (w : im_W) (t h : Nat) : Option vp_A := if h < w.1 then (match w.2 h with
  | .inl a => if a.1 = t then some a.2 else none
  | .inr _ => none) else none
theorem im_ar_s {w : im_W} {t h : Nat} {a : vp_A} (e : im_ar w t h = some a) : h < w.1 ∧ w.2 h = .inl (t, a) := by
  unfold im_ar at e
  split at e
  · rename_i h1
    refine ⟨h1, ?_⟩
    split at e
    · rename_i o ho
      split at e
      · rename_i h2
        obtain ⟨o1, o2⟩ := o
        cases e
        cases h2
        exact ho
      · cases e
    · cases e
  · cases e
def im_lI (w : im_W) (t h : Nat) (i : Int32) : Option Int32 := match im_ar w t h with
  | some (n, .inl f) => if i < 0 ∨ n ≤ i.toNatClampNeg then none else some (f i.toNatClampNeg)
  | _ => none
def im_lL (w : im_W) (t h : Nat) (i : Int32) : Option Int64 := match im_ar w t h with
  | some (n, .inr (.inl f)) => if i < 0 ∨ n ≤ i.toNatClampNeg then none else some (f i.toNatClampNeg)
  | _ => none
def im_lQ (w : im_W) (t h : Nat) (i : Int32) : Option (Option Nat) := match im_ar w t h with
  | some (n, .inr (.inr (.inr (.inr f)))) => if i < 0 ∨ n ≤ i.toNatClampNeg then none else some (f i.toNatClampNeg)
  | _ => none
def im_lR (w : im_W) (t h : Nat) (i : Int32) : Option Nat := match im_lQ w t h i with
  | some (some a) => some a
  | _ => none
theorem im_lI_s {w : im_W} {t h : Nat} {i x : Int32} (e : im_lI w t h i = some x) : ∃ (n : Nat) (f : Nat → Int32), im_ar w t h = some (n, .inl f) ∧ vp_in i n ∧ x = f i.toNatClampNeg := by
  unfold im_lI at e
  split at e
  · rename_i n f h1
    split at e
    · cases e
    · rename_i h2
      cases e
      exact ⟨n, f, h1, h2, rfl⟩
  · cases e
theorem im_lL_s {w : im_W} {t h : Nat} {i : Int32} {x : Int64} (e : im_lL w t h i = some x) : ∃ (n : Nat) (f : Nat → Int64), im_ar w t h = some (n, .inr (.inl f)) ∧ vp_in i n ∧ x = f i.toNatClampNeg := by
  unfold im_lL at e
  split at e
  · rename_i n f h1
    split at e
    · cases e
    · rename_i h2
      cases e
      exact ⟨n, f, h1, h2, rfl⟩
  · cases e
theorem im_lQ_s {w : im_W} {t h : Nat} {i : Int32} {x : Option Nat} (e : im_lQ w t h i = some x) : ∃ (n : Nat) (f : Nat → Option Nat), im_ar w t h = some (n, .inr (.inr (.inr (.inr f)))) ∧ vp_in i n ∧ x = f i.toNatClampNeg := by
  unfold im_lQ at e
  split at e
  · rename_i n f h1
    split at e
    · cases e
    · rename_i h2
      cases e
      exact ⟨n, f, h1, h2, rfl⟩
  · cases e
theorem im_lR_s {w : im_W} {t h : Nat} {i : Int32} {x : Nat} (e : im_lR w t h i = some x) : im_lQ w t h i = some (some x) := by
  unfold im_lR at e
  split at e
  · rename_i a h1
    cases e
    exact h1
  · cases e
def im_sI (w : im_W) (t h : Nat) (i x : Int32) : Option im_W := match im_ar w t h with
  | some (n, .inl f) => if i < 0 ∨ n ≤ i.toNatClampNeg then none else some (im_up w h (.inl (t, n, .inl (upd f i.toNatClampNeg x))))
  | _ => none
def im_sL (w : im_W) (t h : Nat) (i : Int32) (x : Int64) : Option im_W := match im_ar w t h with
  | some (n, .inr (.inl f)) => if i < 0 ∨ n ≤ i.toNatClampNeg then none else some (im_up w h (.inl (t, n, .inr (.inl (vp_updL f i.toNatClampNeg x)))))
  | _ => none
theorem im_sI_s {w w' : im_W} {t h : Nat} {i x : Int32} (e : im_sI w t h i x = some w') : ∃ (n : Nat) (f : Nat → Int32), im_ar w t h = some (n, .inl f) ∧ vp_in i n ∧ w' = im_up w h (.inl (t, n, .inl (upd f i.toNatClampNeg x))) := by
  unfold im_sI at e
  split at e
  · rename_i n f h1
    split at e
    · cases e
    · rename_i h2
      cases e
      exact ⟨n, f, h1, h2, rfl⟩
  · cases e
theorem im_sL_s {w w' : im_W} {t h : Nat} {i : Int32} {x : Int64} (e : im_sL w t h i x = some w') : ∃ (n : Nat) (f : Nat → Int64), im_ar w t h = some (n, .inr (.inl f)) ∧ vp_in i n ∧ w' = im_up w h (.inl (t, n, .inr (.inl (vp_updL f i.toNatClampNeg x)))) := by
  unfold im_sL at e
  split at e
  · rename_i n f h1
    split at e
    · cases e
    · rename_i h2
      cases e
      exact ⟨n, f, h1, h2, rfl⟩
  · cases e
def im_len (w : im_W) (t h : Nat) : Option Int32 := match im_ar w t h with
  | some a => some (Int32.ofNat a.1)
  | none => none
theorem im_len_s {w : im_W} {t h : Nat} {x : Int32} (e : im_len w t h = some x) : ∃ a : vp_A, im_ar w t h = some a ∧ Int32.ofNat a.1 = x := by
  unfold im_len at e
  split at e
  · rename_i a h1
    cases e
    exact ⟨a, h1, rfl⟩
  · cases e
/-- a receiver of a class -/
def im_is (w : im_W) (ci h : Nat) : Option Unit := match im_ob w ci h with
  | some _ => some ()
  | none => none
theorem im_is_s {w : im_W} {ci h : Nat} {u : Unit} (e : im_is w ci h = some u) : ∃ fs, im_ob w ci h = some fs := by
  unfold im_is at e
  split at e
  · rename_i fs h1
    exact ⟨fs, h1⟩
  · cases e
/-- an answer that must be a boolean, a char -/
def im_rz (x : Int32) (w : im_W) : Option (Int32 × im_W) := if x = 0 ∨ x = 1 then some (x, w) else none
def im_rc (x : Int32) (w : im_W) : Option (Int32 × im_W) := if narrow .char (.int x) = .int x then some (x, w) else none
theorem im_rz_s {x : Int32} {w : im_W} {r : Int32 × im_W} (e : im_rz x w = some r) : (x, w) = r ∧ narrow .boolean (.int x) = .int x := by
  unfold im_rz at e
  split at e
  · rename_i h
    cases e
    refine ⟨rfl, ?_⟩
    rcases h with rfl | rfl <;> rfl
  · cases e
theorem im_rc_s {x : Int32} {w : im_W} {r : Int32 × im_W} (e : im_rc x w = some r) : (x, w) = r ∧ narrow .char (.int x) = .int x := by
  unfold im_rc at e
  split at e
  · rename_i h
    cases e
    exact ⟨rfl, h⟩
  · cases e
/-- a number that is put into a boolean field -/
def im_z (x : Int32) : Option Unit := if x = 0 ∨ x = 1 then some () else none
theorem im_z_n {x : Int32} {u : Unit} (e : im_z x = some u) : narrow .boolean (.int x) = .int x := by
  unfold im_z at e
  split at e
  · rename_i h
    rcases h with rfl | rfl <;> rfl
  · cases e
theorem im_z_f {x : Int32} {u : Unit} (e : im_z x = some u) : fits .boolean (.int x) = true := by
  unfold im_z at e
  split at e
  · rename_i h
    rcases h with rfl | rfl <;> rfl
  · cases e
def im_dv (y : Int32) : Option Unit := if y = 0 then none else some ()
theorem im_dv_s {y : Int32} {u : Unit} (e : im_dv y = some u) : ¬ y = 0 := by
  unfold im_dv at e
  split at e
  · cases e
  · assumption
theorem im_bd {α β : Type} {o : Option α} {f : α → Option β} {r : β} (e : o.bind f = some r) : ∃ x, o = some x ∧ f x = some r := by
  cases o with
  | none => cases e
  | some x => exact ⟨x, rfl, e⟩
def im_b2 {α β γ : Type} (o : Option (α × β)) (f : α → β → Option γ) : Option γ := match o with
  | some (a, b) => f a b
  | none => none
theorem im_bd2 {α β γ : Type} {o : Option (α × β)} {f : α → β → Option γ} {r : γ} (e : im_b2 o f = some r) : ∃ a b, o = some (a, b) ∧ f a b = some r := by
  cases o with
  | none => cases e
  | some x => exact ⟨x.1, x.2, rfl, e⟩
theorem im_it {α : Type} {c : Prop} {i : Decidable c} {a b r : α} (h : (@ite α c i a b) = r) (hc : c) : a = r := by rw [if_pos hc] at h; exact h
theorem im_if {α : Type} {c : Prop} {i : Decidable c} {a b r : α} (h : (@ite α c i a b) = r) (hc : ¬ c) : b = r := by rw [if_neg hc] at h; exact h
def im_nul {β : Type} (q : Option Nat) (a : β) (f : Nat → β) : β := match q with
  | none => a
  | some x => f x
theorem im_nul_n {β : Type} {a r : β} {f : Nat → β} (h : im_nul none a f = r) : a = r := h
theorem im_nul_s {β : Type} {x : Nat} {a r : β} {f : Nat → β} (h : im_nul (some x) a f = r) : f x = r := h
def im_i2c (x : Int32) : Int32 := (x.toUInt32 % 65536).toInt32
def im_lshl (x : Int64) (y : Int32) : Int64 := x <<< (y.toInt64 &&& 63)
def im_lushr (x : Int64) (y : Int32) : Int64 := (x.toUInt64 >>> (y.toInt64.toUInt64 &&& Int64.toUInt64 63)).toInt64
def im_rm (f k : Nat) : Room := { frames := f, cells := 0, slots := 0, locals := k }
def im_scr (n : Nat) (xs : Nat → Int32) (i : Int32) : Option Int32 := if i < 0 ∨ n ≤ i.toNatClampNeg then none else some (xs i.toNatClampNeg)
theorem im_scr_s {n : Nat} {xs : Nat → Int32} {i x : Int32} (e : im_scr n xs i = some x) : vp_in i n ∧ x = xs i.toNatClampNeg := by
  unfold im_scr at e
  split at e
  · cases e
  · rename_i h
    cases e
    exact ⟨h, rfl⟩
end
section
/-! the machine's rows over the ideal world -/
def im_isN (x : Cond) : Prop := (∃ (a : String) (i : Nat) (b n d h : String), x = .fieldLinkNest a i b n d h) ∨ ∃ (a : String) (i : Nat) (y : MethodName) (h : String), x = .methodLinkNest a i y h
theorem im_isN.warm {x : Cond} {s U : State} (h : im_isN x) (hW : s.WarmedH U.vm) (hx : va_Nw x s) : va_Nw x U := by
  rcases h with ⟨a, i, b, n, d, h, rfl⟩ | ⟨a, i, y, h, rfl⟩
  · exact va_Nw.warmF hW hx
  · exact va_Nw.warmM hW hx
theorem im_isN.same {x : Cond} {s U : State} (h : im_isN x) (hv : s.vm = U.vm) (hx : va_Nw x s) : va_Nw x U := by
  rcases h with ⟨a, i, b, n, d, h, rfl⟩ | ⟨a, i, y, h, rfl⟩
  · exact va_Nw.same rfl hv hx
  · exact va_Nw.same rfl hv hx
def im_Pre (D : va_G) (cl : List vw_C) (tA : Nat → ClassId) (lo : Nat) (NW : List Cond) (As : List Value) (w : im_W) : Array Value → State → Prop := va_Pc As (fun U => va_P D cl (im_ws tA lo w) U.heap ∧ va_K D cl (im_tys tA) U ∧ ∀ x ∈ NW, va_Nw x U)
def im_Post (D : va_G) (cl : List vw_C) (tA : Nat → ClassId) (lo : Nat) (rv : Option Value) (w : im_W) : Array Value → State → Outcome → State → Prop := fun _ st oc t => oc = .returned rv ∧ va_P D cl (im_ws tA lo w) t.heap ∧ va_F (fun q => lo ≤ q) st t
def im_X (D : va_G) (cl : List vw_C) (tA : Nat → ClassId) (lo : Nat) (NW : List Cond) (cc : ByteArray) (nL : Nat) (ret : Option FieldType) (own : String) (Ts : List Cond) (p : Program) (s : State) (m : MethodId) (args : Array Value) (meth : Method) (c : Code) : Prop :=
  p.tables.exec = Jvm.exec ∧ c.code = cc ∧ meth.sig.returnType = ret ∧ (∀ w ∈ Ts, w.before args s = true) ∧ s.vm.findClass own = some m.cls ∧ meth.locks = false ∧ c.maxLocals = nL ∧ va_K D cl (im_tys tA) s ∧ ∀ x ∈ NW, va_Nw x s
theorem im_blind {D : va_G} {cl : List vw_C} {tA : Nat → ClassId} {lo : Nat} {NW : List Cond} (hNW : ∀ x ∈ NW, im_isN x) {As : List Value} {w : im_W} : FrameBlind (im_Pre D cl tA lo NW As w) := by
  intro a U g mk q
  obtain ⟨q0, qP, qK, qN⟩ := q
  exact ⟨q0, qP, va_K.moved (u := U) (U := U.calling g mk a) (Vm.Alike.refl U.vm) qK, fun x hx => (hNW x hx).same (s := U) (U := U.calling g mk a) rfl (qN x hx)⟩
/-- a reference that may be null, as the machine has it -/
def im_rf (lo : Nat) (r : Option Nat) : Value := match r with
  | some a => .ref (lo + a)
  | none => .null
section IMR
variable {p : Program} {l : Launch} {e : Env} {R : Room} {s : State} {m : MethodId} {args : Array Value} {below : List Frame} {meth : Method} {c : Code} {H : Heap} {locs : List Loc} {cells slots : Nat} {Q : State → Prop}
variable {cc : ByteArray} {pc : Nat} {ls : Array Slot} {rest : List Value} {D : va_G} {cl : List vw_C} {tA : Nat → ClassId} {lo : Nat} {w w' : im_W}
theorem im_at_ob {ci h : Nat} {fs : List Value} (e : im_ob w ci h = some fs) : (im_ws tA lo w)[h]? = some (lo + h, .inr (ci, fs.map (im_sv lo))) := by
  obtain ⟨h1, h2⟩ := im_ob_s e
  rw [im_ws_at h1, h2]
  rfl
theorem im_at_ar {t h : Nat} {a : vp_A} (e : im_ar w t h = some a) : (im_ws tA lo w)[h]? = some (lo + h, .inl (tA t, im_sa lo a)) := by
  obtain ⟨h1, h2⟩ := im_ar_s e
  rw [im_ws_at h1, h2]
  rfl
theorem im_get (hx : p.tables.exec = Jvm.exec) (hb : c.code = cc) {own ref C : String} {T : u_T} {N ci index : Nat} {Ts : List Cond} (hts : ∀ w ∈ Ts, w.before args s = true) (hin : ∀ w ∈ u_ws C T N, w ∈ Ts) (hown : s.vm.findClass own = some m.cls) (hK : va_K D cl (im_tys tA) s) (hH : im_H D cl tA lo w s H locs) (hc : cl[ci]? = some (C, T, N)) (k : Nat) (hk : k < N) (hlink : (Cond.fieldLink own index ref (T k).2.1 (T k).2.2.1).before args s = true) (hsame : (T k).1 = ref) {h : Nat} {v : Value} (hv : im_fd w ci h k = some v) (hdg : decode cc pc = .ok (.getfield index, 3))
    (kk : W p l e R s m args below meth c H locs cells slots Q (F0 m (pc + 3) ls (im_sv lo v :: rest))) : W p l e R s m args below meth c H locs cells slots Q (F0 m pc ls (.ref (lo + h) :: rest)) := by
  obtain ⟨fs, h1, h2⟩ := im_fd_s hv
  exact va_get hx hb hts hin hown hK hH.1 h (im_at_ob h1) hc k hk hlink (by subst hsame; exact fun _ h9 => h9) (v := im_sv lo v) (by rw [List.getElem?_map, h2]; rfl) hdg kk
theorem im_getN (hx : p.tables.exec = Jvm.exec) (hb : c.code = cc) {own ref C host : String} {T : u_T} {N ci index : Nat} {Ts : List Cond} (hts : ∀ w ∈ Ts, w.before args s = true) (hin : ∀ w ∈ u_ws C T N, w ∈ Ts) (hown : s.vm.findClass own = some m.cls) (hK : va_K D cl (im_tys tA) s) (hH : im_H D cl tA lo w s H locs) (hc : cl[ci]? = some (C, T, N)) (k : Nat) (hk : k < N) (hlink : va_Nw (Cond.fieldLinkNest own index ref (T k).2.1 (T k).2.2.1 host) s) (hsame : (T k).1 = ref) {h : Nat} {v : Value} (hv : im_fd w ci h k = some v) (hdg : decode cc pc = .ok (.getfield index, 3))
    (kk : W p l e R s m args below meth c H locs cells slots Q (F0 m (pc + 3) ls (im_sv lo v :: rest))) : W p l e R s m args below meth c H locs cells slots Q (F0 m pc ls (.ref (lo + h) :: rest)) := by
  obtain ⟨fs, h1, h2⟩ := im_fd_s hv
  exact va_getN hx hb hts hin hown hK hH.1 h (im_at_ob h1) hc k hk (va_Nw.use rfl hlink) (by subst hsame; exact fun _ h9 => h9) (v := im_sv lo v) (by rw [List.getElem?_map, h2]; rfl) hdg kk
theorem im_getI (hx : p.tables.exec = Jvm.exec) (hb : c.code = cc) {own ref C : String} {T : u_T} {N ci index : Nat} {Ts : List Cond} (hts : ∀ w ∈ Ts, w.before args s = true) (hin : ∀ w ∈ u_ws C T N, w ∈ Ts) (hown : s.vm.findClass own = some m.cls) (hK : va_K D cl (im_tys tA) s) (hH : im_H D cl tA lo w s H locs) (hc : cl[ci]? = some (C, T, N)) (k : Nat) (hk : k < N) (hlink : (Cond.fieldLink own index ref (T k).2.1 (T k).2.2.1).before args s = true) (hsame : (T k).1 = ref) {h : Nat} {x : Int32} (hv : im_gI w ci h k = some x) (hdg : decode cc pc = .ok (.getfield index, 3))
    (kk : W p l e R s m args below meth c H locs cells slots Q (F0 m (pc + 3) ls (.int x :: rest))) : W p l e R s m args below meth c H locs cells slots Q (F0 m pc ls (.ref (lo + h) :: rest)) :=
  im_get (v := .int x) hx hb hts hin hown hK hH hc k hk hlink hsame (im_gI_s hv) hdg kk
theorem im_getL (hx : p.tables.exec = Jvm.exec) (hb : c.code = cc) {own ref C : String} {T : u_T} {N ci index : Nat} {Ts : List Cond} (hts : ∀ w ∈ Ts, w.before args s = true) (hin : ∀ w ∈ u_ws C T N, w ∈ Ts) (hown : s.vm.findClass own = some m.cls) (hK : va_K D cl (im_tys tA) s) (hH : im_H D cl tA lo w s H locs) (hc : cl[ci]? = some (C, T, N)) (k : Nat) (hk : k < N) (hlink : (Cond.fieldLink own index ref (T k).2.1 (T k).2.2.1).before args s = true) (hsame : (T k).1 = ref) {h : Nat} {x : Int64} (hv : im_gL w ci h k = some x) (hdg : decode cc pc = .ok (.getfield index, 3))
    (kk : W p l e R s m args below meth c H locs cells slots Q (F0 m (pc + 3) ls (.long x :: rest))) : W p l e R s m args below meth c H locs cells slots Q (F0 m pc ls (.ref (lo + h) :: rest)) :=
  im_get (v := .long x) hx hb hts hin hown hK hH hc k hk hlink hsame (im_gL_s hv) hdg kk
theorem im_getR (hx : p.tables.exec = Jvm.exec) (hb : c.code = cc) {own ref C : String} {T : u_T} {N ci index : Nat} {Ts : List Cond} (hts : ∀ w ∈ Ts, w.before args s = true) (hin : ∀ w ∈ u_ws C T N, w ∈ Ts) (hown : s.vm.findClass own = some m.cls) (hK : va_K D cl (im_tys tA) s) (hH : im_H D cl tA lo w s H locs) (hc : cl[ci]? = some (C, T, N)) (k : Nat) (hk : k < N) (hlink : (Cond.fieldLink own index ref (T k).2.1 (T k).2.2.1).before args s = true) (hsame : (T k).1 = ref) {h : Nat} {x : Nat} (hv : im_gR w ci h k = some x) (hdg : decode cc pc = .ok (.getfield index, 3))
    (kk : W p l e R s m args below meth c H locs cells slots Q (F0 m (pc + 3) ls (.ref (lo + x) :: rest))) : W p l e R s m args below meth c H locs cells slots Q (F0 m pc ls (.ref (lo + h) :: rest)) :=
  im_get (v := .ref x) hx hb hts hin hown hK hH hc k hk hlink hsame (im_gR_s hv) hdg kk
theorem im_getNI (hx : p.tables.exec = Jvm.exec) (hb : c.code = cc) {own ref C host : String} {T : u_T} {N ci index : Nat} {Ts : List Cond} (hts : ∀ w ∈ Ts, w.before args s = true) (hin : ∀ w ∈ u_ws C T N, w ∈ Ts) (hown : s.vm.findClass own = some m.cls) (hK : va_K D cl (im_tys tA) s) (hH : im_H D cl tA lo w s H locs) (hc : cl[ci]? = some (C, T, N)) (k : Nat) (hk : k < N) (hlink : va_Nw (Cond.fieldLinkNest own index ref (T k).2.1 (T k).2.2.1 host) s) (hsame : (T k).1 = ref) {h : Nat} {x : Int32} (hv : im_gI w ci h k = some x) (hdg : decode cc pc = .ok (.getfield index, 3))
    (kk : W p l e R s m args below meth c H locs cells slots Q (F0 m (pc + 3) ls (.int x :: rest))) : W p l e R s m args below meth c H locs cells slots Q (F0 m pc ls (.ref (lo + h) :: rest)) :=
  im_getN (v := .int x) hx hb hts hin hown hK hH hc k hk hlink hsame (im_gI_s hv) hdg kk
theorem im_getNL (hx : p.tables.exec = Jvm.exec) (hb : c.code = cc) {own ref C host : String} {T : u_T} {N ci index : Nat} {Ts : List Cond} (hts : ∀ w ∈ Ts, w.before args s = true) (hin : ∀ w ∈ u_ws C T N, w ∈ Ts) (hown : s.vm.findClass own = some m.cls) (hK : va_K D cl (im_tys tA) s) (hH : im_H D cl tA lo w s H locs) (hc : cl[ci]? = some (C, T, N)) (k : Nat) (hk : k < N) (hlink : va_Nw (Cond.fieldLinkNest own index ref (T k).2.1 (T k).2.2.1 host) s) (hsame : (T k).1 = ref) {h : Nat} {x : Int64} (hv : im_gL w ci h k = some x) (hdg : decode cc pc = .ok (.getfield index, 3))
    (kk : W p l e R s m args below meth c H locs cells slots Q (F0 m (pc + 3) ls (.long x :: rest))) : W p l e R s m args below meth c H locs cells slots Q (F0 m pc ls (.ref (lo + h) :: rest)) :=
  im_getN (v := .long x) hx hb hts hin hown hK hH hc k hk hlink hsame (im_gL_s hv) hdg kk
theorem im_getNR (hx : p.tables.exec = Jvm.exec) (hb : c.code = cc) {own ref C host : String} {T : u_T} {N ci index : Nat} {Ts : List Cond} (hts : ∀ w ∈ Ts, w.before args s = true) (hin : ∀ w ∈ u_ws C T N, w ∈ Ts) (hown : s.vm.findClass own = some m.cls) (hK : va_K D cl (im_tys tA) s) (hH : im_H D cl tA lo w s H locs) (hc : cl[ci]? = some (C, T, N)) (k : Nat) (hk : k < N) (hlink : va_Nw (Cond.fieldLinkNest own index ref (T k).2.1 (T k).2.2.1 host) s) (hsame : (T k).1 = ref) {h : Nat} {x : Nat} (hv : im_gR w ci h k = some x) (hdg : decode cc pc = .ok (.getfield index, 3))
    (kk : W p l e R s m args below meth c H locs cells slots Q (F0 m (pc + 3) ls (.ref (lo + x) :: rest))) : W p l e R s m args below meth c H locs cells slots Q (F0 m pc ls (.ref (lo + h) :: rest)) :=
  im_getN (v := .ref x) hx hb hts hin hown hK hH hc k hk hlink hsame (im_gR_s hv) hdg kk
theorem im_H.set {h : Nat} {e : im_E} {H1 : Heap} {locs1 : List Loc} (hP : va_P D cl ((im_ws tA lo w).set h (lo + h, im_cv tA lo e)) H1) (hS : va_S (fun q => lo ≤ q) s.heap H1 locs1) : im_H D cl tA lo (im_up w h e) s H1 locs1 := by
  rw [im_ws_up] at hP
  exact ⟨hP, hS⟩
theorem im_cv_set {ci k : Nat} {fs : List Value} {v : Value} : im_cv tA lo (.inr (ci, fs.set k v)) = .inr (ci, (fs.map (im_sv lo)).set k (im_sv lo v)) := by
  show (Sum.inr (ci, (fs.set k v).map (im_sv lo)) : va_E) = _
  rw [List.map_set]
theorem im_put (hx : p.tables.exec = Jvm.exec) (hb : c.code = cc) {own ref C : String} {T : u_T} {N ci index : Nat} {Ts : List Cond} (hts : ∀ w ∈ Ts, w.before args s = true) (hin : ∀ w ∈ u_ws C T N, w ∈ Ts) (ty0 : Nat → FieldType) (hty : ∀ k, k < N → parseFieldDescriptor (T k).2.2.1 = some (ty0 k)) (hnm : ∀ a, a < N → ∀ b, b < N → a ≠ b → (T a).2.1 ≠ (T b).2.1) (hown : s.vm.findClass own = some m.cls) (hK : va_K D cl (im_tys tA) s) (hH : im_H D cl tA lo w s H locs) (hc : cl[ci]? = some (C, T, N)) (k : Nat) (hk : k < N) (hlink : (Cond.fieldLink own index ref (T k).2.1 (T k).2.2.1).before args s = true) (hsame : (T k).1 = ref) (hfin : (T k).2.2.2 = false) {h : Nat} {v : Value} (hn : narrow (ty0 k) (im_sv lo v) = im_sv lo v) (hfit : fits (ty0 k) (im_sv lo v) = true) (hv : im_pV w ci h k v = some w') (hdg : decode cc pc = .ok (.putfield index, 3))
    (kk : ∀ (H : Heap) (locs : List Loc), im_H D cl tA lo w' s H locs → W p l e R s m args below meth c H locs cells slots Q (F0 m (pc + 3) ls rest)) : W p l e R s m args below meth c H locs cells slots Q (F0 m pc ls (im_sv lo v :: .ref (lo + h) :: rest)) := by
  obtain ⟨fs, h1, h2, rfl⟩ := im_pV_s hv
  refine va_put hx hb hts hin ty0 hty hnm hown hK hH.1 im_D hH.2 h (im_at_ob h1) hc k hk hlink (by subst hsame; exact fun _ h9 => h9) hfin (hty k hk) hn hfit (by rw [List.length_map]; exact h2) hdg (fun H1 locs1 hP _ hS => ?_)
  exact kk H1 locs1 (im_H.set (by rw [im_cv_set]; exact hP) hS)
theorem im_putN (hx : p.tables.exec = Jvm.exec) (hb : c.code = cc) {own ref C host : String} {T : u_T} {N ci index : Nat} {Ts : List Cond} (hts : ∀ w ∈ Ts, w.before args s = true) (hin : ∀ w ∈ u_ws C T N, w ∈ Ts) (ty0 : Nat → FieldType) (hty : ∀ k, k < N → parseFieldDescriptor (T k).2.2.1 = some (ty0 k)) (hnm : ∀ a, a < N → ∀ b, b < N → a ≠ b → (T a).2.1 ≠ (T b).2.1) (hown : s.vm.findClass own = some m.cls) (hK : va_K D cl (im_tys tA) s) (hH : im_H D cl tA lo w s H locs) (hc : cl[ci]? = some (C, T, N)) (k : Nat) (hk : k < N) (hlink : va_Nw (Cond.fieldLinkNest own index ref (T k).2.1 (T k).2.2.1 host) s) (hsame : (T k).1 = ref) (hfin : (T k).2.2.2 = false) {h : Nat} {v : Value} (hn : narrow (ty0 k) (im_sv lo v) = im_sv lo v) (hfit : fits (ty0 k) (im_sv lo v) = true) (hv : im_pV w ci h k v = some w') (hdg : decode cc pc = .ok (.putfield index, 3))
    (kk : ∀ (H : Heap) (locs : List Loc), im_H D cl tA lo w' s H locs → W p l e R s m args below meth c H locs cells slots Q (F0 m (pc + 3) ls rest)) : W p l e R s m args below meth c H locs cells slots Q (F0 m pc ls (im_sv lo v :: .ref (lo + h) :: rest)) := by
  obtain ⟨fs, h1, h2, rfl⟩ := im_pV_s hv
  refine va_putN hx hb hts hin ty0 hty hnm hown hK hH.1 im_D hH.2 h (im_at_ob h1) hc k hk (va_Nw.use rfl hlink) (by subst hsame; exact fun _ h9 => h9) hfin (hty k hk) hn hfit (by rw [List.length_map]; exact h2) hdg (fun H1 locs1 hP _ hS => ?_)
  exact kk H1 locs1 (im_H.set (by rw [im_cv_set]; exact hP) hS)
theorem im_iald (hx : p.tables.exec = Jvm.exec) (hb : c.code = cc) (hK : va_K D cl (im_tys tA) s) (hH : im_H D cl tA lo w s H locs) {h : Nat} {i x : Int32} (hv : im_lI w 0 h i = some x) (hdg : decode cc pc = .ok (.iaload, 1))
    (kk : W p l e R s m args below meth c H locs cells slots Q (F0 m (pc + 1) ls (.int x :: rest))) : W p l e R s m args below meth c H locs cells slots Q (F0 m pc ls (.int i :: .ref (lo + h) :: rest)) := by
  obtain ⟨n, f, h1, h2, rfl⟩ := im_lI_s hv
  exact va_iald hx hb hK hH.1 h 0 (im_at_ar h1) (im_tys_at (by decide)) h2 hdg kk
theorem im_cald (hx : p.tables.exec = Jvm.exec) (hb : c.code = cc) (hK : va_K D cl (im_tys tA) s) (hH : im_H D cl tA lo w s H locs) {h : Nat} {i x : Int32} (hv : im_lI w 2 h i = some x) (hdg : decode cc pc = .ok (.caload, 1))
    (kk : W p l e R s m args below meth c H locs cells slots Q (F0 m (pc + 1) ls (.int x :: rest))) : W p l e R s m args below meth c H locs cells slots Q (F0 m pc ls (.int i :: .ref (lo + h) :: rest)) := by
  obtain ⟨n, f, h1, h2, rfl⟩ := im_lI_s hv
  exact va_cald hx hb hK hH.1 h 2 (im_at_ar h1) (im_tys_at (by decide)) h2 hdg kk
theorem im_zald (hx : p.tables.exec = Jvm.exec) (hb : c.code = cc) (hK : va_K D cl (im_tys tA) s) (hH : im_H D cl tA lo w s H locs) {h : Nat} {i x : Int32} (hv : im_lI w 3 h i = some x) (hdg : decode cc pc = .ok (.baload, 1))
    (kk : W p l e R s m args below meth c H locs cells slots Q (F0 m (pc + 1) ls (.int x :: rest))) : W p l e R s m args below meth c H locs cells slots Q (F0 m pc ls (.int i :: .ref (lo + h) :: rest)) := by
  obtain ⟨n, f, h1, h2, rfl⟩ := im_lI_s hv
  exact va_zald hx hb hK hH.1 h 3 (im_at_ar h1) (im_tys_at (by decide)) h2 hdg kk
theorem im_lald (hx : p.tables.exec = Jvm.exec) (hb : c.code = cc) (hK : va_K D cl (im_tys tA) s) (hH : im_H D cl tA lo w s H locs) {h : Nat} {i : Int32} {x : Int64} (hv : im_lL w 1 h i = some x) (hdg : decode cc pc = .ok (.laload, 1))
    (kk : W p l e R s m args below meth c H locs cells slots Q (F0 m (pc + 1) ls (.long x :: rest))) : W p l e R s m args below meth c H locs cells slots Q (F0 m pc ls (.int i :: .ref (lo + h) :: rest)) := by
  obtain ⟨n, f, h1, h2, rfl⟩ := im_lL_s hv
  exact va_lald hx hb hK hH.1 h 1 (im_at_ar h1) (im_tys_at (by decide)) h2 hdg kk
theorem im_aald4 (hx : p.tables.exec = Jvm.exec) (hb : c.code = cc) (hK : va_K D cl (im_tys tA) s) (hH : im_H D cl tA lo w s H locs) {h : Nat} {i : Int32} {x : Nat} (hv : im_lR w 4 h i = some x) (hdg : decode cc pc = .ok (.aaload, 1))
    (kk : W p l e R s m args below meth c H locs cells slots Q (F0 m (pc + 1) ls (.ref (lo + x) :: rest))) : W p l e R s m args below meth c H locs cells slots Q (F0 m pc ls (.int i :: .ref (lo + h) :: rest)) := by
  obtain ⟨n, f, h1, h2, h3⟩ := im_lQ_s (im_lR_s hv)
  refine va_aldq hx hb hK hH.1 h 4 (im_at_ar h1) (C := "LanguageTags$Tag") (im_tys_at (by decide)) h2 hdg ?_
  rw [← h3]
  exact kk
theorem im_aald5 (hx : p.tables.exec = Jvm.exec) (hb : c.code = cc) (hK : va_K D cl (im_tys tA) s) (hH : im_H D cl tA lo w s H locs) {h : Nat} {i : Int32} {x : Nat} (hv : im_lR w 5 h i = some x) (hdg : decode cc pc = .ok (.aaload, 1))
    (kk : W p l e R s m args below meth c H locs cells slots Q (F0 m (pc + 1) ls (.ref (lo + x) :: rest))) : W p l e R s m args below meth c H locs cells slots Q (F0 m pc ls (.int i :: .ref (lo + h) :: rest)) := by
  obtain ⟨n, f, h1, h2, h3⟩ := im_lQ_s (im_lR_s hv)
  refine va_aldq hx hb hK hH.1 h 5 (im_at_ar h1) (C := "LanguageTags$Form") (im_tys_at (by decide)) h2 hdg ?_
  rw [← h3]
  exact kk
theorem im_iast (hx : p.tables.exec = Jvm.exec) (hb : c.code = cc) (hK : va_K D cl (im_tys tA) s) (hH : im_H D cl tA lo w s H locs) {h : Nat} {i x : Int32} (hv : im_sI w 0 h i x = some w') (hdg : decode cc pc = .ok (.iastore, 1))
    (kk : ∀ (H : Heap) (locs : List Loc), im_H D cl tA lo w' s H locs → W p l e R s m args below meth c H locs cells slots Q (F0 m (pc + 1) ls rest)) : W p l e R s m args below meth c H locs cells slots Q (F0 m pc ls (.int x :: .int i :: .ref (lo + h) :: rest)) := by
  obtain ⟨n, f, h1, h2, rfl⟩ := im_sI_s hv
  exact va_iast hx hb hK hH.1 im_D hH.2 h 0 (im_at_ar h1) (im_tys_at (by decide)) h2 hdg (fun H1 locs1 hP _ hS => kk H1 locs1 (im_H.set hP hS))
theorem im_cast (hx : p.tables.exec = Jvm.exec) (hb : c.code = cc) (hK : va_K D cl (im_tys tA) s) (hH : im_H D cl tA lo w s H locs) {h : Nat} {i x : Int32} (hv : im_sI w 2 h i (vp_nar .char x) = some w') (hdg : decode cc pc = .ok (.castore, 1))
    (kk : ∀ (H : Heap) (locs : List Loc), im_H D cl tA lo w' s H locs → W p l e R s m args below meth c H locs cells slots Q (F0 m (pc + 1) ls rest)) : W p l e R s m args below meth c H locs cells slots Q (F0 m pc ls (.int x :: .int i :: .ref (lo + h) :: rest)) := by
  obtain ⟨n, f, h1, h2, rfl⟩ := im_sI_s hv
  exact va_cast hx hb hK hH.1 im_D hH.2 h 2 (im_at_ar h1) (im_tys_at (by decide)) h2 hdg (fun H1 locs1 hP _ hS => kk H1 locs1 (im_H.set hP hS))
theorem im_zast (hx : p.tables.exec = Jvm.exec) (hb : c.code = cc) (hK : va_K D cl (im_tys tA) s) (hH : im_H D cl tA lo w s H locs) {h : Nat} {i x : Int32} (hv : im_sI w 3 h i (vp_nar .boolean x) = some w') (hdg : decode cc pc = .ok (.bastore, 1))
    (kk : ∀ (H : Heap) (locs : List Loc), im_H D cl tA lo w' s H locs → W p l e R s m args below meth c H locs cells slots Q (F0 m (pc + 1) ls rest)) : W p l e R s m args below meth c H locs cells slots Q (F0 m pc ls (.int x :: .int i :: .ref (lo + h) :: rest)) := by
  obtain ⟨n, f, h1, h2, rfl⟩ := im_sI_s hv
  exact va_zast hx hb hK hH.1 im_D hH.2 h 3 (im_at_ar h1) (im_tys_at (by decide)) h2 hdg (fun H1 locs1 hP _ hS => kk H1 locs1 (im_H.set hP hS))
theorem im_last (hx : p.tables.exec = Jvm.exec) (hb : c.code = cc) (hK : va_K D cl (im_tys tA) s) (hH : im_H D cl tA lo w s H locs) {h : Nat} {i : Int32} {x : Int64} (hv : im_sL w 1 h i x = some w') (hdg : decode cc pc = .ok (.lastore, 1))
    (kk : ∀ (H : Heap) (locs : List Loc), im_H D cl tA lo w' s H locs → W p l e R s m args below meth c H locs cells slots Q (F0 m (pc + 1) ls rest)) : W p l e R s m args below meth c H locs cells slots Q (F0 m pc ls (.long x :: .int i :: .ref (lo + h) :: rest)) := by
  obtain ⟨n, f, h1, h2, rfl⟩ := im_sL_s hv
  exact va_last hx hb hK hH.1 im_D hH.2 h 1 (im_at_ar h1) (im_tys_at (by decide)) h2 hdg (fun H1 locs1 hP _ hS => kk H1 locs1 (im_H.set hP hS))
theorem im_alen (hx : p.tables.exec = Jvm.exec) (hb : c.code = cc) (hK : va_K D cl (im_tys tA) s) (hH : im_H D cl tA lo w s H locs) {t h : Nat} (ht : t < 6) {x : Int32} (hv : im_len w t h = some x) (hdg : decode cc pc = .ok (.arraylength, 1))
    (kk : W p l e R s m args below meth c H locs cells slots Q (F0 m (pc + 1) ls (.int x :: rest))) : W p l e R s m args below meth c H locs cells slots Q (F0 m pc ls (.ref (lo + h) :: rest)) := by
  obtain ⟨a, h1, h2⟩ := im_len_s hv
  exact va_alen hx hb hK hH.1 h t (im_at_ar h1) (im_tys_at ht) (v := x) h2 hdg kk
/-! calls -/
theorem im_after {rv : Option Value} {st0 : List Value} {a : Array Value} (hr : va_Run p l e R s m args below meth c H locs cells slots 0 0 (F0 m pc ls st0) rest (im_Post D cl tA lo rv w' a) (fun q => lo ≤ q)) (hH : im_H D cl tA lo w s H locs)
    (kk : ∀ (H : Heap) (locs : List Loc), im_H D cl tA lo w' s H locs → W p l e R s m args below meth c H locs cells slots Q (F0 m (pc + 3) ls (rv.toList ++ rest))) : W p l e R s m args below meth c H locs cells slots Q (F0 m pc ls st0) := by
  intro T hT X
  obtain ⟨v, st₀, t, T', L, h0, X', hL, e1, e2, ⟨hv, hP, hz, hk⟩, st⟩ := hr T hT X
  cases hv
  rw [h0] at hz hk
  obtain ⟨t2, a1, b1⟩ := kk T'.heap (locs ++ L) ⟨by rw [e1]; exact hP, Nat.le_trans hH.2.1 (by rw [e1]; exact hz), fun q h1 h2 => by rw [e1, hk q (Nat.lt_of_lt_of_le h1 hH.2.1) h2]; exact hH.2.2.1 q h1 h2, fun q hq => by
      rcases List.mem_append.mp hq with h | h
      · exact hH.2.2.2 q h
      · exact hL q h⟩ T' rfl X'
  exact ⟨t2, st t2 a1, b1⟩
theorem im_afterI {x : Int32} {st0 : List Value} {a : Array Value} (hr : va_Run p l e R s m args below meth c H locs cells slots 0 0 (F0 m pc ls st0) rest (im_Post D cl tA lo (some (.int x)) w' a) (fun q => lo ≤ q)) (hH : im_H D cl tA lo w s H locs)
    (kk : ∀ (H : Heap) (locs : List Loc), im_H D cl tA lo w' s H locs → W p l e R s m args below meth c H locs cells slots Q (F0 m (pc + 3) ls (.int x :: rest))) : W p l e R s m args below meth c H locs cells slots Q (F0 m pc ls st0) := im_after hr hH kk
theorem im_afterL {x : Int64} {st0 : List Value} {a : Array Value} (hr : va_Run p l e R s m args below meth c H locs cells slots 0 0 (F0 m pc ls st0) rest (im_Post D cl tA lo (some (.long x)) w' a) (fun q => lo ≤ q)) (hH : im_H D cl tA lo w s H locs)
    (kk : ∀ (H : Heap) (locs : List Loc), im_H D cl tA lo w' s H locs → W p l e R s m args below meth c H locs cells slots Q (F0 m (pc + 3) ls (.long x :: rest))) : W p l e R s m args below meth c H locs cells slots Q (F0 m pc ls st0) := im_after hr hH kk
theorem im_afterQ {x : Option Nat} {st0 : List Value} {a : Array Value} (hr : va_Run p l e R s m args below meth c H locs cells slots 0 0 (F0 m pc ls st0) rest (im_Post D cl tA lo (some (im_rf lo x)) w' a) (fun q => lo ≤ q)) (hH : im_H D cl tA lo w s H locs)
    (kk : ∀ (H : Heap) (locs : List Loc), im_H D cl tA lo w' s H locs → W p l e R s m args below meth c H locs cells slots Q (F0 m (pc + 3) ls (im_rf lo x :: rest))) : W p l e R s m args below meth c H locs cells slots Q (F0 m pc ls st0) := im_after hr hH kk
theorem im_afterV {st0 : List Value} {a : Array Value} (hr : va_Run p l e R s m args below meth c H locs cells slots 0 0 (F0 m pc ls st0) rest (im_Post D cl tA lo none w' a) (fun q => lo ≤ q)) (hH : im_H D cl tA lo w s H locs)
    (kk : ∀ (H : Heap) (locs : List Loc), im_H D cl tA lo w' s H locs → W p l e R s m args below meth c H locs cells slots Q (F0 m (pc + 3) ls rest)) : W p l e R s m args below meth c H locs cells slots Q (F0 m pc ls st0) := im_after hr hH kk
theorem im_pre {NW : List Cond} (hNW : ∀ x ∈ NW, im_isN x) (hK : va_K D cl (im_tys tA) s) (hN : ∀ x ∈ NW, va_Nw x s) (hH : im_H D cl tA lo w s H locs) (As : List Value) : PreS s H (im_Pre D cl tA lo NW As w) As :=
  ⟨im_blind hNW, fun U hU hW => ⟨rfl, by rw [hU]; exact hH.1, va_K.moved hW.alike hK, fun x hx => (hNW x hx).warm hW (hN x hx)⟩⟩
theorem im_preV {NW : List Cond} (hNW : ∀ x ∈ NW, im_isN x) (hK : va_K D cl (im_tys tA) s) (hN : ∀ x ∈ NW, va_Nw x s) (hH : im_H D cl tA lo w s H locs) {C : String} {q : vw_C} {ci b : Nat} {fs : List Value} (hc : cl[ci]? = some q) (hC : q.1 = C) (hb : im_ob w ci b = some fs) (As : List Value) : PreV s H C (lo + b) (im_Pre D cl tA lo NW (.ref (lo + b) :: As) w) As :=
  ⟨im_blind hNW, by rw [← hC]; exact va_recv hK hH.1 hc (im_at_ob hb), fun U hU hW => ⟨rfl, by rw [hU]; exact hH.1, va_K.moved hW.alike hK, fun x hx => (hNW x hx).warm hW (hN x hx)⟩⟩
/-! ends -/
theorem im_iret {x : Int32} (hx : p.tables.exec = Jvm.exec) (hb : c.code = cc) (hr : meth.sig.returnType = some .int) (hlk : meth.locks = false) (hH : im_H D cl tA lo w s H locs) (hdg : decode cc pc = .ok (.ireturn, 1)) : W p l e R s m args below meth c H locs cells slots (MQ below (im_Post D cl tA lo (some (.int x)) w) args s cells slots (fun q => lo ≤ q)) (F0 m pc ls [.int x]) :=
  W.iret hx hb hr (fun t ht _ => ⟨rfl, by rw [ht]; exact hH.1, hH.2.F ht⟩) hH.2.2.2 hdg hlk
theorem im_zret {x : Int32} {ty : FieldType} (hx : p.tables.exec = Jvm.exec) (hb : c.code = cc) (hr : meth.sig.returnType = some ty) (hlk : meth.locks = false) (hn : narrow ty (.int x) = .int x) (hH : im_H D cl tA lo w s H locs) (hdg : decode cc pc = .ok (.ireturn, 1)) : W p l e R s m args below meth c H locs cells slots (MQ below (im_Post D cl tA lo (some (.int x)) w) args s cells slots (fun q => lo ≤ q)) (F0 m pc ls [.int x]) :=
  W.zret hx hb hr hn (fun t ht _ => ⟨rfl, by rw [ht]; exact hH.1, hH.2.F ht⟩) hH.2.2.2 hdg hlk
theorem im_lret {x : Int64} (hx : p.tables.exec = Jvm.exec) (hb : c.code = cc) (hr : meth.sig.returnType = some .long) (hlk : meth.locks = false) (hH : im_H D cl tA lo w s H locs) (hdg : decode cc pc = .ok (.lreturn, 1)) : W p l e R s m args below meth c H locs cells slots (MQ below (im_Post D cl tA lo (some (.long x)) w) args s cells slots (fun q => lo ≤ q)) (F0 m pc ls [.long x]) :=
  W.lret hx hb hr (fun t ht _ => ⟨rfl, by rw [ht]; exact hH.1, hH.2.F ht⟩) hH.2.2.2 hdg hlk
theorem im_vret (hx : p.tables.exec = Jvm.exec) (hb : c.code = cc) (hr : meth.sig.returnType = none) (hlk : meth.locks = false) (hH : im_H D cl tA lo w s H locs) (hdg : decode cc pc = .ok (.return_, 1)) : W p l e R s m args below meth c H locs cells slots (MQ below (im_Post D cl tA lo none w) args s cells slots (fun q => lo ≤ q)) (F0 m pc ls []) :=
  W.vret hx hb hr (fun t ht _ => ⟨rfl, by rw [ht]; exact hH.1, hH.2.F ht⟩) hH.2.2.2 hdg hlk
theorem im_aret {r : Option Nat} {C : String} (hx : p.tables.exec = Jvm.exec) (hb : c.code = cc) (hr : meth.sig.returnType = some (.object C)) (hlk : meth.locks = false) (hH : im_H D cl tA lo w s H locs) (hdg : decode cc pc = .ok (.areturn, 1)) : W p l e R s m args below meth c H locs cells slots (MQ below (im_Post D cl tA lo (some (im_rf lo r)) w) args s cells slots (fun q => lo ≤ q)) (F0 m pc ls [im_rf lo r]) :=
  W.aret hx hb hr (Or.inl ⟨C, rfl⟩) (by cases r with
    | none => exact Or.inl rfl
    | some a => exact Or.inr ⟨lo + a, rfl⟩) (fun t ht _ => ⟨rfl, by rw [ht]; exact hH.1, hH.2.F ht⟩) hH.2.2.2 hdg hlk
/-! references that may be null -/
theorem im_null (hx : p.tables.exec = Jvm.exec) (hb : c.code = cc) (hdg : decode cc pc = .ok (.aconst_null, 1)) (k : W p l e R s m args below meth c H locs cells slots Q (F0 m (pc + 1) ls (im_rf lo none :: rest))) : W p l e R s m args below meth c H locs cells slots Q (F0 m pc ls rest) := lv_null hx hb hdg k
theorem im_aloadQ_n (hx : p.tables.exec = Jvm.exec) (hb : c.code = cc) {k : Fin 4} {i : Nat} {q : Option Nat} (hdg : decode cc pc = .ok (.aload_n k, 1)) (hi : (k : Nat) = i) (hl : ls[i]? = some (.val (im_rf lo q))) (kk : W p l e R s m args below meth c H locs cells slots Q (F0 m (pc + 1) ls (im_rf lo q :: rest))) : W p l e R s m args below meth c H locs cells slots Q (F0 m pc ls rest) := by
  cases q with
  | none => exact lv_aload_nN hx hb hdg hi hl kk
  | some a => exact lv_aload_n hx hb hdg hi hl kk
theorem im_aloadQ (hx : p.tables.exec = Jvm.exec) (hb : c.code = cc) {i : Nat} {q : Option Nat} (hdg : decode cc pc = .ok (.aload i, 2)) (hl : ls[i]? = some (.val (im_rf lo q))) (kk : W p l e R s m args below meth c H locs cells slots Q (F0 m (pc + 2) ls (im_rf lo q :: rest))) : W p l e R s m args below meth c H locs cells slots Q (F0 m pc ls rest) := by
  cases q with
  | none => exact lv_aloadN hx hb hdg hl kk
  | some a => exact lv_aload hx hb hdg hl kk
theorem im_astoreQ_n (hx : p.tables.exec = Jvm.exec) (hb : c.code = cc) {k : Fin 4} {i nL : Nat} {q : Option Nat} {lv lv' : List (Nat × Value)} (hdg : decode cc pc = .ok (.astore_n k, 1)) (hi : (k : Nat) = i) (h : lv_has ls nL lv) (hn : i < nL) (hl : (i, im_rf lo q) :: lv.filter (fun q => !(q.1 == i) && !(q.1 + 1 == i && q.2.category == 2)) = lv')
    (kk : ∀ ls : Array Slot, lv_has ls nL lv' → W p l e R s m args below meth c H locs cells slots Q (F0 m (pc + 1) ls rest)) : W p l e R s m args below meth c H locs cells slots Q (F0 m pc ls (im_rf lo q :: rest)) := by
  cases q with
  | none => exact lv_astore_nN hx hb hdg hi h hn hl kk
  | some a => exact lv_astore_n hx hb hdg hi h hn hl kk
theorem im_astoreQ (hx : p.tables.exec = Jvm.exec) (hb : c.code = cc) {i nL : Nat} {q : Option Nat} {lv lv' : List (Nat × Value)} (hdg : decode cc pc = .ok (.astore i, 2)) (h : lv_has ls nL lv) (hn : i < nL) (hl : (i, im_rf lo q) :: lv.filter (fun q => !(q.1 == i) && !(q.1 + 1 == i && q.2.category == 2)) = lv')
    (kk : ∀ ls : Array Slot, lv_has ls nL lv' → W p l e R s m args below meth c H locs cells slots Q (F0 m (pc + 2) ls rest)) : W p l e R s m args below meth c H locs cells slots Q (F0 m pc ls (im_rf lo q :: rest)) := by
  cases q with
  | none => exact lv_astoreN hx hb hdg h hn hl kk
  | some a => exact lv_astore hx hb hdg h hn hl kk
/-! the script -/
theorem im_sld (hx : p.tables.exec = Jvm.exec) (hb : c.code = cc) {b n : Nat} {xs : Nat → Int32} (hX : va_X b n xs s s.heap) (hbl : b < s.heap.size) (hbA : ¬ lo ≤ b) (hH : im_H D cl tA lo w s H locs) {i x : Int32} (hv : im_scr n xs i = some x) (hdg : decode cc pc = .ok (.iaload, 1))
    (kk : W p l e R s m args below meth c H locs cells slots Q (F0 m (pc + 1) ls (.int x :: rest))) : W p l e R s m args below meth c H locs cells slots Q (F0 m pc ls (.int i :: .ref b :: rest)) := by
  obtain ⟨h1, rfl⟩ := im_scr_s hv
  exact va_sld hx hb hX hbl (A := fun q => lo ≤ q) hbA hH.2 h1 hdg kk
theorem im_slen (hx : p.tables.exec = Jvm.exec) (hb : c.code = cc) {b n : Nat} {xs : Nat → Int32} (hX : va_X b n xs s s.heap) (hbl : b < s.heap.size) (hbA : ¬ lo ≤ b) (hH : im_H D cl tA lo w s H locs) (hdg : decode cc pc = .ok (.arraylength, 1))
    (kk : W p l e R s m args below meth c H locs cells slots Q (F0 m (pc + 1) ls (.int (Int32.ofNat n) :: rest))) : W p l e R s m args below meth c H locs cells slots Q (F0 m pc ls (.ref b :: rest)) :=
  va_slen hx hb hX hbl (A := fun q => lo ≤ q) hbA hH.2 hdg kk
end IMR
def im_WW (D : va_G) (cl : List vw_C) (tA : Nat → ClassId) (lo nL : Nat) (p : Program) (l : Launch) (e : Env) (R : Room) (s : State) (m : MethodId) (args : Array Value) (below : List Frame) (meth : Method) (c : Code) (cells slots : Nat) (Q : State → Prop) (pc : Nat) (lv : List (Nat × Value)) (st : List Value) (w : im_W) : Prop :=
  ∀ (H : Heap) (locs : List Loc) (ls : Array Slot), im_H D cl tA lo w s H locs → lv_has ls nL lv → W p l e R s m args below meth c H locs cells slots Q (F0 m pc ls st)
/-! a method's contract out of its walk -/
theorem im_ofW {D : va_G} {cl : List vw_C} {tA : Nat → ClassId} {lo : Nat} {NW : List Cond} {l : Launch} {y : MethodName} {Ts : List Cond} {rm : Room} {cc : ByteArray} {nL : Nat} {ret : Option FieldType} {As : List Value} {w w' : im_W} {rv : Option Value} (hy : plainName y.cls = true) (hn : (lg_sl As).length ≤ nL)
    (body : ∀ (p : Program) (e : Env) (s : State) (m : MethodId) (args : Array Value) (below : List Frame) (meth : Method) (c : Code), im_X D cl tA lo NW cc nL ret y.cls Ts p s m args meth c → ∀ (H : Heap) (locs : List Loc) (ls : Array Slot), im_H D cl tA lo w s H locs → lv_has ls nL (lv_args 0 As) → W p l e rm s m args below meth c H locs 0 0 (MQ below (im_Post D cl tA lo rv w') args s 0 0 (fun q => lo ≤ q)) (F0 m 0 ls [])) :
    Met l y (Cond.code y cc nL ret :: Ts) rm (im_Pre D cl tA lo NW As w) (im_Post D cl tA lo rv w') 0 0 (fun q => lo ≤ q) := by
  refine Met.ofW (cc := cc) (maxL := nL) (ret := ret) hy rfl ?_
  intro p e s m args below meth c s₁ B hml hv
  obtain ⟨rfl, hP, hK, hN⟩ := hv
  have hl := lv_entry As (n := nL) hn
  rw [lg_entry_eq]
  generalize (lg_sl As ++ List.replicate (nL - (lg_sl As).length) Slot.unset).toArray = ls at hl ⊢
  have hts := atoms_spec (ws := Cond.code y cc nL ret :: Ts) B.pre
  exact body p e s m _ below meth c ⟨B.exec, B.bytes, B.returns, fun w h => hts w (List.mem_cons_of_mem _ h), findClass_of_methodNamed B.named, B.notSynchronized, hml, hK, hN⟩ s.heap [] ls ⟨hP, va_S.rf⟩ hl
end
section
/-! making cells: their addresses are known, for the heap's size is -/
section IMA
variable {p : Program} {l : Launch} {e : Env} {R : Room} {s : State} {m : MethodId} {args : Array Value} {below : List Frame} {meth : Method} {c : Code} {H : Heap} {locs : List Loc} {cells slots : Nat} {Q : State → Prop}
variable {cc : ByteArray} {pc : Nat} {ls : Array Slot} {rest : List Value} {D : va_G} {cl : List vw_C} {tA : Nat → ClassId} {lo : Nat} {w w' : im_W}
theorem im_sized {g : JFrame} (k : H.size ≤ s.heap.size + cells → W p l e R s m args below meth c H locs cells slots Q g) : W p l e R s m args below meth c H locs cells slots Q g := fun T hT X => k (by rw [← hT]; exact X.heapSize) T hT X
theorem im_ws_len : (im_ws tA lo w).length = w.1 := by simp [im_ws]
theorem im_fresh {q : Nat} {e' : va_E} {H1 : Heap} (hP : va_P D cl (im_ws tA lo w ++ [(q, e')]) H1) (hD : va_D (fun q => lo ≤ q) (im_ws tA lo w ++ [(q, e')])) (hz : H1.size ≤ lo + w.1 + 1) : q = lo + w.1 := by
  have hlen : (im_ws tA lo w).length = w.1 := im_ws_len
  have hq : (im_ws tA lo w ++ [(q, e')])[w.1]? = some (q, e') := by
    rw [List.getElem?_append_right (by omega)]
    simp [hlen]
  have h1 : q < H1.size := (hP _ _ hq).lt
  have h2 : lo ≤ q := hD.2 _ _ hq
  by_cases h : q - lo < w.1
  · have hk : (im_ws tA lo w ++ [(q, e')])[q - lo]? = some (lo + (q - lo), im_cv tA lo (w.2 (q - lo))) := by
      rw [List.getElem?_append_left (by omega), im_ws_at h]
    have h3 := hD.1 _ _ _ _ hk hq (show lo + (q - lo) = q by omega)
    omega
  · omega
theorem im_new (hx : p.tables.exec = Jvm.exec) (hb : c.code = cc) {own C : String} {T : u_T} {N ci index : Nat} {Ts : List Cond} (hts : ∀ w ∈ Ts, w.before args s = true) (hin : ∀ w ∈ u_ws C T N, w ∈ Ts) (ty : Nat → FieldType) (hty : ∀ k, k < N → parseFieldDescriptor (T k).2.2.1 = some (ty k)) (hown : s.vm.findClass own = some m.cls) (hcl : (Cond.classLink own index C).before args s = true) (hinst : (Cond.instantiable C N).before args s = true) (hini : (Cond.initialized C).before args s = true)
    (hK : va_K D cl (im_tys tA) s) (hH : im_H D cl tA lo w s H locs) (hc : cl[ci]? = some (C, T, N)) (hlo : lo ≤ s.heap.size) (hz : s.heap.size + cells = lo + w.1) {fs : List Value} (hfs : ∀ j, j < N → defaultValue (ty j) = vp_V (fs.map (im_sv lo)) j) (hcells : cells + 1 ≤ R.cells) (hslots : slots + N ≤ R.slots) (hdg : decode cc pc = .ok (.new index, 3))
    (kk : ∀ (H : Heap), im_H D cl tA lo (im_push w (.inr (ci, fs))) s H locs → W p l e R s m args below meth c H locs (cells + 1) (slots + N) Q (F0 m (pc + 3) ls (.ref (lo + w.1) :: rest))) : W p l e R s m args below meth c H locs cells slots Q (F0 m pc ls rest) := by
  refine va_new (fs := fs.map (im_sv lo)) hx hb hts hin ty hty hown hcl hinst hini hK hH.1 im_D hH.2 (fun q hq => Nat.le_trans hlo hq) hc hfs hcells hslots hdg (fun q H1 hP hD hS => im_sized (fun hsz => ?_))
  obtain rfl := im_fresh hP hD (by omega)
  have hP : va_P D cl (im_ws tA lo w ++ [(lo + w.1, im_cv tA lo (.inr (ci, fs)))]) H1 := hP
  rw [im_ws_push] at hP
  exact kk H1 ⟨hP, hS⟩
theorem im_tA {t : Nat} {cA : ClassId} {ty : FieldType} (hK : va_K D cl (im_tys tA) s) (ht : t < 6) (hty : im_ty t = ty) (hK2 : va_K D cl (im_tys tA ++ [(cA, ty)]) s) : cA = tA t := by
  have h1 := (hK.2 t _ (im_tys_at ht)).2
  have h2 := (hK2.2 6 (cA, ty) (by rw [List.getElem?_append_right (by simp [im_tys])]; simp [im_tys])).2
  subst hty
  have key : ∀ (ty : FieldType) (c1 c2 : ClassId), va_RA s c1 ty → va_RA s c2 ty → c1 = c2 := by
    intro ty c1 c2 a1 a2
    cases ty with
    | object C =>
      obtain ⟨_, _, _, _, _, b1⟩ := a1
      obtain ⟨_, _, _, _, _, b2⟩ := a2
      exact Option.some.inj (b1.symm.trans b2)
    | _ => exact Option.some.inj (Eq.trans (Eq.symm a1) a2)
  exact key _ _ _ h2 h1
theorem im_newa (hx : p.tables.exec = Jvm.exec) (hb : c.code = cc) {atype : ArrayType} (harr : (Cond.arrayClass (newarray.typeOf atype)).before args s = true) {t : Nat} (ht : t < 6) (hty : newarray.typeOf atype = im_ty t) (hK : va_K D cl (im_tys tA) s) (hH : im_H D cl tA lo w s H locs) (hlo : lo ≤ s.heap.size) (hz : s.heap.size + cells = lo + w.1)
    {n : Int32} {N' : Nat} {a0 : vp_A} (ha : ∀ cA : ClassId, vp_cell cA (im_sa lo a0) = arrV cA N' (fun _ => defaultValue (im_ty t))) (hn : ¬ n < 0) (hN : n.toNatClampNeg = N') (hbytes : N' * componentBytes (im_ty t) ≤ 536870912) (hcells : cells + 1 ≤ R.cells) (hslots : slots + N' ≤ R.slots) (hdg : decode cc pc = .ok (.newarray atype, 2))
    (kk : ∀ (H : Heap), im_H D cl tA lo (im_push w (.inl (t, a0))) s H locs → W p l e R s m args below meth c H locs (cells + 1) (slots + N') Q (F0 m (pc + 2) ls (.ref (lo + w.1) :: rest))) : W p l e R s m args below meth c H locs cells slots Q (F0 m pc ls (.int n :: rest)) := by
  refine va_newa hx hb harr hty hK hH.1 im_D hH.2 (fun q hq => Nat.le_trans hlo hq) ha hn hN hbytes hcells hslots hdg (fun q cA H1 hK2 hP hD hS => im_sized (fun hsz => ?_))
  obtain rfl := im_fresh hP hD (by omega)
  obtain rfl := im_tA hK ht rfl hK2
  have hP : va_P D cl (im_ws tA lo w ++ [(lo + w.1, im_cv tA lo (.inl (t, a0)))]) H1 := hP
  rw [im_ws_push] at hP
  exact kk H1 ⟨hP, hS⟩
theorem im_newq (hx : p.tables.exec = Jvm.exec) (hb : c.code = cc) {own C : String} {index : Nat} (hown : s.vm.findClass own = some m.cls) (hclink : (Cond.classLink own index C).before args s = true) (hover : va_AO C s) {t : Nat} (ht : t < 6) (hty : im_ty t = .object C) (hK : va_K D cl (im_tys tA) s) (hH : im_H D cl tA lo w s H locs) (hlo : lo ≤ s.heap.size) (hz : s.heap.size + cells = lo + w.1)
    {n : Int32} {N' : Nat} (hn : ¬ n < 0) (hN : n.toNatClampNeg = N') (hbytes : N' * 4 ≤ 536870912) (hcells : cells + 1 ≤ R.cells) (hslots : slots + N' ≤ R.slots) (hdg : decode cc pc = .ok (.anewarray index, 3))
    (kk : ∀ (H : Heap), im_H D cl tA lo (im_push w (.inl (t, N', .inr (.inr (.inr (.inr (fun _ => none))))))) s H locs → W p l e R s m args below meth c H locs (cells + 1) (slots + N') Q (F0 m (pc + 3) ls (.ref (lo + w.1) :: rest))) : W p l e R s m args below meth c H locs cells slots Q (F0 m pc ls (.int n :: rest)) := by
  refine va_newq hx hb hown hclink hover hK hH.1 im_D hH.2 (fun q hq => Nat.le_trans hlo hq) hn hN hbytes hcells hslots hdg (fun q cA H1 hK2 hP hD hS => im_sized (fun hsz => ?_))
  obtain rfl := im_fresh hP hD (by omega)
  obtain rfl := im_tA hK ht hty hK2
  have hP : va_P D cl (im_ws tA lo w ++ [(lo + w.1, im_cv tA lo (.inl (t, N', .inr (.inr (.inr (.inr (fun _ => none)))))))]) H1 := hP
  rw [im_ws_push] at hP
  exact kk H1 ⟨hP, hS⟩
end IMA
end
