/-! the ideal world: cells 0, 1, .. lie at lo, lo + 1, ..; references in it are numbers of cells -/
abbrev im_E : Type := (Nat × vp_A) ⊕ (Nat × List Value)
abbrev im_W : Type := Nat × (Nat → im_E)
def im_ty : Nat → FieldType
  | 0 => .int
  | 1 => .long
  | 2 => .char
  | 3 => .boolean
  | 4 => .object "LanguageTags$Tag"
  | _ => .object "LanguageTags$Form"
def im_tys (tA : Nat → ClassId) : List (ClassId × FieldType) := (List.range 6).map (fun j => (tA j, im_ty j))
theorem im_tys_at {tA : Nat → ClassId} {j : Nat} (h : j < 6) : (im_tys tA)[j]? = some (tA j, im_ty j) := by simp [im_tys, h]
def im_sv (lo : Nat) (v : Value) : Value := match v with
  | .ref a => .ref (lo + a)
  | v => v
def im_sa (lo : Nat) (a : vp_A) : vp_A := (a.1, match a.2 with
  | .inr (.inr (.inr (.inr f))) => .inr (.inr (.inr (.inr (fun j => (f j).map (fun a => lo + a)))))
  | x => x)
def im_cv (tA : Nat → ClassId) (lo : Nat) (e : im_E) : va_E := match e with
  | .inl a => .inl (tA a.1, im_sa lo a.2)
  | .inr o => .inr (o.1, o.2.map (im_sv lo))
def im_ws (tA : Nat → ClassId) (lo : Nat) (w : im_W) : va_W := (List.range w.1).map (fun k => (lo + k, im_cv tA lo (w.2 k)))
def im_up (w : im_W) (k : Nat) (e : im_E) : im_W := (w.1, fun j => if j = k then e else w.2 j)
def im_push (w : im_W) (e : im_E) : im_W := (w.1 + 1, fun j => if j = w.1 then e else w.2 j)
theorem im_ws_at {tA : Nat → ClassId} {lo : Nat} {w : im_W} {k : Nat} (h : k < w.1) : (im_ws tA lo w)[k]? = some (lo + k, im_cv tA lo (w.2 k)) := by simp [im_ws, h]
theorem im_ws_inv {tA : Nat → ClassId} {lo : Nat} {w : im_W} {k : Nat} {q : Nat × va_E} (h : (im_ws tA lo w)[k]? = some q) : k < w.1 ∧ q = (lo + k, im_cv tA lo (w.2 k)) := by
  have hk : k < w.1 := by
    have h1 := (List.getElem?_eq_some_iff.mp h).1
    simpa [im_ws] using h1
  rw [im_ws_at hk] at h
  exact ⟨hk, (Option.some.inj h).symm⟩
theorem im_D {tA : Nat → ClassId} {lo : Nat} {w : im_W} : va_D (fun q => lo ≤ q) (im_ws tA lo w) := by
  refine ⟨fun i j p q hi hj he => ?_, fun k q hk => ?_⟩
  · obtain ⟨-, rfl⟩ := im_ws_inv hi
    obtain ⟨-, rfl⟩ := im_ws_inv hj
    have he : lo + i = lo + j := he
    omega
  · obtain ⟨-, rfl⟩ := im_ws_inv hk
    exact Nat.le_add_right lo k
theorem im_ws_up {tA : Nat → ClassId} {lo : Nat} {w : im_W} {k : Nat} (e : im_E) : (im_ws tA lo w).set k (lo + k, im_cv tA lo e) = im_ws tA lo (im_up w k e) := by
  refine List.ext_getElem? fun i => ?_
  by_cases hi : i < w.1
  · have h2 : (im_ws tA lo (im_up w k e))[i]? = some (lo + i, im_cv tA lo ((im_up w k e).2 i)) := im_ws_at (w := im_up w k e) hi
    rw [h2]
    by_cases hik : i = k
    · subst hik
      rw [List.getElem?_set_self (by simpa [im_ws] using hi)]
      simp [im_up]
    · rw [List.getElem?_set_ne (fun q => hik q.symm), im_ws_at hi]
      simp [im_up, hik]
  · have h1 : ((im_ws tA lo w).set k (lo + k, im_cv tA lo e))[i]? = none := by simp [im_ws]; omega
    have h2 : (im_ws tA lo (im_up w k e))[i]? = none := by simp [im_ws, im_up]; omega
    rw [h1, h2]
theorem im_ws_push {tA : Nat → ClassId} {lo : Nat} {w : im_W} (e : im_E) : im_ws tA lo w ++ [(lo + w.1, im_cv tA lo e)] = im_ws tA lo (im_push w e) := by
  have h1 : (im_push w e).1 = w.1 + 1 := rfl
  unfold im_ws
  rw [h1, List.range_succ, List.map_append]
  congr 1
  · refine List.map_congr_left fun k hk => ?_
    have hk : k < w.1 := List.mem_range.mp hk
    have hne : ¬ k = w.1 := by omega
    simp [im_push, hne]
  · simp [im_push]
def im_H (D : va_G) (cl : List vw_C) (tA : Nat → ClassId) (lo : Nat) (w : im_W) (s : State) (H : Heap) (locs : List Loc) : Prop := va_P D cl (im_ws tA lo w) H ∧ va_S (fun q => lo ≤ q) s.heap H locs
/-! reading and writing it -/
def im_ob (w : im_W) (ci h : Nat) : Option (List Value) := if h < w.1 then (match w.2 h with
  | .inr o => if o.1 = ci then some o.2 else none
  | .inl _ => none) else none
theorem im_ob_s {w : im_W} {ci h : Nat} {fs : List Value} (e : im_ob w ci h = some fs) : h < w.1 ∧ w.2 h = .inr (ci, fs) := by
  unfold im_ob at e
  split at e
  · rename_i h1
    refine ⟨h1, ?_⟩
    split at e
    · rename_i o ho
      split at e
      · rename_i h2
        obtain ⟨o1, o2⟩ := o
        cases e
        cases h2
        exact ho
      · cases e
    · cases e
  · cases e
def im_fd (w : im_W) (ci h k : Nat) : Option Value := match im_ob w ci h with
  | some fs => fs[k]?
  | none => none
theorem im_fd_s {w : im_W} {ci h k : Nat} {v : Value} (e : im_fd w ci h k = some v) : ∃ fs, im_ob w ci h = some fs ∧ fs[k]? = some v := by
  unfold im_fd at e
  split at e
  · rename_i fs h1
    exact ⟨fs, h1, e⟩
  · cases e
def im_gI (w : im_W) (ci h k : Nat) : Option Int32 := match im_fd w ci h k with
  | some (.int x) => some x
  | _ => none
def im_gL (w : im_W) (ci h k : Nat) : Option Int64 := match im_fd w ci h k with
  | some (.long x) => some x
  | _ => none
def im_gR (w : im_W) (ci h k : Nat) : Option Nat := match im_fd w ci h k with
  | some (.ref x) => some x
  | _ => none
theorem im_gI_s {w : im_W} {ci h k : Nat} {x : Int32} (e : im_gI w ci h k = some x) : im_fd w ci h k = some (.int x) := by
  unfold im_gI at e
  split at e
  · rename_i y hy
    cases e
    exact hy
  · cases e
theorem im_gL_s {w : im_W} {ci h k : Nat} {x : Int64} (e : im_gL w ci h k = some x) : im_fd w ci h k = some (.long x) := by
  unfold im_gL at e
  split at e
  · rename_i y hy
    cases e
    exact hy
  · cases e
theorem im_gR_s {w : im_W} {ci h k : Nat} {x : Nat} (e : im_gR w ci h k = some x) : im_fd w ci h k = some (.ref x) := by
  unfold im_gR at e
  split at e
  · rename_i y hy
    cases e
    exact hy
  · cases e
def im_pV (w : im_W) (ci h k : Nat) (v : Value) : Option im_W := match im_ob w ci h with
  | some fs => if k < fs.length then some (im_up w h (.inr (ci, fs.set k v))) else none
  | none => none
theorem im_pV_s {w w' : im_W} {ci h k : Nat} {v : Value} (e : im_pV w ci h k v = some w') : ∃ fs, im_ob w ci h = some fs ∧ k < fs.length ∧ w' = im_up w h (.inr (ci, fs.set k v)) := by
  unfold im_pV at e
  split at e
  · rename_i fs h1
    split at e
    · rename_i h2
      cases e
      exact ⟨fs, h1, h2, rfl⟩
    · cases e
  · cases e
def im_ar (w : im_W) (t h : Nat) : Option vp_A := if h < w.1 then (match w.2 h with
  | .inl a => if a.1 = t then some a.2 else none
  | .inr _ => none) else none
theorem im_ar_s {w : im_W} {t h : Nat} {a : vp_A} (e : im_ar w t h = some a) : h < w.1 ∧ w.2 h = .inl (t, a) := by
  unfold im_ar at e
  split at e
  · rename_i h1
    refine ⟨h1, ?_⟩
    split at e
    · rename_i o ho
      split at e
      · rename_i h2
        obtain ⟨o1, o2⟩ := o
        cases e
        cases h2
        exact ho
      · cases e
    · cases e
  · cases e
def im_lI (w : im_W) (t h : Nat) (i : Int32) : Option Int32 := match im_ar w t h with
  | some (n, .inl f) => if i < 0 ∨ n ≤ i.toNatClampNeg then none else some (f i.toNatClampNeg)
  | _ => none
def im_lL (w : im_W) (t h : Nat) (i : Int32) : Option Int64 := match im_ar w t h with
  | some (n, .inr (.inl f)) => if i < 0 ∨ n ≤ i.toNatClampNeg then none else some (f i.toNatClampNeg)
  | _ => none
def im_lQ (w : im_W) (t h : Nat) (i : Int32) : Option (Option Nat) := match im_ar w t h with
  | some (n, .inr (.inr (.inr (.inr f)))) => if i < 0 ∨ n ≤ i.toNatClampNeg then none else some (f i.toNatClampNeg)
  | _ => none
def im_lR (w : im_W) (t h : Nat) (i : Int32) : Option Nat := match im_lQ w t h i with
  | some (some a) => some a
  | _ => none
theorem im_lI_s {w : im_W} {t h : Nat} {i x : Int32} (e : im_lI w t h i = some x) : ∃ (n : Nat) (f : Nat → Int32), im_ar w t h = some (n, .inl f) ∧ vp_in i n ∧ x = f i.toNatClampNeg := by
  unfold im_lI at e
  split at e
  · rename_i n f h1
    split at e
    · cases e
    · rename_i h2
      cases e
      exact ⟨n, f, h1, h2, rfl⟩
  · cases e
theorem im_lL_s {w : im_W} {t h : Nat} {i : Int32} {x : Int64} (e : im_lL w t h i = some x) : ∃ (n : Nat) (f : Nat → Int64), im_ar w t h = some (n, .inr (.inl f)) ∧ vp_in i n ∧ x = f i.toNatClampNeg := by
  unfold im_lL at e
  split at e
  · rename_i n f h1
    split at e
    · cases e
    · rename_i h2
      cases e
      exact ⟨n, f, h1, h2, rfl⟩
  · cases e
theorem im_lQ_s {w : im_W} {t h : Nat} {i : Int32} {x : Option Nat} (e : im_lQ w t h i = some x) : ∃ (n : Nat) (f : Nat → Option Nat), im_ar w t h = some (n, .inr (.inr (.inr (.inr f)))) ∧ vp_in i n ∧ x = f i.toNatClampNeg := by
  unfold im_lQ at e
  split at e
  · rename_i n f h1
    split at e
    · cases e
    · rename_i h2
      cases e
      exact ⟨n, f, h1, h2, rfl⟩
  · cases e
theorem im_lR_s {w : im_W} {t h : Nat} {i : Int32} {x : Nat} (e : im_lR w t h i = some x) : im_lQ w t h i = some (some x) := by
  unfold im_lR at e
  split at e
  · rename_i a h1
    cases e
    exact h1
  · cases e
def im_sI (w : im_W) (t h : Nat) (i x : Int32) : Option im_W := match im_ar w t h with
  | some (n, .inl f) => if i < 0 ∨ n ≤ i.toNatClampNeg then none else some (im_up w h (.inl (t, n, .inl (upd f i.toNatClampNeg x))))
  | _ => none
def im_sL (w : im_W) (t h : Nat) (i : Int32) (x : Int64) : Option im_W := match im_ar w t h with
  | some (n, .inr (.inl f)) => if i < 0 ∨ n ≤ i.toNatClampNeg then none else some (im_up w h (.inl (t, n, .inr (.inl (vp_updL f i.toNatClampNeg x)))))
  | _ => none
theorem im_sI_s {w w' : im_W} {t h : Nat} {i x : Int32} (e : im_sI w t h i x = some w') : ∃ (n : Nat) (f : Nat → Int32), im_ar w t h = some (n, .inl f) ∧ vp_in i n ∧ w' = im_up w h (.inl (t, n, .inl (upd f i.toNatClampNeg x))) := by
  unfold im_sI at e
  split at e
  · rename_i n f h1
    split at e
    · cases e
    · rename_i h2
      cases e
      exact ⟨n, f, h1, h2, rfl⟩
  · cases e
theorem im_sL_s {w w' : im_W} {t h : Nat} {i : Int32} {x : Int64} (e : im_sL w t h i x = some w') : ∃ (n : Nat) (f : Nat → Int64), im_ar w t h = some (n, .inr (.inl f)) ∧ vp_in i n ∧ w' = im_up w h (.inl (t, n, .inr (.inl (vp_updL f i.toNatClampNeg x)))) := by
  unfold im_sL at e
  split at e
  · rename_i n f h1
    split at e
    · cases e
    · rename_i h2
      cases e
      exact ⟨n, f, h1, h2, rfl⟩
  · cases e
def im_len (w : im_W) (t h : Nat) : Option Int32 := match im_ar w t h with
  | some a => some (Int32.ofNat a.1)
  | none => none
theorem im_len_s {w : im_W} {t h : Nat} {x : Int32} (e : im_len w t h = some x) : ∃ a : vp_A, im_ar w t h = some a ∧ Int32.ofNat a.1 = x := by
  unfold im_len at e
  split at e
  · rename_i a h1
    cases e
    exact ⟨a, h1, rfl⟩
  · cases e
/-- a receiver of a class -/
def im_is (w : im_W) (ci h : Nat) : Option Unit := match im_ob w ci h with
  | some _ => some ()
  | none => none
theorem im_is_s {w : im_W} {ci h : Nat} {u : Unit} (e : im_is w ci h = some u) : ∃ fs, im_ob w ci h = some fs := by
  unfold im_is at e
  split at e
  · rename_i fs h1
    exact ⟨fs, h1⟩
  · cases e
/-- an answer that must be a boolean, a char -/
def im_rz (x : Int32) (w : im_W) : Option (Int32 × im_W) := if x = 0 ∨ x = 1 then some (x, w) else none
def im_rc (x : Int32) (w : im_W) : Option (Int32 × im_W) := if narrow .char (.int x) = .int x then some (x, w) else none
theorem im_rz_s {x : Int32} {w : im_W} {r : Int32 × im_W} (e : im_rz x w = some r) : (x, w) = r ∧ narrow .boolean (.int x) = .int x := by
  unfold im_rz at e
  split at e
  · rename_i h
    cases e
    refine ⟨rfl, ?_⟩
    rcases h with rfl | rfl <;> rfl
  · cases e
theorem im_rc_s {x : Int32} {w : im_W} {r : Int32 × im_W} (e : im_rc x w = some r) : (x, w) = r ∧ narrow .char (.int x) = .int x := by
  unfold im_rc at e
  split at e
  · rename_i h
    cases e
    exact ⟨rfl, h⟩
  · cases e
/-- a number that is put into a boolean field -/
def im_z (x : Int32) : Option Unit := if x = 0 ∨ x = 1 then some () else none
theorem im_z_n {x : Int32} {u : Unit} (e : im_z x = some u) : narrow .boolean (.int x) = .int x := by
  unfold im_z at e
  split at e
  · rename_i h
    rcases h with rfl | rfl <;> rfl
  · cases e
theorem im_z_f {x : Int32} {u : Unit} (e : im_z x = some u) : fits .boolean (.int x) = true := by
  unfold im_z at e
  split at e
  · rename_i h
    rcases h with rfl | rfl <;> rfl
  · cases e
def im_dv (y : Int32) : Option Unit := if y = 0 then none else some ()
theorem im_dv_s {y : Int32} {u : Unit} (e : im_dv y = some u) : ¬ y = 0 := by
  unfold im_dv at e
  split at e
  · cases e
  · assumption
theorem im_bd {α β : Type} {o : Option α} {f : α → Option β} {r : β} (e : o.bind f = some r) : ∃ x, o = some x ∧ f x = some r := by
  cases o with
  | none => cases e
  | some x => exact ⟨x, rfl, e⟩
def im_b2 {α β γ : Type} (o : Option (α × β)) (f : α → β → Option γ) : Option γ := match o with
  | some (a, b) => f a b
  | none => none
theorem im_bd2 {α β γ : Type} {o : Option (α × β)} {f : α → β → Option γ} {r : γ} (e : im_b2 o f = some r) : ∃ a b, o = some (a, b) ∧ f a b = some r := by
  cases o with
  | none => cases e
  | some x => exact ⟨x.1, x.2, rfl, e⟩
theorem im_it {α : Type} {c : Prop} {i : Decidable c} {a b r : α} (h : (@ite α c i a b) = r) (hc : c) : a = r := by rw [if_pos hc] at h; exact h
theorem im_if {α : Type} {c : Prop} {i : Decidable c} {a b r : α} (h : (@ite α c i a b) = r) (hc : ¬ c) : b = r := by rw [if_neg hc] at h; exact h
def im_nul {β : Type} (q : Option Nat) (a : β) (f : Nat → β) : β := match q with
  | none => a
  | some x => f x
theorem im_nul_n {β : Type} {a r : β} {f : Nat → β} (h : im_nul none a f = r) : a = r := h
theorem im_nul_s {β : Type} {x : Nat} {a r : β} {f : Nat → β} (h : im_nul (some x) a f = r) : f x = r := h
def im_i2c (x : Int32) : Int32 := (x.toUInt32 % 65536).toInt32
def im_lshl (x : Int64) (y : Int32) : Int64 := x <<< (y.toInt64 &&& 63)
def im_lushr (x : Int64) (y : Int32) : Int64 := (x.toUInt64 >>> (y.toInt64.toUInt64 &&& Int64.toUInt64 63)).toInt64
def im_rm (f k : Nat) : Room := { frames := f, cells := 0, slots := 0, locals := k }
def im_scr (n : Nat) (xs : Nat → Int32) (i : Int32) : Option Int32 := if i < 0 ∨ n ≤ i.toNatClampNeg then none else some (xs i.toNatClampNeg)
theorem im_scr_s {n : Nat} {xs : Nat → Int32} {i x : Int32} (e : im_scr n xs i = some x) : vp_in i n ∧ x = xs i.toNatClampNeg := by
  unfold im_scr at e
  split at e
  · cases e
  · rename_i h
    cases e
    exact ⟨h, rfl⟩
