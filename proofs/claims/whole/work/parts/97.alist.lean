/-! worlds as lists of cells: the constructors -/
def pw_0 : im_E := .inr (0, [])
def pw (L : List im_E) : im_W := (L.length, fun k => L.getD k pw_0)
theorem pw_nil : im_w0 = pw [] := rfl
theorem pw_al (L : List im_E) (e : im_E) : im_al (pw L) e = some (L.length, pw (L ++ [e])) := by
  unfold im_al im_push pw
  have : (fun j => if j = L.length then e else L.getD j pw_0) = fun k => (L ++ [e]).getD k pw_0 := by
    funext j
    rw [List.getD_eq_getElem?_getD, List.getD_eq_getElem?_getD]
    by_cases h : j = L.length
    · subst h
      rw [if_pos rfl, List.getElem?_append_right (Nat.le_refl _)]
      simp
    · rw [if_neg h]
      by_cases h2 : j < L.length
      · rw [List.getElem?_append_left h2]
      · rw [List.getElem?_eq_none (by omega), List.getElem?_eq_none (by simp; omega)]
  show some (L.length, (L.length + 1, fun j => if j = L.length then e else L.getD j pw_0)) = _
  rw [this, List.length_append]
  rfl
theorem pw_get {A B : List im_E} {x : im_E} : (A ++ x :: B).getD A.length pw_0 = x := by
  rw [List.getD_eq_getElem?_getD, List.getElem?_append_right (Nat.le_refl _)]
  simp
theorem pw_up {A B : List im_E} {x y : im_E} : im_up (pw (A ++ x :: B)) A.length y = pw (A ++ y :: B) := by
  unfold im_up pw
  have hl : (A ++ x :: B).length = (A ++ y :: B).length := by simp
  dsimp only
  rw [hl]
  congr 1
  funext j
  by_cases h : j = A.length
  · subst h
    rw [if_pos rfl, pw_get]
  · rw [if_neg h, List.getD_eq_getElem?_getD, List.getD_eq_getElem?_getD]
    by_cases h2 : j < A.length
    · rw [List.getElem?_append_left h2, List.getElem?_append_left h2]
    · obtain ⟨d, hd⟩ : ∃ d, j - A.length = d + 1 := ⟨j - A.length - 1, by omega⟩
      rw [List.getElem?_append_right (by omega), List.getElem?_append_right (by omega), hd]
      rfl
theorem pw_ob {A B : List im_E} {ci : Nat} {fs : List Value} : im_ob (pw (A ++ .inr (ci, fs) :: B)) ci A.length = some fs := by
  unfold im_ob
  have h : A.length < (pw (A ++ .inr (ci, fs) :: B)).1 := by
    show A.length < (A ++ .inr (ci, fs) :: B).length
    simp
  have e : (pw (A ++ .inr (ci, fs) :: B)).2 A.length = .inr (ci, fs) := pw_get
  rw [if_pos h, e]
  show (if ci = ci then some fs else none) = some fs
  rw [if_pos rfl]
theorem pw_pV {A B : List im_E} {ci k : Nat} {fs : List Value} (v : Value) (hk : k < fs.length) : im_pV (pw (A ++ .inr (ci, fs) :: B)) ci A.length k v = some (pw (A ++ .inr (ci, fs.set k v) :: B)) := by
  unfold im_pV
  rw [pw_ob]
  show (if k < fs.length then some (im_up (pw (A ++ .inr (ci, fs) :: B)) A.length (.inr (ci, fs.set k v))) else none) = _
  rw [if_pos hk, pw_up]
theorem pw_gR {A B : List im_E} {ci k r : Nat} {fs : List Value} (hk : fs[k]? = some (.ref r)) : im_gR (pw (A ++ .inr (ci, fs) :: B)) ci A.length k = some r := by
  unfold im_gR im_fd
  rw [pw_ob]
  show (match fs[k]? with
    | some (.ref x) => some x
    | _ => none) = some r
  rw [hk]
theorem pw_sz {L : List im_E} {n : Nat} (h : L.length = n) : im_sz (pw L) n = some () := by
  unfold im_sz
  exact if_pos h
def pw_rf (f : Nat → Option Nat) (t n : Nat) : im_E := .inl (t, n, .inr (.inr (.inr (.inr f))))
theorem pw_sR {A B C : List im_E} {t n ci : Nat} {f : Nat → Option Nat} {fs : List Value} {i : Int32} (hi : ¬ (i < 0 ∨ n ≤ i.toNatClampNeg)) {v : Nat} (hv : v = (A ++ pw_rf f t n :: B).length) : im_sR (pw ((A ++ pw_rf f t n :: B) ++ .inr (ci, fs) :: C)) t A.length i ci v = some (pw ((A ++ pw_rf (va_up f i.toNatClampNeg (some v)) t n :: B) ++ .inr (ci, fs) :: C)) := by
  have ob : im_ob (pw ((A ++ pw_rf f t n :: B) ++ .inr (ci, fs) :: C)) ci v = some fs := by rw [hv]; exact pw_ob
  have ar : im_ar (pw ((A ++ pw_rf f t n :: B) ++ .inr (ci, fs) :: C)) t A.length = some (n, .inr (.inr (.inr (.inr f)))) := by
    rw [List.append_assoc, List.cons_append]
    unfold im_ar
    have h : A.length < (pw (A ++ pw_rf f t n :: (B ++ .inr (ci, fs) :: C))).1 := by
      show A.length < (A ++ pw_rf f t n :: (B ++ .inr (ci, fs) :: C)).length
      simp
    have e : (pw (A ++ pw_rf f t n :: (B ++ .inr (ci, fs) :: C))).2 A.length = pw_rf f t n := pw_get
    rw [if_pos h, e]
    show (if t = t then some (n, _) else none) = _
    rw [if_pos rfl]
  unfold im_sR
  rw [ar, ob]
  show (if i < 0 ∨ n ≤ i.toNatClampNeg then none else some (im_up _ A.length (.inl (t, n, .inr (.inr (.inr (.inr (va_up f i.toNatClampNeg (some v))))))))) = _
  rw [if_neg hi, List.append_assoc, List.cons_append, pw_up, List.append_assoc, List.cons_append]
  rfl
def pw_ai (t n : Nat) : im_E := .inl (t, n, .inl (fun _ => 0))
def pw_aj (n : Nat) : im_E := .inl (1, n, .inr (.inl (fun _ => 0)))
def pw_core : im_E := .inr (1, [.long 0, .long 0, .long 0])
def pw_text (n p : Nat) : List im_E := [.inr (7, [.ref (p + 1), .int 0]), pw_ai 2 n]
def pw_read (p : Nat) : List im_E := [.inr (5, [.ref (p + 1), .ref (p + 2), .int 0]), pw_aj 30, pw_ai 0 30]
def pw_alia (p : Nat) : List im_E := [.inr (0, [.ref (p + 1), .ref (p + 2), .ref (p + 3), .int 0]), pw_aj 8, pw_aj 8, pw_ai 3 8]
def pw_form (n p : Nat) : List im_E := [.inr (2, [.ref (p + 1), .ref (p + 2), .int 0]), pw_core, pw_aj n]
section PWC
variable {F : Nat} (A : List im_E)
theorem pw_L1 (x : im_E) : (A ++ [x]).length = A.length + 1 := by simp
theorem pw_L2 (x y : im_E) : (A ++ [x, y]).length = A.length + 2 := by simp
theorem pw_L3 (x y z : im_E) : (A ++ [x, y, z]).length = A.length + 3 := by simp
theorem pw_S1 (x y : im_E) : A ++ [x] ++ [y] = A ++ [x, y] := by simp
theorem pw_S2 (x y z : im_E) : A ++ [x, y] ++ [z] = A ++ [x, y, z] := by simp
theorem pw_S3 (x y z u : im_E) : A ++ [x, y, z] ++ [u] = A ++ [x, y, z, u] := by simp
theorem pw_t60 : sh_Text_init_60 F A.length (pw (A ++ [.inr (7, df0_Text)])) = some (pw (A ++ pw_text 60 A.length)) := by
  unfold sh_Text_init_60 df0_Text
  rw [pw_al, im_b2_s, pw_S1, pw_L1, pw_pV _ (by simp), Option.bind_some, pw_pV _ (by simp), Option.bind_some]
  rfl
theorem pw_t62 : sh_Text_init_62 F A.length (pw (A ++ [.inr (7, df0_Text)])) = some (pw (A ++ pw_text 62 A.length)) := by
  unfold sh_Text_init_62 df0_Text
  rw [pw_al, im_b2_s, pw_S1, pw_L1, pw_pV _ (by simp), Option.bind_some, pw_pV _ (by simp), Option.bind_some]
  rfl
theorem pw_rd : sh_Reader_init F A.length (pw (A ++ [.inr (5, df0_Reader)])) = some (pw (A ++ pw_read A.length)) := by
  unfold sh_Reader_init df0_Reader
  rw [pw_al, im_b2_s, pw_S1, pw_L1, pw_pV _ (by simp), Option.bind_some, pw_al, im_b2_s, pw_S2, pw_L2, pw_pV _ (by simp), Option.bind_some, pw_pV _ (by simp), Option.bind_some]
  rfl
theorem pw_als : sh_Aliases_init F A.length (pw (A ++ [.inr (0, df0_Aliases)])) = some (pw (A ++ pw_alia A.length)) := by
  unfold sh_Aliases_init df0_Aliases
  rw [pw_al, im_b2_s, pw_S1, pw_L1, pw_pV _ (by simp), Option.bind_some, pw_al, im_b2_s, pw_S2, pw_L2, pw_pV _ (by simp), Option.bind_some, pw_al, im_b2_s, pw_S3, pw_L3, pw_pV _ (by simp), Option.bind_some, pw_pV _ (by simp), Option.bind_some]
  rfl
theorem pw_cr : sh_Core_init F A.length (pw (A ++ [.inr (1, df0_Core)])) = some (pw (A ++ [pw_core])) := by
  unfold sh_Core_init df0_Core
  rw [pw_pV _ (by simp), Option.bind_some, pw_pV _ (by simp), Option.bind_some, pw_pV _ (by simp), Option.bind_some]
  rfl
theorem pw_f3 : sh_Form_init_3 F A.length (pw (A ++ [.inr (2, df0_Form)])) = some (pw (A ++ pw_form 3 A.length)) := by
  unfold sh_Form_init_3
  rw [pw_al, im_b2_s, pw_cr, Option.bind_some, pw_sz (by simp [pw]), Option.bind_some, pw_S1, pw_L1]
  unfold df0_Form
  rw [pw_pV _ (by simp), Option.bind_some, pw_al, im_b2_s, pw_S2, pw_L2, pw_pV _ (by simp), Option.bind_some, pw_pV _ (by simp), Option.bind_some]
  rfl
theorem pw_f30 : sh_Form_init_30 F A.length (pw (A ++ [.inr (2, df0_Form)])) = some (pw (A ++ pw_form 30 A.length)) := by
  unfold sh_Form_init_30
  rw [pw_al, im_b2_s, pw_cr, Option.bind_some, pw_sz (by simp [pw]), Option.bind_some, pw_S1, pw_L1]
  unfold df0_Form
  rw [pw_pV _ (by simp), Option.bind_some, pw_al, im_b2_s, pw_S2, pw_L2, pw_pV _ (by simp), Option.bind_some, pw_pV _ (by simp), Option.bind_some]
  rfl
end PWC
