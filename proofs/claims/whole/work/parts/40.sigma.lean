/-! the world behind the constructors: its shape never changes; what changes are the numbers σ -/
abbrev pu_S : Type := (Nat → Nat → Int32) × (Nat → Nat → Int64) × (Nat → Nat → Int32) × (Nat → Nat → Int64)
abbrev pu_K : Type := (Nat × Nat) ⊕ (Nat × List Nat)
def pu_L0 : List pu_K := [.inr (8, [3, 5, 7, 10, 14, 77, 140, 144, 241, 242, 245, 248, 249, 0, 0, 0]), .inr (7, [4, 0]), .inl (2, 60), .inr (7, [6, 0]), .inl (2, 62), .inr (5, [8, 9, 0]), .inl (1, 30), .inl (0, 30), .inr (0, [11, 12, 13, 0]), .inl (1, 8), .inl (1, 8), .inl (3, 8), .inr (4, [15, 16, 0]), .inl (5, 10), .inl (5, 10), .inr (2, [18, 19, 0]), .inr (1, [1, 1, 1]), .inl (1, 3), .inr (2, [21, 22, 0]), .inr (1, [1, 1, 1]), .inl (1, 3), .inr (2, [24, 25, 0]), .inr (1, [1, 1, 1]), .inl (1, 3), .inr (2, [27, 28, 0])]
def pu_L1 : List pu_K := [.inr (1, [1, 1, 1]), .inl (1, 3), .inr (2, [30, 31, 0]), .inr (1, [1, 1, 1]), .inl (1, 3), .inr (2, [33, 34, 0]), .inr (1, [1, 1, 1]), .inl (1, 3), .inr (2, [36, 37, 0]), .inr (1, [1, 1, 1]), .inl (1, 3), .inr (2, [39, 40, 0]), .inr (1, [1, 1, 1]), .inl (1, 3), .inr (2, [42, 43, 0]), .inr (1, [1, 1, 1]), .inl (1, 3), .inr (2, [45, 46, 0]), .inr (1, [1, 1, 1]), .inl (1, 3), .inr (2, [48, 49, 0]), .inr (1, [1, 1, 1]), .inl (1, 3), .inr (2, [51, 52, 0]), .inr (1, [1, 1, 1])]
def pu_L2 : List pu_K := [.inl (1, 3), .inr (2, [54, 55, 0]), .inr (1, [1, 1, 1]), .inl (1, 3), .inr (2, [57, 58, 0]), .inr (1, [1, 1, 1]), .inl (1, 3), .inr (2, [60, 61, 0]), .inr (1, [1, 1, 1]), .inl (1, 3), .inr (2, [63, 64, 0]), .inr (1, [1, 1, 1]), .inl (1, 3), .inr (2, [66, 67, 0]), .inr (1, [1, 1, 1]), .inl (1, 3), .inr (2, [69, 70, 0]), .inr (1, [1, 1, 1]), .inl (1, 3), .inr (2, [72, 73, 0]), .inr (1, [1, 1, 1]), .inl (1, 3), .inr (2, [75, 76, 0]), .inr (1, [1, 1, 1]), .inl (1, 3)]
def pu_L3 : List pu_K := [.inr (4, [78, 79, 0]), .inl (5, 10), .inl (5, 10), .inr (2, [81, 82, 0]), .inr (1, [1, 1, 1]), .inl (1, 3), .inr (2, [84, 85, 0]), .inr (1, [1, 1, 1]), .inl (1, 3), .inr (2, [87, 88, 0]), .inr (1, [1, 1, 1]), .inl (1, 3), .inr (2, [90, 91, 0]), .inr (1, [1, 1, 1]), .inl (1, 3), .inr (2, [93, 94, 0]), .inr (1, [1, 1, 1]), .inl (1, 3), .inr (2, [96, 97, 0]), .inr (1, [1, 1, 1]), .inl (1, 3), .inr (2, [99, 100, 0]), .inr (1, [1, 1, 1]), .inl (1, 3), .inr (2, [102, 103, 0])]
def pu_L4 : List pu_K := [.inr (1, [1, 1, 1]), .inl (1, 3), .inr (2, [105, 106, 0]), .inr (1, [1, 1, 1]), .inl (1, 3), .inr (2, [108, 109, 0]), .inr (1, [1, 1, 1]), .inl (1, 3), .inr (2, [111, 112, 0]), .inr (1, [1, 1, 1]), .inl (1, 3), .inr (2, [114, 115, 0]), .inr (1, [1, 1, 1]), .inl (1, 3), .inr (2, [117, 118, 0]), .inr (1, [1, 1, 1]), .inl (1, 3), .inr (2, [120, 121, 0]), .inr (1, [1, 1, 1]), .inl (1, 3), .inr (2, [123, 124, 0]), .inr (1, [1, 1, 1]), .inl (1, 3), .inr (2, [126, 127, 0]), .inr (1, [1, 1, 1])]
def pu_L5 : List pu_K := [.inl (1, 3), .inr (2, [129, 130, 0]), .inr (1, [1, 1, 1]), .inl (1, 3), .inr (2, [132, 133, 0]), .inr (1, [1, 1, 1]), .inl (1, 3), .inr (2, [135, 136, 0]), .inr (1, [1, 1, 1]), .inl (1, 3), .inr (2, [138, 139, 0]), .inr (1, [1, 1, 1]), .inl (1, 3), .inr (3, [14, 141, 142, 143]), .inr (1, [1, 1, 1]), .inr (1, [1, 1, 1]), .inr (1, [1, 1, 1]), .inl (4, 16), .inr (6, [146, 149, 150, 0]), .inr (2, [147, 148, 0]), .inr (1, [1, 1, 1]), .inl (1, 30), .inl (0, 8), .inl (3, 8), .inr (6, [152, 155, 156, 0])]
def pu_L6 : List pu_K := [.inr (2, [153, 154, 0]), .inr (1, [1, 1, 1]), .inl (1, 30), .inl (0, 8), .inl (3, 8), .inr (6, [158, 161, 162, 0]), .inr (2, [159, 160, 0]), .inr (1, [1, 1, 1]), .inl (1, 30), .inl (0, 8), .inl (3, 8), .inr (6, [164, 167, 168, 0]), .inr (2, [165, 166, 0]), .inr (1, [1, 1, 1]), .inl (1, 30), .inl (0, 8), .inl (3, 8), .inr (6, [170, 173, 174, 0]), .inr (2, [171, 172, 0]), .inr (1, [1, 1, 1]), .inl (1, 30), .inl (0, 8), .inl (3, 8), .inr (6, [176, 179, 180, 0]), .inr (2, [177, 178, 0])]
def pu_L7 : List pu_K := [.inr (1, [1, 1, 1]), .inl (1, 30), .inl (0, 8), .inl (3, 8), .inr (6, [182, 185, 186, 0]), .inr (2, [183, 184, 0]), .inr (1, [1, 1, 1]), .inl (1, 30), .inl (0, 8), .inl (3, 8), .inr (6, [188, 191, 192, 0]), .inr (2, [189, 190, 0]), .inr (1, [1, 1, 1]), .inl (1, 30), .inl (0, 8), .inl (3, 8), .inr (6, [194, 197, 198, 0]), .inr (2, [195, 196, 0]), .inr (1, [1, 1, 1]), .inl (1, 30), .inl (0, 8), .inl (3, 8), .inr (6, [200, 203, 204, 0]), .inr (2, [201, 202, 0]), .inr (1, [1, 1, 1])]
def pu_L8 : List pu_K := [.inl (1, 30), .inl (0, 8), .inl (3, 8), .inr (6, [206, 209, 210, 0]), .inr (2, [207, 208, 0]), .inr (1, [1, 1, 1]), .inl (1, 30), .inl (0, 8), .inl (3, 8), .inr (6, [212, 215, 216, 0]), .inr (2, [213, 214, 0]), .inr (1, [1, 1, 1]), .inl (1, 30), .inl (0, 8), .inl (3, 8), .inr (6, [218, 221, 222, 0]), .inr (2, [219, 220, 0]), .inr (1, [1, 1, 1]), .inl (1, 30), .inl (0, 8), .inl (3, 8), .inr (6, [224, 227, 228, 0]), .inr (2, [225, 226, 0]), .inr (1, [1, 1, 1]), .inl (1, 30)]
def pu_L9 : List pu_K := [.inl (0, 8), .inl (3, 8), .inr (6, [230, 233, 234, 0]), .inr (2, [231, 232, 0]), .inr (1, [1, 1, 1]), .inl (1, 30), .inl (0, 8), .inl (3, 8), .inr (6, [236, 239, 240, 0]), .inr (2, [237, 238, 0]), .inr (1, [1, 1, 1]), .inl (1, 30), .inl (0, 8), .inl (3, 8), .inl (0, 16), .inr (2, [243, 244, 0]), .inr (1, [1, 1, 1]), .inl (1, 30), .inr (2, [246, 247, 0]), .inr (1, [1, 1, 1]), .inl (1, 30), .inr (1, [1, 1, 1]), .inr (1, [1, 1, 1]), .inr (9, [0, 251, 0, 0, 0, 0, 252, 253, 0, 254, 255, 0, 0, 0, 256, 0, 257, 0, 258, 259, 260, 261, 262, 263, 264, 265, 266, 267, 0, 0, 0, 0, 268, 269, 270, 271, 272, 273, 274, 0, 275, 0, 276, 0]), .inl (2, 60)]
def pu_L10 : List pu_K := [.inl (0, 32), .inl (0, 32), .inl (0, 32), .inl (0, 32), .inl (2, 80), .inl (2, 80), .inl (0, 8), .inl (0, 8), .inl (3, 8), .inl (0, 2), .inl (0, 20), .inl (0, 20), .inl (0, 20), .inl (0, 20), .inl (0, 20), .inl (0, 20), .inl (2, 1280), .inl (0, 16), .inl (0, 16), .inl (0, 16), .inl (0, 16), .inl (0, 128), .inl (3, 128), .inl (0, 16), .inl (2, 80)]
def pu_L : List pu_K := pu_L0 ++ (pu_L1 ++ (pu_L2 ++ (pu_L3 ++ (pu_L4 ++ (pu_L5 ++ (pu_L6 ++ (pu_L7 ++ (pu_L8 ++ (pu_L9 ++ (pu_L10))))))))))
def pu_sk (h : Nat) : Option pu_K := pu_L[h]?
theorem pu_len : pu_L.length = 275 := by decide +kernel
def pu_ref (h j : Nat) : Option Nat :=
  if h = 142 then (if j < 16 then some (143 + 6 * j) else none)
  else if h = 13 then (if j < 10 then some (15 + 6 * j) else none)
  else if h = 14 then (if j < 10 then some (18 + 6 * j) else none)
  else if h = 76 then (if j < 10 then some (78 + 6 * j) else none)
  else if h = 77 then (if j < 10 then some (81 + 6 * j) else none)
  else none
def pu_f (σ : pu_S) (h k c : Nat) : Value := if c = 0 then .int (σ.1 h k) else if c = 1 then .long (σ.2.1 h k) else .ref (c - 2)
def pu_fs (σ : pu_S) (h : Nat) (l : List Nat) : List Value := (List.range l.length).map (fun k => pu_f σ h k (l.getD k 0))
def pu_c (σ : pu_S) (h : Nat) : im_E := match pu_sk h with
  | some (.inl (t, n)) => .inl (t, n, if t = 1 then .inr (.inl (σ.2.2.2 h)) else if 4 ≤ t then .inr (.inr (.inr (.inr (pu_ref h)))) else .inl (σ.2.2.1 h))
  | some (.inr (ci, l)) => .inr (ci, pu_fs σ h l)
  | none => .inr (0, [])
def pu_mk (σ : pu_S) : im_W := (275, pu_c σ)
def pu_sI (σ : pu_S) (h k : Nat) (v : Int32) : pu_S := (fun a b => if a = h ∧ b = k then v else σ.1 a b, σ.2.1, σ.2.2.1, σ.2.2.2)
def pu_sJ (σ : pu_S) (h k : Nat) (v : Int64) : pu_S := (σ.1, fun a b => if a = h ∧ b = k then v else σ.2.1 a b, σ.2.2.1, σ.2.2.2)
def pu_sA (σ : pu_S) (h k : Nat) (v : Int32) : pu_S := (σ.1, σ.2.1, fun a b => if a = h ∧ b = k then v else σ.2.2.1 a b, σ.2.2.2)
def pu_sB (σ : pu_S) (h k : Nat) (v : Int64) : pu_S := (σ.1, σ.2.1, σ.2.2.1, fun a b => if a = h ∧ b = k then v else σ.2.2.2 a b)
theorem pu_lt {h : Nat} {x : pu_K} (hs : pu_sk h = some x) : h < 275 := by
  have h1 := (List.getElem?_eq_some_iff.mp hs).1
  rw [pu_len] at h1
  exact h1
theorem pu_ob {σ : pu_S} {h ci : Nat} {l : List Nat} (hs : pu_sk h = some (.inr (ci, l))) : im_ob (pu_mk σ) ci h = some (pu_fs σ h l) := by
  have h1 := pu_lt hs
  simp [im_ob, pu_mk, pu_c, hs, h1]
theorem pu_fsk {σ : pu_S} {h k c : Nat} {l : List Nat} (hk : l[k]? = some c) : (pu_fs σ h l)[k]? = some (pu_f σ h k c) := by
  obtain ⟨h1, h2⟩ := List.getElem?_eq_some_iff.mp hk
  simp [pu_fs, h1, h2]
theorem pu_fd {σ : pu_S} {h ci k c : Nat} {l : List Nat} (hs : pu_sk h = some (.inr (ci, l))) (hk : l[k]? = some c) : im_fd (pu_mk σ) ci h k = some (pu_f σ h k c) := by
  simp [im_fd, pu_ob hs, pu_fsk hk]
theorem pu_is {h ci : Nat} {l : List Nat} (hs : pu_sk h = some (.inr (ci, l))) (σ : pu_S) : im_is (pu_mk σ) ci h = some () := by
  simp [im_is, pu_ob hs]
theorem pu_gI {h ci k : Nat} {l : List Nat} (hs : pu_sk h = some (.inr (ci, l))) (hk : l[k]? = some 0) (σ : pu_S) : im_gI (pu_mk σ) ci h k = some (σ.1 h k) := by
  simp [im_gI, pu_fd hs hk, pu_f]
theorem pu_gL {h ci k : Nat} {l : List Nat} (hs : pu_sk h = some (.inr (ci, l))) (hk : l[k]? = some 1) (σ : pu_S) : im_gL (pu_mk σ) ci h k = some (σ.2.1 h k) := by
  simp [im_gL, pu_fd hs hk, pu_f]
theorem pu_gR {h ci k c : Nat} {l : List Nat} (hs : pu_sk h = some (.inr (ci, l))) (hk : l[k]? = some (c + 2)) (σ : pu_S) : im_gR (pu_mk σ) ci h k = some c := by
  simp [im_gR, pu_fd hs hk, pu_f]
theorem pu_cI {σ : pu_S} {h k j : Nat} {v : Int32} (hj : ¬ j = h) : pu_c (pu_sI σ h k v) j = pu_c σ j := by
  have e : ∀ l, pu_fs (pu_sI σ h k v) j l = pu_fs σ j l := fun l => by
    simp [pu_fs, pu_f, pu_sI, hj]
  unfold pu_c
  simp only [e]
  simp [pu_sI]
theorem pu_cJ {σ : pu_S} {h k j : Nat} {v : Int64} (hj : ¬ j = h) : pu_c (pu_sJ σ h k v) j = pu_c σ j := by
  have e : ∀ l, pu_fs (pu_sJ σ h k v) j l = pu_fs σ j l := fun l => by
    simp [pu_fs, pu_f, pu_sJ, hj]
  unfold pu_c
  simp only [e]
  simp [pu_sJ]
theorem pu_cA {σ : pu_S} {h k j : Nat} {v : Int32} (hj : ¬ j = h) : pu_c (pu_sA σ h k v) j = pu_c σ j := by
  have e : ∀ l, pu_fs (pu_sA σ h k v) j l = pu_fs σ j l := fun l => by
    simp [pu_fs, pu_f, pu_sA]
  have e2 : (pu_sA σ h k v).2.2.1 j = σ.2.2.1 j := by
    funext b
    simp [pu_sA, hj]
  unfold pu_c
  simp only [e, e2]
  simp [pu_sA]
theorem pu_cB {σ : pu_S} {h k j : Nat} {v : Int64} (hj : ¬ j = h) : pu_c (pu_sB σ h k v) j = pu_c σ j := by
  have e : ∀ l, pu_fs (pu_sB σ h k v) j l = pu_fs σ j l := fun l => by
    simp [pu_fs, pu_f, pu_sB]
  have e2 : (pu_sB σ h k v).2.2.2 j = σ.2.2.2 j := by
    funext b
    simp [pu_sB, hj]
  unfold pu_c
  simp only [e, e2]
  simp [pu_sB]
theorem pu_upd {σ σ' : pu_S} {h : Nat} {x : im_E} (h1 : pu_c σ' h = x) (h2 : ∀ j, ¬ j = h → pu_c σ' j = pu_c σ j) : im_up (pu_mk σ) h x = pu_mk σ' := by
  unfold im_up pu_mk
  congr 1
  funext j
  by_cases hj : j = h
  · subst hj
    rw [if_pos rfl, h1]
  · rw [if_neg hj, h2 j hj]
theorem pu_pI {h ci k : Nat} {l : List Nat} (hs : pu_sk h = some (.inr (ci, l))) (hk : l[k]? = some 0) (σ : pu_S) (v : Int32) : im_pV (pu_mk σ) ci h k (.int v) = some (pu_mk (pu_sI σ h k v)) := by
  have hl := (List.getElem?_eq_some_iff.mp hk).1
  have hn : k < (pu_fs σ h l).length := by simpa [pu_fs] using hl
  simp only [im_pV, pu_ob hs]
  rw [if_pos hn]
  congr 1
  refine pu_upd ?_ (fun j hj => pu_cI hj)
  simp only [pu_c, hs]
  congr 2
  refine List.ext_getElem? fun i => ?_
  by_cases hi : i < l.length
  · by_cases hik : i = k
    · subst hik
      rw [List.getElem?_set_self hn]
      have h2 := (List.getElem?_eq_some_iff.mp hk).2
      simp [pu_fs, hi, h2, pu_f, pu_sI]
    · rw [List.getElem?_set_ne (fun q => hik q.symm)]
      simp [pu_fs, hi, pu_f, pu_sI, hik]
  · rw [List.getElem?_eq_none (by simp [pu_fs]; omega), List.getElem?_eq_none (by simp [pu_fs]; omega)]
theorem pu_pL {h ci k : Nat} {l : List Nat} (hs : pu_sk h = some (.inr (ci, l))) (hk : l[k]? = some 1) (σ : pu_S) (v : Int64) : im_pV (pu_mk σ) ci h k (.long v) = some (pu_mk (pu_sJ σ h k v)) := by
  have hl := (List.getElem?_eq_some_iff.mp hk).1
  have hn : k < (pu_fs σ h l).length := by simpa [pu_fs] using hl
  simp only [im_pV, pu_ob hs]
  rw [if_pos hn]
  congr 1
  refine pu_upd ?_ (fun j hj => pu_cJ hj)
  simp only [pu_c, hs]
  congr 2
  refine List.ext_getElem? fun i => ?_
  by_cases hi : i < l.length
  · by_cases hik : i = k
    · subst hik
      rw [List.getElem?_set_self hn]
      have h2 := (List.getElem?_eq_some_iff.mp hk).2
      simp [pu_fs, hi, h2, pu_f, pu_sJ]
    · rw [List.getElem?_set_ne (fun q => hik q.symm)]
      simp [pu_fs, hi, pu_f, pu_sJ, hik]
  · rw [List.getElem?_eq_none (by simp [pu_fs]; omega), List.getElem?_eq_none (by simp [pu_fs]; omega)]
theorem pu_arI {h t n : Nat} (hs : pu_sk h = some (.inl (t, n))) (ht : ¬ t = 1 ∧ t < 4) (σ : pu_S) : im_ar (pu_mk σ) t h = some (n, .inl (σ.2.2.1 h)) := by
  have h1 := pu_lt hs
  have h2 : ¬ 4 ≤ t := by omega
  simp [im_ar, pu_mk, pu_c, hs, h1, ht.1, h2]
theorem pu_arL {h n : Nat} (hs : pu_sk h = some (.inl (1, n))) (σ : pu_S) : im_ar (pu_mk σ) 1 h = some (n, .inr (.inl (σ.2.2.2 h))) := by
  have h1 := pu_lt hs
  simp [im_ar, pu_mk, pu_c, hs, h1]
theorem pu_arQ {h t n : Nat} (hs : pu_sk h = some (.inl (t, n))) (ht : 4 ≤ t) (σ : pu_S) : im_ar (pu_mk σ) t h = some (n, .inr (.inr (.inr (.inr (pu_ref h))))) := by
  have h1 := pu_lt hs
  have h2 : ¬ t = 1 := by omega
  simp [im_ar, pu_mk, pu_c, hs, h1, ht, h2]
theorem pu_lI {h t n : Nat} (hs : pu_sk h = some (.inl (t, n))) (ht : ¬ t = 1 ∧ t < 4) (σ : pu_S) (i : Int32) : im_lI (pu_mk σ) t h i = if i < 0 ∨ n ≤ i.toNatClampNeg then none else some (σ.2.2.1 h i.toNatClampNeg) := by
  simp only [im_lI, pu_arI hs ht]
theorem pu_lL {h n : Nat} (hs : pu_sk h = some (.inl (1, n))) (σ : pu_S) (i : Int32) : im_lL (pu_mk σ) 1 h i = if i < 0 ∨ n ≤ i.toNatClampNeg then none else some (σ.2.2.2 h i.toNatClampNeg) := by
  simp only [im_lL, pu_arL hs]
theorem pu_lR {h t n : Nat} (hs : pu_sk h = some (.inl (t, n))) (ht : 4 ≤ t) (σ : pu_S) (i : Int32) : im_lR (pu_mk σ) t h i = if i < 0 ∨ n ≤ i.toNatClampNeg then none else pu_ref h i.toNatClampNeg := by
  simp only [im_lR, im_lQ, pu_arQ hs ht]
  by_cases hc : i < 0 ∨ n ≤ i.toNatClampNeg
  · simp [hc]
  · simp only [hc, if_false]
    cases pu_ref h i.toNatClampNeg <;> rfl
theorem pu_ln {h t n : Nat} (hs : pu_sk h = some (.inl (t, n))) (σ : pu_S) : im_len (pu_mk σ) t h = some (Int32.ofNat n) := by
  have h1 := pu_lt hs
  simp [im_len, im_ar, pu_mk, pu_c, hs, h1]
theorem pu_stI {h t n : Nat} (hs : pu_sk h = some (.inl (t, n))) (ht : ¬ t = 1 ∧ t < 4) (σ : pu_S) (i x : Int32) : im_sI (pu_mk σ) t h i x = if i < 0 ∨ n ≤ i.toNatClampNeg then none else some (pu_mk (pu_sA σ h i.toNatClampNeg x)) := by
  have h2 : ¬ 4 ≤ t := by omega
  simp only [im_sI, pu_arI hs ht]
  congr 2
  refine pu_upd ?_ (fun j hj => pu_cA hj)
  simp only [pu_c, hs, ht.1, h2, if_false]
  congr 4
  funext b
  simp [pu_sA, upd]
theorem pu_stL {h n : Nat} (hs : pu_sk h = some (.inl (1, n))) (σ : pu_S) (i : Int32) (x : Int64) : im_sL (pu_mk σ) 1 h i x = if i < 0 ∨ n ≤ i.toNatClampNeg then none else some (pu_mk (pu_sB σ h i.toNatClampNeg x)) := by
  simp only [im_sL, pu_arL hs]
  congr 2
  refine pu_upd ?_ (fun j hj => pu_cB hj)
  simp only [pu_c, hs, if_true]
  congr 5
  funext b
  simp [pu_sB, vp_updL]
