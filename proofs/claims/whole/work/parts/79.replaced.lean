/-! the model: replacing -/
abbrev pm_R : Type := Bool × Nat × Nat
def pm_0r : pm_R := (false, 0, 0)
def pm_al (σ : pu_S) (ma : List pm_R) : Prop := σ.1 248 17 = nI ma.length ∧ (∀ i, i < ma.length → σ.2.2.1 256 i = nI (ma.getD i pm_0r).2.1 ∧ σ.2.2.1 257 i = nI (ma.getD i pm_0r).2.2 ∧ σ.2.2.1 258 i = pb_b (ma.getD i pm_0r).1) ∧ ma.length ≤ 8 ∧ ∀ m ∈ ma, m.2.1 < 2 ^ 31 ∧ m.2.2 < 2 ^ 31
theorem pm_al.fr {S T : Nat → Prop} {σ τ : pu_S} {ma : List pm_R} (hp : pm_al σ ma) (hf : pm_fr S T σ τ) (h1 : ¬ T 17) (h2 : ∀ x, 256 ≤ x → x ≤ 258 → ¬ S x) : pm_al τ ma :=
  ⟨(hf.2 17 h1).trans hp.1, fun i hi => ⟨(hf.1 256 (h2 256 (by decide) (by decide)) (by decide) i).2.2.1.trans (hp.2.1 i hi).1, (hf.1 257 (h2 257 (by decide) (by decide)) (by decide) i).2.2.1.trans (hp.2.1 i hi).2.1, (hf.1 258 (h2 258 (by decide) (by decide)) (by decide) i).2.2.1.trans (hp.2.1 i hi).2.2⟩, hp.2.2⟩
def pm_r1 (ma : List pm_R) (r : Bool) (x y : Nat) : Nat := ma.foldl (fun y m => if m.1 = r ∧ m.2.1 = x then m.2.2 else y) y
def pm_rn (ma : List pm_R) (r : Bool) : Nat → Nat → Nat
  | 0, x => x
  | n + 1, x => pm_rn ma r n (pm_r1 ma r x x)
theorem pm_r1_lt {ma : List pm_R} (h : ∀ m ∈ ma, m.2.1 < 2 ^ 31 ∧ m.2.2 < 2 ^ 31) (r : Bool) (x : Nat) : ∀ y, y < 2 ^ 31 → pm_r1 ma r x y < 2 ^ 31 := by
  induction ma with
  | nil => intro y hy; exact hy
  | cons m ma ih =>
    intro y hy
    refine ih (fun k hk => h k (List.mem_cons_of_mem _ hk)) _ ?_
    dsimp only
    split
    · exact (h m List.mem_cons_self).2
    · exact hy
section MRP
variable {F : Nat} {σ : pu_S} {ma : List pm_R}
theorem pm_replaced_18 (hm : pm_al σ ma) (k5 : Nat → Int32 → Int32 → Int32 → im_W → Option (Int32 × im_W)) (r : Bool) {x : Nat} (hx : x < 2 ^ 31) (k : Int32) : ∀ (f i y : Nat), ma.length + 1 ≤ f + i → i ≤ ma.length → sh_Model_replaced_18 F k5 f 248 (pb_b r) (nI x) k (nI y) (nI i) (pu_mk σ) = k5 248 (pb_b r) (nI (pm_r1 (ma.drop i) r x y)) (k + 1) (pu_mk σ) := by
  have hl := hm.2.2.1
  intro f
  induction f with
  | zero => intro i y h1 h2; omega
  | succ f ih =>
    intro i y h1 h2
    have h6 : nI ma.length ≤ nI i ↔ ma.length ≤ i := nI_leI (by omega) (by omega)
    rw [sh_Model_replaced_18, pm_17, Option.bind_some, hm.1]
    by_cases h3 : ma.length ≤ i
    · rw [if_pos (h6.mpr h3), List.drop_eq_nil_of_le h3]
      rfl
    · have hi : i < ma.length := by omega
      obtain ⟨g1, g2, g3⟩ := hm.2.1 i hi
      obtain ⟨g4, g5⟩ := hm.2.2.2 _ (pb_getG pm_0r hi)
      have hq : nI (ma.getD i pm_0r).2.1 = nI x ↔ (ma.getD i pm_0r).2.1 = x := nI_eq g4 hx
      rw [if_neg (fun q => h3 (h6.mp q)), pm_20, Option.bind_some, pm_l258 σ (by omega), Option.bind_some, g3, pb_dropG pm_0r hi]
      unfold sh_Model_replaced_59 sh_Model_replaced_61
      rw [nI_1]
      by_cases c1 : (ma.getD i pm_0r).1 = r
      · rw [if_pos (pb_b_inj.mpr c1), pm_18, Option.bind_some, pm_l256 σ (by omega), Option.bind_some, g1]
        by_cases c2 : (ma.getD i pm_0r).2.1 = x
        · have := ih (i + 1) (ma.getD i pm_0r).2.2 (by omega) (by omega)
          rw [if_pos (hq.mpr c2), pm_19, Option.bind_some, pm_l257 σ (by omega), Option.bind_some, g2, this]
          unfold pm_r1
          rw [List.foldl_cons, if_pos ⟨c1, c2⟩]
        · have := ih (i + 1) y (by omega) (by omega)
          rw [if_neg (fun q => c2 (hq.mp q)), this]
          unfold pm_r1
          rw [List.foldl_cons, if_neg (fun q => c2 q.2)]
      · have := ih (i + 1) y (by omega) (by omega)
        rw [if_neg (fun q => c1 (pb_b_inj.mp q)), this]
        unfold pm_r1
        rw [List.foldl_cons, if_neg (fun q => c1 q.1)]
theorem pm_replaced_5 (hm : pm_al σ ma) (hF : 62 ≤ F) (r : Bool) : ∀ (n f x : Nat), n ≤ 9 → n + 1 ≤ f → x < 2 ^ 31 → sh_Model_replaced_5 F f 248 (pb_b r) (nI x) (nI (9 - n)) (pu_mk σ) = some (nI (pm_rn ma r n x), pu_mk σ) := by
  have hl := hm.2.2.1
  intro n
  induction n with
  | zero =>
    intro f x h1 h2 hx
    obtain ⟨f, rfl⟩ : ∃ g, f = g + 1 := ⟨f - 1, by omega⟩
    rw [sh_Model_replaced_5, if_pos (by decide)]
    rfl
  | succ n ih =>
    intro f x h1 h2 hx
    obtain ⟨f, rfl⟩ : ∃ g, f = g + 1 := ⟨f - 1, by omega⟩
    have c9 : (9 : Int32) ≤ nI (9 - (n + 1)) ↔ 9 ≤ 9 - (n + 1) := nI_leI (a := 9) (by decide) (by omega)
    have e := pm_replaced_18 (F := F) hm (sh_Model_replaced_5 F f) r hx (nI (9 - (n + 1))) F 0 x (by omega) (by omega)
    rw [nI_0] at e
    rw [sh_Model_replaced_5, if_neg (fun q => by have := c9.mp q; omega), e, List.drop_zero, nI_1, show 9 - (n + 1) + 1 = 9 - n by omega]
    exact ih f _ (by omega) (by omega) (pm_r1_lt hm.2.2.2 r x x hx)
theorem pm_replaced (hm : pm_al σ ma) (hF : 62 ≤ F) (r : Bool) {x : Nat} (hx : x < 2 ^ 31) : sh_Model_replaced F 248 (nI x) (pb_b r) (pu_mk σ) = some (nI (pm_rn ma r 9 x), pu_mk σ) := by
  have := pm_replaced_5 (F := F) hm hF r 9 F x (by omega) (by omega) hx
  unfold sh_Model_replaced
  rw [show 9 - 9 = 0 from rfl, nI_0] at this
  exact this
theorem pm_rn_lt (hm : ∀ m ∈ ma, m.2.1 < 2 ^ 31 ∧ m.2.2 < 2 ^ 31) (r : Bool) : ∀ n x, x < 2 ^ 31 → pm_rn ma r n x < 2 ^ 31 := by
  intro n
  induction n with
  | zero => intro x hx; exact hx
  | succ n ih => intro x hx; exact ih _ (pm_r1_lt hm r x x hx)
end MRP
