/-! the model: maximise, gives -/
section MMX
variable {F : Nat} {σ : pu_S} {lk : List pp_E} {k : pc_C}
theorem pm_up0 {k : pc_C} : nI (pv_n ([] : List Nat)) = (0 : Int32) := by show nI 0 = 0; exact nI_0
theorem pl_or_lt {n : Nat} {a b : Option Nat} (ha : ∀ i, a = some i → i < n) (hb : ∀ i, b = some i → i < n) : ∀ i, pl_or a b = some i → i < n := by
  intro i hi
  cases a with
  | none => exact hb i hi
  | some x => exact ha i hi
theorem pl_if_lt {n : Nat} {c : Prop} [Decidable c] {b : Option Nat} (hb : ∀ i, b = some i → i < n) : ∀ i, (if c then none else b) = some i → i < n := by
  intro i hi
  split at hi
  · cases hi
  · exact hb i hi
theorem pm_pos {n : Nat} (hn : n < 2 ^ 31) {o : Option Nat} (ho : ∀ i, o = some i → i < n) : ((0 : Int32) ≤ pr_n o) ↔ ∃ i, o = some i := pr_n_pos o (fun i hi => by have := ho i hi; omega)
theorem pm_st52 (hF : 62 ≤ F) (hk : pc_gd k) (hl : pm_pd σ 0 lk) (hg : pp_gd lk) {o : Option Nat} (ho : ∀ i, o = some i → i < lk.length) : sh_Model_maximise_52 F 248 (nI (pv_n k.1)) (nI (pv_n k.2.1)) (nI (pv_n k.2.2)) (pr_n o) (pu_mk σ) = sh_Model_maximise_76 F 248 (nI (pv_n k.1)) (nI (pv_n k.2.1)) (nI (pv_n k.2.2)) (pr_n (pl_or o (if k.2.2 = [] then none else pm_ld lk (k.1, [], k.2.2)))) (pu_mk σ) := by
  have h10 := hl.2.1
  have P := pm_pos (n := lk.length) (by omega) ho
  obtain ⟨o1, o2, o3⟩ := pc_gd_vok hk
  unfold sh_Model_maximise_52 sh_Model_maximise_74
  cases o with
  | some i => rw [if_pos (P.mpr ⟨i, rfl⟩)]; rfl
  | none =>
    rw [if_neg (fun z => by obtain ⟨i, hi⟩ := P.mp z; cases hi)]
    by_cases z : k.2.2 = []
    · rw [if_pos ((pv_z0 o3).mpr z), if_pos z]; rfl
    · have L := pm_leads0 (F := F) hF (pc_gd_lr hk) hl hg
      rw [show nI (pv_n (k.1, ([] : List Nat), k.2.2).2.1) = (0 : Int32) from nI_0] at L
      rw [if_neg (fun q => z ((pv_z0 o3).mp q)), if_neg z, pm_i, Option.bind_some]
      rw [show sh_Model_leads F 248 0 (nI (pv_n k.1)) 0 (nI (pv_n k.2.2)) (pu_mk σ) = _ from L, im_b2_s]
      rfl
theorem pm_st76 (hF : 62 ≤ F) (hk : pc_gd k) (hl : pm_pd σ 0 lk) (hg : pp_gd lk) {o : Option Nat} (ho : ∀ i, o = some i → i < lk.length) : sh_Model_maximise_76 F 248 (nI (pv_n k.1)) (nI (pv_n k.2.1)) (nI (pv_n k.2.2)) (pr_n o) (pu_mk σ) = sh_Model_maximise_100 F 248 (nI (pv_n k.1)) (nI (pv_n k.2.1)) (nI (pv_n k.2.2)) (pr_n (pl_or o (if k.2.1 = [] then none else pm_ld lk (k.1, k.2.1, [])))) (pu_mk σ) := by
  have h10 := hl.2.1
  have P := pm_pos (n := lk.length) (by omega) ho
  obtain ⟨o1, o2, o3⟩ := pc_gd_vok hk
  unfold sh_Model_maximise_76 sh_Model_maximise_98
  cases o with
  | some i => rw [if_pos (P.mpr ⟨i, rfl⟩)]; rfl
  | none =>
    rw [if_neg (fun z => by obtain ⟨i, hi⟩ := P.mp z; cases hi)]
    by_cases z : k.2.1 = []
    · rw [if_pos ((pv_z0 o2).mpr z), if_pos z]; rfl
    · have L := pm_leads0 (F := F) hF (pc_gd_ls hk) hl hg
      rw [show nI (pv_n (k.1, k.2.1, ([] : List Nat)).2.2) = (0 : Int32) from nI_0] at L
      rw [if_neg (fun q => z ((pv_z0 o2).mp q)), if_neg z, pm_i, Option.bind_some]
      rw [show sh_Model_leads F 248 0 (nI (pv_n k.1)) (nI (pv_n k.2.1)) 0 (pu_mk σ) = _ from L, im_b2_s]
      rfl
theorem pm_st100 (hF : 62 ≤ F) (hk : pc_gd k) (hl : pm_pd σ 0 lk) (hg : pp_gd lk) {o : Option Nat} (ho : ∀ i, o = some i → i < lk.length) : sh_Model_maximise_100 F 248 (nI (pv_n k.1)) (nI (pv_n k.2.1)) (nI (pv_n k.2.2)) (pr_n o) (pu_mk σ) = sh_Model_maximise_120 F 248 (nI (pv_n k.1)) (nI (pv_n k.2.1)) (nI (pv_n k.2.2)) (pr_n (pl_or o (pm_ld lk (k.1, [], [])))) (pu_mk σ) := by
  have h10 := hl.2.1
  have P := pm_pos (n := lk.length) (by omega) ho
  unfold sh_Model_maximise_100
  cases o with
  | some i => rw [if_pos (P.mpr ⟨i, rfl⟩)]; rfl
  | none =>
    have L := pm_leads0 (F := F) hF (pc_gd_l hk) hl hg
    rw [show nI (pv_n (k.1, ([] : List Nat), ([] : List Nat)).2.2) = (0 : Int32) from nI_0] at L
    rw [if_neg (fun z => by obtain ⟨i, hi⟩ := P.mp z; cases hi), pm_i, Option.bind_some]
    rw [show sh_Model_leads F 248 0 (nI (pv_n k.1)) 0 0 (pu_mk σ) = _ from L, im_b2_s]
    rfl
theorem pm_st120 (hF : 62 ≤ F) (hk : pc_gd k) (hl : pm_pd σ 0 lk) (hg : pp_gd lk) {o : Option Nat} (ho : ∀ i, o = some i → i < lk.length) : sh_Model_maximise_120 F 248 (nI (pv_n k.1)) (nI (pv_n k.2.1)) (nI (pv_n k.2.2)) (pr_n o) (pu_mk σ) = sh_Model_maximise_147 F 248 (nI (pv_n k.1)) (nI (pv_n k.2.1)) (nI (pv_n k.2.2)) (pr_n (pl_or o (if k.2.1 = [] then none else pm_ld lk (pc_und, k.2.1, [])))) (pu_mk σ) := by
  have h10 := hl.2.1
  have P := pm_pos (n := lk.length) (by omega) ho
  obtain ⟨o1, o2, o3⟩ := pc_gd_vok hk
  unfold sh_Model_maximise_120 sh_Model_maximise_145 sh_Model_und
  cases o with
  | some i => rw [if_pos (P.mpr ⟨i, rfl⟩)]; rfl
  | none =>
    rw [if_neg (fun z => by obtain ⟨i, hi⟩ := P.mp z; cases hi)]
    by_cases z : k.2.1 = []
    · rw [if_pos ((pv_z0 o2).mpr z), if_pos z]; rfl
    · have L := pm_leads0 (F := F) hF (pc_gd_us hk) hl hg
      rw [show nI (pv_n (pc_und, k.2.1, ([] : List Nat)).2.2) = (0 : Int32) from nI_0, show nI (pv_n (pc_und, k.2.1, ([] : List Nat)).1) = (29271 : Int32) from by rw [pm_undn]; rfl] at L
      rw [if_neg (fun q => z ((pv_z0 o2).mp q)), if_neg z, pm_i, Option.bind_some, im_b2_s, pm_i, Option.bind_some]
      rw [show sh_Model_leads F 248 0 29271 (nI (pv_n k.2.1)) 0 (pu_mk σ) = _ from L, im_b2_s]
      rfl
theorem pm_st32 (hF : 62 ≤ F) (hk : pc_gd k) (hl : pm_pd σ 0 lk) (hg : pp_gd lk) : sh_Model_maximise_32 F 248 (nI (pv_n k.1)) (nI (pv_n k.2.1)) (nI (pv_n k.2.2)) (pu_mk σ) = sh_Model_maximise_52 F 248 (nI (pv_n k.1)) (nI (pv_n k.2.1)) (nI (pv_n k.2.2)) (pr_n (if k.2.1 = [] ∨ k.2.2 = [] then none else pm_ld lk k)) (pu_mk σ) := by
  obtain ⟨o1, o2, o3⟩ := pc_gd_vok hk
  unfold sh_Model_maximise_32 sh_Model_maximise_51
  by_cases z : k.2.1 = []
  · rw [if_pos ((pv_z0 o2).mpr z), if_pos (Or.inl z)]; rfl
  · rw [if_neg (fun q => z ((pv_z0 o2).mp q))]
    by_cases y : k.2.2 = []
    · rw [if_pos ((pv_z0 o3).mpr y), if_pos (Or.inr y)]; rfl
    · rw [if_neg (fun q => y ((pv_z0 o3).mp q)), if_neg (fun q => q.elim z y), pm_i, Option.bind_some, pm_leads0 hF hk hl hg, im_b2_s]
theorem pl_max_gd (hk : pc_gd k) (hg : pp_gd lk) : pc_gd (pl_max lk k) := by
  unfold pl_max
  split
  · exact hk
  · cases h : pl_i lk k with
    | none => exact hk
    | some i =>
      have hi := pl_i_lt h
      have hm := (pp_gd_get hg hi).2
      show pc_gd (pc_fill k (lk.getD i pp_0).2)
      unfold pc_fill
      have a : pc_gd (if k.1 = pc_und then (lk.getD i pp_0).2 else k) := by split <;> assumption
      have b : pc_gd (if k.2.1 = [] then (lk.getD i pp_0).2 else k) := by split <;> assumption
      have c : pc_gd (if k.2.2 = [] then (lk.getD i pp_0).2 else k) := by split <;> assumption
      have := pc_gd_mix a b c
      have e1 : (if k.1 = pc_und then (lk.getD i pp_0).2 else k).1 = if k.1 = pc_und then (lk.getD i pp_0).2.1 else k.1 := by split <;> rfl
      have e2 : (if k.2.1 = [] then (lk.getD i pp_0).2 else k).2.1 = if k.2.1 = [] then (lk.getD i pp_0).2.2.1 else k.2.1 := by split <;> rfl
      have e3 : (if k.2.2 = [] then (lk.getD i pp_0).2 else k).2.2 = if k.2.2 = [] then (lk.getD i pp_0).2.2.2 else k.2.2 := by split <;> rfl
      rw [e1, e2, e3] at this
      exact this
theorem pm_maximise (hF : 62 ≤ F) (hk : pc_gd k) (hl : pm_pd σ 0 lk) (hg : pp_gd lk) : ∃ τ, sh_Model_maximise F 248 (nI (pv_n k.1)) (nI (pv_n k.2.1)) (nI (pv_n k.2.2)) (pu_mk σ) = some (pu_mk τ) ∧ pm_mx τ (pl_max lk k) ∧ pm_fr (fun _ => False) pm_M σ τ := by
  obtain ⟨o1, o2, o3⟩ := pc_gd_vok hk
  have f0 : pm_fr (fun _ => False) pm_M σ (pu_sI (pu_sI (pu_sI σ 248 28 (nI (pv_n k.1))) 248 29 (nI (pv_n k.2.1))) 248 30 (nI (pv_n k.2.2))) := ((pm_fr.rf.aI (T := pm_M) (k := 28) (by unfold pm_M; decide) _).aI (k := 29) (by unfold pm_M; decide) _).aI (k := 30) (by unfold pm_M; decide) _
  generalize hρ : pu_sI (pu_sI (pu_sI σ 248 28 (nI (pv_n k.1))) 248 29 (nI (pv_n k.2.1))) 248 30 (nI (pv_n k.2.2)) = ρ at f0
  have m0 : pm_mx ρ k := by
    rw [← hρ]
    refine ⟨?_, ?_, ?_⟩ <;> simp [pu_sI]
  have l0 : pm_pd ρ 0 lk := hl.fr f0 (fun _ _ _ z => z)
  have ld : ∀ m : pc_C, ∀ i, pm_ld lk m = some i → i < lk.length := fun m i h => pm_ld_lt h
  have b1 := pl_if_lt (c := k.2.1 = [] ∨ k.2.2 = []) (ld k)
  have b2 := pl_or_lt b1 (pl_if_lt (c := k.2.2 = []) (ld (k.1, [], k.2.2)))
  have b3 := pl_or_lt b2 (pl_if_lt (c := k.2.1 = []) (ld (k.1, k.2.1, [])))
  have b4 := pl_or_lt b3 (ld (k.1, [], []))
  have b5 := pl_or_lt b4 (pl_if_lt (c := k.2.1 = []) (ld (pc_und, k.2.1, [])))
  obtain ⟨τ, e, m, f⟩ := pm_mx147 (F := F) hk l0 hg b5 m0
  have chain : sh_Model_maximise_32 F 248 (nI (pv_n k.1)) (nI (pv_n k.2.1)) (nI (pv_n k.2.2)) (pu_mk ρ) = some (pu_mk τ) := by
    rw [pm_st32 hF hk l0 hg, pm_st52 hF hk l0 hg b1, pm_st76 hF hk l0 hg b2, pm_st100 hF hk l0 hg b3, pm_st120 hF hk l0 hg b4, e]
  unfold sh_Model_maximise sh_Model_und
  rw [pm_p28, Option.bind_some, pm_p29, Option.bind_some, pm_p30, Option.bind_some, hρ]
  have em : ¬ (¬ k.2.1 = [] ∧ ¬ k.2.2 = [] ∧ ¬ k.1 = pc_und) → pm_mx τ (pl_max lk k) := by
    intro hn
    have e : pl_max lk k = pm_fl lk k (pl_i lk k) := by
      unfold pl_max pm_fl
      rw [if_neg hn]
      cases pl_i lk k <;> rfl
    rw [e]
    exact m
  by_cases z : k.2.1 = []
  · rw [if_pos ((pv_z0 o2).mpr z)]
    exact ⟨τ, chain, em (fun q => q.1 z), f0.tr f⟩
  · rw [if_neg (fun q => z ((pv_z0 o2).mp q))]
    by_cases y : k.2.2 = []
    · rw [if_pos ((pv_z0 o3).mpr y)]
      exact ⟨τ, chain, em (fun q => q.2.1 y), f0.tr f⟩
    · rw [if_neg (fun q => y ((pv_z0 o3).mp q)), pm_i, Option.bind_some, im_b2_s]
      by_cases x : k.1 = pc_und
      · rw [if_pos ((pm_undq hk).mpr x)]
        exact ⟨τ, chain, em (fun q => q.2.2 x), f0.tr f⟩
      · rw [if_neg (fun q => x ((pm_undq hk).mp q))]
        refine ⟨ρ, rfl, ?_, f0⟩
        unfold pl_max
        rw [if_pos ⟨z, y, x⟩]
        exact m0
theorem pm_gives (hF : 62 ≤ F) (hk : pc_gd k) {m : pc_C} (hm : pc_gd m) (hl : pm_pd σ 0 lk) (hg : pp_gd lk) : ∃ τ, sh_Model_gives F 248 (nI (pv_n k.1)) (nI (pv_n k.2.1)) (nI (pv_n k.2.2)) (nI (pv_n m.1)) (nI (pv_n m.2.1)) (nI (pv_n m.2.2)) (pu_mk σ) = some (pb_b (decide (pl_max lk k = m)), pu_mk τ) ∧ pm_fr (fun _ => False) pm_M σ τ := by
  obtain ⟨τ, e, x, f⟩ := pm_maximise (F := F) hF hk hl hg
  refine ⟨τ, ?_, f⟩
  have hx := pl_max_gd hk hg
  obtain ⟨a1, a2, a3⟩ := pc_gd_31 hx
  obtain ⟨b1, b2, b3⟩ := pc_gd_31 hm
  have E := pc_gd_eq hx hm
  unfold sh_Model_gives sh_Model_gives_38 sh_Model_gives_39
  rw [pm_i, Option.bind_some, e, Option.bind_some, pm_28, Option.bind_some, x.1]
  by_cases h1 : pv_n (pl_max lk k).1 = pv_n m.1
  · rw [if_pos ((nI_eq a1 b1).mpr h1), pm_29, Option.bind_some, x.2.1]
    by_cases h2 : pv_n (pl_max lk k).2.1 = pv_n m.2.1
    · rw [if_pos ((nI_eq a2 b2).mpr h2), pm_30, Option.bind_some, x.2.2]
      by_cases h3 : pv_n (pl_max lk k).2.2 = pv_n m.2.2
      · rw [if_pos ((nI_eq a3 b3).mpr h3), pb_rz1, decide_eq_true (E.mp ⟨h1, h2, h3⟩)]; rfl
      · rw [if_neg (fun z => h3 ((nI_eq a3 b3).mp z)), pb_rz0, decide_eq_false (fun z => h3 (E.mpr z).2.2)]; rfl
    · rw [if_neg (fun z => h2 ((nI_eq a2 b2).mp z)), pb_rz0, decide_eq_false (fun z => h2 (E.mpr z).2.1)]; rfl
  · rw [if_neg (fun z => h1 ((nI_eq a1 b1).mp z)), pb_rz0, decide_eq_false (fun z => h1 (E.mpr z).1)]; rfl
end MMX
