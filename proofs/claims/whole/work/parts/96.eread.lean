/-! the model: read -/
theorem pm_tg_add {σ : pu_S} {tg : List pg_E} (h : pm_tg σ tg) (hc : tg.length < 16) {e : pg_E} (he : ∀ k, e.2.2 k = none) (hl : (pm_txt e).length ≤ 80) (h128 : ∀ c ∈ pm_txt e, c < 128) : pm_tg (pu_sI (pu_sA (pu_sA (pu_sA (pu_sA (pm_cp σ 266 (80 * tg.length) (pm_txt e)) 267 tg.length (nI (pm_txt e).length)) 268 tg.length (nI (pv_n e.2.1.1))) 269 tg.length (nI (pv_n e.2.1.2.1))) 270 tg.length (nI (pv_n e.2.1.2.2))) 248 31 (nI (tg.length + 1))) (tg ++ [e]) := by
  obtain ⟨⟨f1, f2, f3, f4⟩, g, v⟩ := h
  refine ⟨⟨by simp [pu_sI], by simp; omega, fun t ht => ?_, fun x hx => ?_⟩, fun t ht => ?_, fun t k ht hk => ?_⟩
  · have ht : t < tg.length + 1 := by simpa using ht
    have hget : ((tg ++ [e]).map pm_txt).getD t [] = if t = tg.length then pm_txt e else (tg.map pm_txt).getD t [] := by
      rw [List.map_append]
      have := pb_appG (l := tg.map pm_txt) (i := t) (d := ([] : List Nat)) (x := pm_txt e) (by simpa using ht)
      rw [List.length_map] at this
      exact this
    rw [hget]
    by_cases htl : t = tg.length
    · subst htl
      rw [if_pos rfl]
      refine ⟨by simp [pu_sI, pu_sA], fun i hi => ?_⟩
      have := pm_cp_at (σ := σ) (h := 266) (off := 80 * tg.length) hi
      simp [pu_sI, pu_sA]
      simpa using this
    · rw [if_neg htl]
      have hlt : t < (tg.map pm_txt).length := by simp; omega
      obtain ⟨a, b⟩ := f3 t hlt
      have hx80 := (f4 _ (pb_getG [] hlt)).1
      refine ⟨by simp [pu_sI, pu_sA, htl]; rw [pm_cp_o (by decide)]; simpa using a, fun i hi => ?_⟩
      have e1 : (pm_cp σ 266 (80 * tg.length) (pm_txt e)).2.2.1 266 (80 * t + i) = σ.2.2.1 266 (80 * t + i) := by
        unfold pm_cp
        dsimp only
        rw [if_neg (fun z => by omega)]
      have e2 := b i hi
      show (pm_cp σ 266 (80 * tg.length) (pm_txt e)).2.2.1 266 (80 * t + i) = _
      rw [e1, e2]
  · obtain ⟨y, hy, rfl⟩ := List.mem_map.mp hx
    rcases List.mem_append.mp hy with hy | hy
    · exact f4 _ (List.mem_map_of_mem hy)
    · rw [List.mem_singleton] at hy
      subst hy
      exact ⟨hl, h128⟩
  · have ht : t < tg.length + 1 := by simpa using ht
    rw [pb_appG ht]
    by_cases htl : t = tg.length
    · subst htl
      rw [if_pos rfl]
      simp [pu_sI, pu_sA]
    · rw [if_neg htl]
      obtain ⟨a, b, c⟩ := g t (by omega)
      refine ⟨?_, ?_, ?_⟩
      · simp [pu_sI, pu_sA, htl]; rw [pm_cp_o (by decide)]; simpa using a
      · simp [pu_sI, pu_sA, htl]; rw [pm_cp_o (by decide)]; simpa using b
      · simp [pu_sI, pu_sA, htl]; rw [pm_cp_o (by decide)]; simpa using c
  · have hv := v t k ht hk
    have e1 : ((tg ++ [e]).getD t pg_0).2.2 k = (tg.getD t pg_0).2.2 k := by
      by_cases ht2 : t < tg.length + 1
      · rw [pb_appG ht2]
        by_cases htl : t = tg.length
        · subst htl
          rw [if_pos rfl, he k, List.getD_eq_getElem?_getD, List.getElem?_eq_none (Nat.le_refl _)]
          rfl
        · rw [if_neg htl]
      · rw [List.getD_eq_getElem?_getD, List.getElem?_eq_none (by simp; omega), List.getD_eq_getElem?_getD, List.getElem?_eq_none (by omega)]
    rw [e1]
    exact hv
section MRD
variable {F : Nat} {σ : pu_S} {ty sh : List Nat} {al : List pa_E} {lk pa : List pp_E} {tg : List pg_E} {su : List Nat} {pl : Int32}
theorem pm_rd57 {l : List Nat} (hm : pm_fm σ l) {c : Nat} (hc : σ.1 248 31 = nI c) (hc16 : c < 16) : ∀ (n f i : Nat), i + n = l.length → n + 1 ≤ f → sh_Model_read_57 F f 248 (nI i) (pu_mk (pm_cp σ 266 (80 * c) (l.take i))) = sh_Model_read_57 F 1 248 (nI l.length) (pu_mk (pm_cp σ 266 (80 * c) l)) := by
  have hl := hm.2.2.1
  intro n
  induction n with
  | zero =>
    intro f i hi hf
    obtain ⟨g, rfl⟩ : ∃ g, f = g + 1 := ⟨f - 1, by omega⟩
    have hi' : i = l.length := by omega
    subst hi'
    rw [List.take_length, sh_Model_read_57, sh_Model_read_57, pm_13, Option.bind_some, Option.bind_some, show (pm_cp σ 266 (80 * c) l).1 248 13 = nI l.length from hm.1, if_pos (nI_le (Nat.le_refl _) (by omega)), if_pos (nI_le (Nat.le_refl _) (by omega))]
  | succ n ih =>
    intro f i hi hf
    obtain ⟨g, rfl⟩ : ∃ g, f = g + 1 := ⟨f - 1, by omega⟩
    have hil : i < l.length := by omega
    have ix : (80 : Int32) * nI c + nI i = nI (80 * c + i) := by
      rw [show (80 : Int32) * nI c = nI (80 * c) from pn_mul 80 c, nI_add]
    have src : im_lI (pu_mk (pm_cp σ 266 (80 * c) (l.take i))) 2 254 (nI i) = some (nI (l.getD i 0)) := by
      rw [pm_l254 _ (by omega), pm_cp_o (by decide), hm.2.1 i hil]
    rw [sh_Model_read_57, pm_13, Option.bind_some, show (pm_cp σ 266 (80 * c) (l.take i)).1 248 13 = nI l.length from hm.1, if_neg (show ¬ nI l.length ≤ nI i from fun z => by rw [nI_leI (by omega) (by omega)] at z; omega), pm_32, Option.bind_some, pm_31, Option.bind_some, show (pm_cp σ 266 (80 * c) (l.take i)).1 248 31 = nI c from hc, pm_14, Option.bind_some, src, Option.bind_some, ix, pm_c128 hm.2.2.2, pm_t266 _ _ (show 80 * c + i < 1280 by omega), Option.bind_some, nI_1, pm_cp1 σ 266 (80 * c) hil]
    exact ih g (i + 1) (by omega) (by omega)
theorem pm_rd57e {l : List Nat} (hm : pm_fm σ l) {c : Nat} (hc : σ.1 248 31 = nI c) (hc16 : c < 16) {n1 n2 n3 : Int32} (h2 : σ.1 248 2 = n1) (h3 : σ.1 248 3 = n2) (h4 : σ.1 248 4 = n3) : sh_Model_read_57 F 1 248 (nI l.length) (pu_mk (pm_cp σ 266 (80 * c) l)) = some (nI c, pu_mk (pu_sI (pu_sA (pu_sA (pu_sA (pu_sA (pm_cp σ 266 (80 * c) l) 267 c (nI l.length)) 268 c n1) 269 c n2) 270 c n3) 248 31 (nI (c + 1)))) := by
  have hl := hm.2.2.1
  generalize hρ : pm_cp σ 266 (80 * c) l = ρ
  have r13 : ρ.1 248 13 = nI l.length := by rw [← hρ]; exact hm.1
  have r31 : ρ.1 248 31 = nI c := by rw [← hρ]; exact hc
  have r2 : ρ.1 248 2 = n1 := by rw [← hρ]; exact h2
  have r3 : ρ.1 248 3 = n2 := by rw [← hρ]; exact h3
  have r4 : ρ.1 248 4 = n3 := by rw [← hρ]; exact h4
  have q1 : ∀ k, (pu_sA ρ 267 c (nI l.length)).1 248 k = ρ.1 248 k := fun k => rfl
  have q2 : ∀ k, (pu_sA (pu_sA ρ 267 c (nI l.length)) 268 c n1).1 248 k = ρ.1 248 k := fun k => rfl
  have q3 : ∀ k, (pu_sA (pu_sA (pu_sA ρ 267 c (nI l.length)) 268 c n1) 269 c n2).1 248 k = ρ.1 248 k := fun k => rfl
  have q4 : ∀ k, (pu_sA (pu_sA (pu_sA (pu_sA ρ 267 c (nI l.length)) 268 c n1) 269 c n2) 270 c n3).1 248 k = ρ.1 248 k := fun k => rfl
  have q5 : (pu_sI (pu_sA (pu_sA (pu_sA (pu_sA ρ 267 c (nI l.length)) 268 c n1) 269 c n2) 270 c n3) 248 31 (nI (c + 1))).1 248 31 = nI (c + 1) := by simp [pu_sI]
  have e1 : nI (c + 1) - (1 : Int32) = nI c := by
    have := pn_sub (a := c + 1) (b := 1) (by omega)
    exact this
  rw [sh_Model_read_57, pm_13, Option.bind_some, r13, if_pos (nI_le (Nat.le_refl _) (by omega)), pm_33, Option.bind_some, pm_31, Option.bind_some, r31, Option.bind_some, pm_t267 _ _ hc16, Option.bind_some, pm_34, Option.bind_some, pm_31, Option.bind_some, q1, r31, pm_2, Option.bind_some, q1, r2, pm_t268 _ _ hc16, Option.bind_some, pm_35, Option.bind_some, pm_31, Option.bind_some, q2, r31, pm_3, Option.bind_some, q2, r3, pm_t269 _ _ hc16, Option.bind_some, pm_36, Option.bind_some, pm_31, Option.bind_some, q3, r31, pm_4, Option.bind_some, q3, r4, pm_t270 _ _ hc16, Option.bind_some, pm_31, Option.bind_some, q4, r31, nI_1, pm_p31, Option.bind_some, pm_31, Option.bind_some, q5, e1]
end MRD
