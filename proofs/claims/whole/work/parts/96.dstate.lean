/-! the model's state -/
def pm_p1 (σ : pu_S) (p : Nat) (e : pp_E) : Prop := (σ.2.2.1 260 p = nI (pv_n e.1.1) ∧ σ.2.2.1 261 p = nI (pv_n e.1.2.1) ∧ σ.2.2.1 262 p = nI (pv_n e.1.2.2)) ∧ σ.2.2.1 263 p = nI (pv_n e.2.1) ∧ σ.2.2.1 264 p = nI (pv_n e.2.2.1) ∧ σ.2.2.1 265 p = nI (pv_n e.2.2.2)
def pm_pd (σ : pu_S) (d : Nat) (l : List pp_E) : Prop := σ.2.2.1 259 d = nI l.length ∧ l.length ≤ 10 ∧ ∀ i, i < l.length → pm_p1 σ (10 * d + i) (l.getD i pp_0)
def pm_txt (e : pg_E) : List Nat := pf_text [] e.1
def pm_tgn (σ : pu_S) (tg : List pg_E) : Prop := ∀ t, t < tg.length → σ.2.2.1 268 t = nI (pv_n (tg.getD t pg_0).2.1.1) ∧ σ.2.2.1 269 t = nI (pv_n (tg.getD t pg_0).2.1.2.1) ∧ σ.2.2.1 270 t = nI (pv_n (tg.getD t pg_0).2.1.2.2)
def pm_vl (σ : pu_S) (tg : List pg_E) : Prop := ∀ t k, t < 16 → k < 8 → σ.2.2.1 272 (8 * t + k) = pb_b ((tg.getD t pg_0).2.2 k).isSome ∧ ∀ v, (tg.getD t pg_0).2.2 k = some v → σ.2.2.1 271 (8 * t + k) = v
def pm_tg (σ : pu_S) (tg : List pg_E) : Prop := pm_fs σ (tg.map pm_txt) ∧ pm_tgn σ tg ∧ pm_vl σ tg
def rm_is (σ : pu_S) (ty sh : List Nat) (al : List pa_E) (lk pa : List pp_E) (tg : List pg_E) (su : List Nat) (pl : Int32) : Prop := pm_ty σ ty ∧ pm_sh σ sh ∧ pm_al σ (al.map pa_nm) ∧ pm_pd σ 0 lk ∧ pm_pd σ 1 pa ∧ pm_tg σ tg ∧ pm_su σ su ∧ σ.1 248 43 = pl
def pm_X (x : Nat) : Prop := x < 248 ∨ (250 ≤ x ∧ x ≤ 255)
def pm_Z (k : Nat) : Prop := (2 ≤ k ∧ k ≤ 5) ∨ k = 8 ∨ (11 ≤ k ∧ k ≤ 13) ∨ k = 15 ∨ (28 ≤ k ∧ k ≤ 30)
theorem pm_p1.fr {S T : Nat → Prop} {σ τ : pu_S} {p : Nat} {e : pp_E} (h : pm_p1 σ p e) (hf : pm_fr S T σ τ) (h1 : ∀ x, 260 ≤ x → x ≤ 265 → ¬ S x) : pm_p1 τ p e := by
  have g : ∀ x, 260 ≤ x → x ≤ 265 → τ.2.2.1 x p = σ.2.2.1 x p := fun x a b => (hf.1 x (h1 x a b) (by omega) p).2.2.1
  obtain ⟨⟨a, b, c⟩, d, e, f⟩ := h
  exact ⟨⟨(g 260 (by decide) (by decide)).trans a, (g 261 (by decide) (by decide)).trans b, (g 262 (by decide) (by decide)).trans c⟩, (g 263 (by decide) (by decide)).trans d, (g 264 (by decide) (by decide)).trans e, (g 265 (by decide) (by decide)).trans f⟩
theorem pm_pd.fr {S T : Nat → Prop} {σ τ : pu_S} {d : Nat} {l : List pp_E} (h : pm_pd σ d l) (hf : pm_fr S T σ τ) (h1 : ∀ x, 259 ≤ x → x ≤ 265 → ¬ S x) : pm_pd τ d l :=
  ⟨((hf.1 259 (h1 259 (by decide) (by decide)) (by decide) d).2.2.1).trans h.1, h.2.1, fun i hi => (h.2.2 i hi).fr hf (fun x a b => h1 x (by omega) b)⟩
theorem pm_tgn.fr {S T : Nat → Prop} {σ τ : pu_S} {tg : List pg_E} (h : pm_tgn σ tg) (hf : pm_fr S T σ τ) (h1 : ∀ x, 268 ≤ x → x ≤ 270 → ¬ S x) : pm_tgn τ tg := fun t ht => by
  have g : ∀ x, 268 ≤ x → x ≤ 270 → τ.2.2.1 x t = σ.2.2.1 x t := fun x a b => (hf.1 x (h1 x a b) (by omega) t).2.2.1
  obtain ⟨a, b, c⟩ := h t ht
  exact ⟨(g 268 (by decide) (by decide)).trans a, (g 269 (by decide) (by decide)).trans b, (g 270 (by decide) (by decide)).trans c⟩
theorem pm_vl.fr {S T : Nat → Prop} {σ τ : pu_S} {tg : List pg_E} (h : pm_vl σ tg) (hf : pm_fr S T σ τ) (h1 : ∀ x, 271 ≤ x → x ≤ 272 → ¬ S x) : pm_vl τ tg := fun t k ht hk => by
  obtain ⟨a, b⟩ := h t k ht hk
  exact ⟨((hf.1 272 (h1 272 (by decide) (by decide)) (by decide) _).2.2.1).trans a, fun v hv => ((hf.1 271 (h1 271 (by decide) (by decide)) (by decide) _).2.2.1).trans (b v hv)⟩
theorem pm_tg.fr {S T : Nat → Prop} {σ τ : pu_S} {tg : List pg_E} (h : pm_tg σ tg) (hf : pm_fr S T σ τ) (h0 : ¬ T 31) (h1 : ∀ x, 266 ≤ x → x ≤ 272 → ¬ S x) : pm_tg τ tg :=
  ⟨h.1.fr hf h0 (h1 266 (by decide) (by decide)) (h1 267 (by decide) (by decide)), h.2.1.fr hf (fun x a b => h1 x (by omega) (by omega)), h.2.2.fr hf (fun x a b => h1 x (by omega) (by omega))⟩
section RMS
variable {σ τ : pu_S} {ty sh : List Nat} {al : List pa_E} {lk pa : List pp_E} {tg : List pg_E} {su : List Nat} {pl : Int32}
theorem rm_is.fr (h : rm_is σ ty sh al lk pa tg su pl) (hf : pm_fr pm_X pm_Z σ τ) : rm_is τ ty sh al lk pa tg su pl := by
  obtain ⟨a, b, c, d, e, f, g, i⟩ := h
  have nX : ∀ x, 256 ≤ x → ¬ pm_X x := fun x hx z => by unfold pm_X at z; omega
  have nZ : ∀ k, 31 ≤ k → ¬ pm_Z k := fun x hx z => by unfold pm_Z at z; omega
  exact ⟨a.fr hf (fun z => by unfold pm_X at z; omega) (fun z => by unfold pm_Z at z; omega), b.fr hf (nX 274 (by decide)) (nZ 41 (by decide)), c.fr hf (fun z => by unfold pm_Z at z; omega) (fun x h _ => nX x h), d.fr hf (fun x h _ => nX x (by omega)), e.fr hf (fun x h _ => nX x (by omega)), f.fr hf (nZ 31 (by decide)) (fun x h _ => nX x (by omega)), g.fr hf (nX 273 (by decide)) (nZ 39 (by decide)), (hf.2 43 (nZ 43 (by decide))).trans i⟩
theorem pu_fr.pm {S : Nat → Prop} (hf : pu_fr S σ τ) (h : ∀ x, S x → x < 248) : pm_fr pm_X pm_Z σ τ := ⟨fun x hx _ k => hf x (fun z => hx (Or.inl (h x z))) k, fun k _ => (hf 248 (fun z => by have := h 248 z; omega) k).1⟩
/-- the class's calls leave the model alone -/
theorem rm_is.cls {S : Nat → Prop} (h : rm_is σ ty sh al lk pa tg su pl) (hf : pu_fr S σ τ) (hS : ∀ x, S x → x < 248) : rm_is τ ty sh al lk pa tg su pl := h.fr (hf.pm hS)
theorem pm_fr.hi {S T : Nat → Prop} (hf : pm_fr S T σ τ) (h : ∀ x, S x → 248 ≤ x) : pu_fr (fun x => 248 ≤ x) σ τ := fun x hx k => hf.1 x (fun z => hx (h x z)) (fun z => hx (by omega)) k
end RMS
/-! copying characters -/
def pm_cp (σ : pu_S) (h off : Nat) (l : List Nat) : pu_S := (σ.1, σ.2.1, fun a b => if a = h ∧ off ≤ b ∧ b < off + l.length then nI (l.getD (b - off) 0) else σ.2.2.1 a b, σ.2.2.2)
theorem pm_cp0 (σ : pu_S) (h off : Nat) : pm_cp σ h off [] = σ := by
  unfold pm_cp
  have : (fun a b => if a = h ∧ off ≤ b ∧ b < off + ([] : List Nat).length then nI (([] : List Nat).getD (b - off) 0) else σ.2.2.1 a b) = σ.2.2.1 := by
    funext a b
    rw [if_neg (fun z => by have := z.2.2; simp at this; omega)]
  rw [this]
theorem pm_cp1 (σ : pu_S) (h off : Nat) {l : List Nat} {i : Nat} (hi : i < l.length) : pu_sA (pm_cp σ h off (l.take i)) h (off + i) (nI (l.getD i 0)) = pm_cp σ h off (l.take (i + 1)) := by
  have l1 : (l.take i).length = i := by simp; omega
  have l2 : (l.take (i + 1)).length = i + 1 := by simp; omega
  have gt : ∀ n j, j < n → (l.take n).getD j 0 = l.getD j 0 := fun n j hj => by
    rw [List.getD_eq_getElem?_getD, List.getElem?_take_of_lt hj, ← List.getD_eq_getElem?_getD]
  unfold pu_sA pm_cp
  dsimp only
  rw [l1, l2]
  congr 3
  funext a b
  by_cases ha : a = h
  · subst ha
    by_cases hb : b = off + i
    · subst hb
      rw [if_pos ⟨rfl, rfl⟩, if_pos ⟨rfl, by omega, by omega⟩, gt (i + 1) _ (by omega), show off + i - off = i by omega]
    · rw [if_neg (fun z => hb z.2)]
      by_cases hc : off ≤ b ∧ b < off + i
      · rw [if_pos ⟨rfl, hc.1, hc.2⟩, if_pos ⟨rfl, hc.1, by omega⟩, gt i _ (by omega), gt (i + 1) _ (by omega)]
      · rw [if_neg (fun z => hc z.2), if_neg (fun z => hc ⟨z.2.1, by omega⟩)]
  · rw [if_neg (fun z => ha z.1), if_neg (fun z => ha z.1), if_neg (fun z => ha z.1)]
theorem pm_cp_o {σ : pu_S} {h off a : Nat} {l : List Nat} (ha : ¬ a = h) (b : Nat) : (pm_cp σ h off l).2.2.1 a b = σ.2.2.1 a b := by
  unfold pm_cp
  dsimp only
  rw [if_neg (fun z => ha z.1)]
theorem pm_cp_at {σ : pu_S} {h off : Nat} {l : List Nat} {i : Nat} (hi : i < l.length) : (pm_cp σ h off l).2.2.1 h (off + i) = nI (l.getD i 0) := by
  unfold pm_cp
  dsimp only
  rw [if_pos ⟨rfl, by omega, by omega⟩, show off + i - off = i by omega]
theorem pm_cp_fr {S T : Nat → Prop} {σ : pu_S} {h off : Nat} {l : List Nat} (hS : S h) : pm_fr S T σ (pm_cp σ h off l) := ⟨fun x hx _ j => ⟨rfl, rfl, pm_cp_o (fun z : x = h => hx (by rw [z]; exact hS)) j, rfl⟩, fun _ _ => rfl⟩
theorem pm_fm_at {F : Nat} {σ : pu_S} {l : List Nat} (hm : pm_fm σ l) {k : Nat} (hk : k < l.length) : im_lI (pu_mk σ) 2 254 (nI k) = some (nI (l.getD k 0)) := by
  have := hm.2.2.1
  rw [pm_l254 σ (by omega), hm.2.1 k hk]
theorem pm_c128 {l : List Nat} (h : ∀ c ∈ l, c < 128) (k : Nat) : vp_nar .char (nI (l.getD k 0)) = nI (l.getD k 0) := pt_nar (by have := pm_tylt h k; omega)
