/-! the model: putting characters into the form -/
def pm_fm (σ : pu_S) (l : List Nat) : Prop := σ.1 248 13 = nI l.length ∧ (∀ i, i < l.length → σ.2.2.1 254 i = nI (l.getD i 0)) ∧ l.length ≤ 80 ∧ ∀ c ∈ l, c < 128
theorem pm_fm.fr {S T : Nat → Prop} {σ τ : pu_S} {l : List Nat} (hp : pm_fm σ l) (hf : pm_fr S T σ τ) (h1 : ¬ S 254) (h2 : ¬ T 13) : pm_fm τ l :=
  ⟨(hf.2 13 h2).trans hp.1, fun i hi => (hf.1 254 h1 (by decide) i).2.2.1.trans (hp.2.1 i hi), hp.2.2⟩
def pm_pc (c : Nat) : Nat := if c = 95 then 45 else pt_low c
def pv_c (n : Nat) : Nat := if n ≤ 26 then n + 96 else n + 21
def pv_u (c : Nat) : Nat := if 97 ≤ c ∧ c ≤ 122 then c - 32 else c
section MPU
variable {F : Nat} {σ : pu_S} {ty l : List Nat}
theorem pm_putChar (hp : pm_fm σ l) {c : Nat} (hc : c < 128) (hl : l.length < 80) : ∃ τ, sh_Model_putChar F 248 (nI c) (pu_mk σ) = some (pu_mk τ) ∧ pm_fm τ (l ++ [c]) ∧ pm_fr (fun x => x = 254) (fun k => k = 13) σ τ := by
  refine ⟨pu_sI (pu_sA σ 254 l.length (nI c)) 248 13 (nI (l.length + 1)), ?_, ⟨by simp [pu_sI], fun i hi => ?_, by simp; omega, fun x hx => ?_⟩, pm_fr.tr (τ := pu_sA σ 254 l.length (nI c)) (pm_fr.sA (S := fun x => x = 254) (h := 254) rfl) (pm_fr.sI (T := fun k => k = 13) rfl)⟩
  · have e : (pu_sA σ 254 l.length (nI c)).1 248 13 = nI l.length := hp.1
    unfold sh_Model_putChar
    rw [pm_14, Option.bind_some, pm_13, Option.bind_some, hp.1, pt_nar (by omega), pm_t254 σ _ hl, Option.bind_some, pm_13, Option.bind_some, e, nI_1, pm_p13, Option.bind_some]
  · have hi : i < l.length + 1 := by simpa using hi
    rw [pb_appG hi]
    by_cases hil : i = l.length
    · subst hil
      simp [pu_sI, pu_sA]
    · have h7 := hp.2.1 i (by omega)
      rw [if_neg hil]
      simpa [pu_sI, pu_sA, hil] using h7
  · rcases List.mem_append.mp hx with hx | hx
    · exact hp.2.2.2 x hx
    · simp at hx
      omega
theorem pm_character {n : Nat} (h1 : 1 ≤ n) (hn : n ≤ 36) (m : Nat) (w : im_W) : sh_Model_character F m (nI n) w = some (nI (pv_c n), w) := by
  have c : (26 : Int32) < nI n ↔ 26 < n := nI_ltI (a := 26) (by decide) (by omega)
  unfold sh_Model_character sh_Model_character_24 pv_c
  by_cases h : 26 < n
  · have e1 : (48 : Int32) + nI n = nI (48 + n) := nI_add 48 n
    have e2 : nI (48 + n) - (27 : Int32) = nI (48 + n - 27) := pn_sub (b := 27) (by omega)
    rw [if_pos (c.mpr h), e1, e2, pn_i2c (by omega), pb_rc (by omega), if_neg (by omega), show 48 + n - 27 = n + 21 by omega]
  · have e1 : (97 : Int32) + nI n = nI (97 + n) := nI_add 97 n
    have e2 : nI (97 + n) - (1 : Int32) = nI (97 + n - 1) := pn_sub (b := 1) (by omega)
    rw [if_neg (fun q => h (c.mp q)), e1, e2, pn_i2c (by omega), pb_rc (by omega), if_pos (by omega), show 97 + n - 1 = n + 96 by omega]
theorem pm_capital {c : Nat} (hc : c < 128) (m : Nat) (w : im_W) : sh_Model_capital F m (nI c) w = some (nI (pv_u c), w) := by
  have h1 : nI c < (97 : Int32) ↔ c < 97 := nI_ltI (b := 97) (by omega) (by decide)
  have h2 : (122 : Int32) < nI c ↔ 122 < c := nI_ltI (a := 122) (by decide) (by omega)
  unfold sh_Model_capital sh_Model_capital_20 sh_Model_capital_21 pv_u
  by_cases a : c < 97
  · rw [if_pos (h1.mpr a), pb_rc (by omega), if_neg (by omega)]
  · rw [if_neg (fun q => a (h1.mp q))]
    by_cases b : 122 < c
    · rw [if_pos (h2.mpr b), pb_rc (by omega), if_neg (by omega)]
    · have e2 : nI c - (32 : Int32) = nI (c - 32) := pn_sub (b := 32) (by omega)
      rw [if_neg (fun q => b (h2.mp q)), e2, pn_i2c (by omega), pb_rc (by omega), if_pos (by omega)]
theorem pm_pc_lt {c : Nat} (hc : c < 128) : pm_pc c < 128 := by
  unfold pm_pc
  split
  · omega
  · exact pm_low_lt hc
theorem pm_putTyped_8 {b : Nat} (hb : b ≤ ty.length) : ∀ (f k : Nat) (σ : pu_S) (l : List Nat), b + 1 ≤ f + k → k ≤ b → pm_ty σ ty → pm_fm σ l → l.length + (b - k) ≤ 80 → ∃ τ, sh_Model_putTyped_8 F f 248 (nI b) (nI k) (pu_mk σ) = some (pu_mk τ) ∧ pm_fm τ (l ++ (pm_seg ty k b).map pm_pc) ∧ pm_fr (fun x => x = 254) (fun k => k = 13) σ τ := by
  intro f
  induction f with
  | zero => intro k σ l h1 h2; omega
  | succ f ih =>
    intro k σ l h1 h2 hp hm hl
    have hty := hp.2.2.1
    have h6 : nI b ≤ nI k ↔ b ≤ k := nI_leI (by omega) (by omega)
    rw [sh_Model_putTyped_8]
    by_cases h3 : b ≤ k
    · have : k = b := by omega
      subst this
      rw [if_pos (h6.mpr h3), pm_seg_nil]
      exact ⟨σ, rfl, by simpa using hm, pm_fr.rf⟩
    · have hk : k < ty.length := by omega
      have hc := pm_tylt hp.2.2.2 k
      have hq : nI (ty.getD k 0) = (95 : Int32) ↔ ty.getD k 0 = 95 := nI_eq (b := 95) (by omega) (by decide)
      obtain ⟨σ1, e1, p1, f1⟩ := pm_putChar (F := F) hm (pm_pc_lt hc) (by omega)
      obtain ⟨τ, e2, p2, f2⟩ := ih (k + 1) σ1 (l ++ [pm_pc (ty.getD k 0)]) (by omega) (by omega) (hp.fr f1 (by decide) (by decide)) p1 (by simp; omega)
      refine ⟨τ, ?_, ?_, f1.tr f2⟩
      · rw [if_neg (fun q => h3 (h6.mp q)), pm_1, Option.bind_some, pm_at hp hk, Option.bind_some]
        unfold sh_Model_putTyped_40
        by_cases h9 : ty.getD k 0 = 95
        · have e3 : pm_pc (ty.getD k 0) = 45 := by unfold pm_pc; rw [if_pos h9]
          rw [e3] at e1
          have e1 : sh_Model_putChar F 248 (45 : Int32) (pu_mk σ) = some (pu_mk σ1) := e1
          rw [if_pos (hq.mpr h9), pm_i, Option.bind_some, e1, Option.bind_some, nI_1, e2]
        · have e3 : pm_pc (ty.getD k 0) = pt_low (ty.getD k 0) := by unfold pm_pc; rw [if_neg h9]
          rw [e3] at e1
          rw [if_neg (fun q => h9 (hq.mp q)), Option.bind_some, pm_at hp hk, Option.bind_some, pm_i, Option.bind_some, pm_small (by omega), im_b2_s, pm_i, Option.bind_some, e1, Option.bind_some, nI_1, e2]
      · rw [pm_seg_cons (show k < b by omega) hb, List.map_cons]
        simpa using p2
theorem pm_putTyped (hp : pm_ty σ ty) (hm : pm_fm σ l) (hF : 62 ≤ F) {a b : Nat} (hab : a ≤ b) (hb : b ≤ ty.length) (hl : l.length + 1 + (b - a) ≤ 80) : ∃ τ, sh_Model_putTyped F 248 (nI a) (nI b) (pu_mk σ) = some (pu_mk τ) ∧ pm_fm τ (l ++ 45 :: (pm_seg ty a b).map pm_pc) ∧ pm_fr (fun x => x = 254) (fun k => k = 13) σ τ := by
  have hty := hp.2.2.1
  obtain ⟨σ1, e1, p1, f1⟩ := pm_putChar (F := F) hm (c := 45) (by decide) (by omega)
  have e1 : sh_Model_putChar F 248 (45 : Int32) (pu_mk σ) = some (pu_mk σ1) := e1
  obtain ⟨τ, e2, p2, f2⟩ := pm_putTyped_8 (F := F) hb F a σ1 (l ++ [45]) (by omega) hab (hp.fr f1 (by decide) (by decide)) p1 (by simp; omega)
  refine ⟨τ, ?_, by simpa using p2, f1.tr f2⟩
  unfold sh_Model_putTyped
  rw [pm_i, Option.bind_some, e1, Option.bind_some, e2]
end MPU
