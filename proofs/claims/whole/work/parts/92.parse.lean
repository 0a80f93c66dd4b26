/-! the model: parse's loop -/
def pm_nb (A : pm_A) : Prop := A.1.1 < 2 ^ 31 ∧ A.1.2.2 < 2 ^ 31
theorem pm_nb_step {ty : List Nat} (hty : ∀ c ∈ ty, c < 128) {A A' : pm_A} {st st' a b : Nat} (h : pm_nb A) (hb : b ≤ ty.length) (he : pm_st ty A st a b = some (st', A')) : pm_nb A' := by
  have hlt : ∀ c ∈ pm_seg ty a b, c < 128 := fun c hc => hty c (List.mem_of_mem_drop (List.mem_of_mem_take hc))
  unfold pm_st at he
  split at he
  · split at he
    · rename_i hl
      cases he
      obtain ⟨a1, a2, a3⟩ := pm_lang_A hlt hl
      have := pv_n_b a1 a2 a3
      exact ⟨by show pv_n (pm_seg ty a b) < 2 ^ 31; omega, h.2⟩
    · cases he
  · split at he
    · split at he
      · cases he; exact h
      · cases he
    · split at he
      · cases he; exact h
      · split at he
        · rename_i hr
          cases he
          have hA := pm_region_A hlt hr.2
          have hr2 := hr.2
          rw [pm_region_eq hlt] at hr2
          have hlen : 2 ≤ (pm_seg ty a b).length ∧ (pm_seg ty a b).length ≤ 3 := by
            rcases of_decide_eq_true hr2 with q | q <;> have := q.1 <;> omega
          have := pv_n_b hA (fun q => by rw [q] at hlen; simp at hlen) (by omega)
          exact ⟨h.1, by show pv_n (pm_seg ty a b) < 2 ^ 31; omega⟩
        · repeat' (split at he)
          all_goals first | (cases he; exact h) | cases he
def pm_run (ty : List Nat) (b : Nat) : Nat → Nat → Nat → Nat → pm_A → Nat ⊕ (Nat × pm_A)
  | 0, st, _, _, A => .inr (st, A)
  | n + 1, st, p, i, A => if i = b ∨ pb_isC (ty.getD i 0) = true then (match pm_st ty A st p i with
    | none => .inl p
    | some r => pm_run ty b n r.1 (i + 1) (i + 1) r.2) else pm_run ty b n st p (i + 1) A
section MPL
variable {F : Nat} {ty : List Nat} {ma : List pm_R}
theorem pm_parse_38 (hF : 62 ≤ F) {b : Nat} (hb : b ≤ ty.length) : ∀ (n f st p i : Nat) (A : pm_A) (σ : pu_S), i + n = b + 1 → n + 1 ≤ f → p ≤ i → pm_ty σ ty → pm_ps σ ty A → pm_al σ ma → pm_iv A st p → pm_nb A → ∃ τ v, sh_Model_parse_38 F f 248 (nI b) (nI st) (nI p) (nI i) (pu_mk σ) = some (v, pu_mk τ) ∧ pm_fr pm_S pm_T σ τ ∧ (match pm_run ty b n st p i A with
    | .inl e => v = nI e
    | .inr r => v = (if r.1 = 4 ∨ r.1 = 6 then nI b else -1) ∧ pm_ps τ ty (pm_fin ma r.2)) := by
  intro n
  induction n with
  | zero =>
    intro f st p i A σ h1 h2 h3 hp hA hm hi hn
    have hl := hp.2.2.1
    obtain ⟨f, rfl⟩ : ∃ g, f = g + 1 := ⟨f - 1, by omega⟩
    have : i = b + 1 := by omega
    subst this
    obtain ⟨τ, e, q1, q2⟩ := pm_parse_end (F := F) hF hA hm hn.1 hn.2 hi.1 (b := b) (by omega) f (nI p)
    exact ⟨τ, _, e, q2, rfl, q1⟩
  | succ n ih =>
    intro f st p i A σ h1 h2 h3 hp hA hm hi hn
    have hl := hp.2.2.1
    obtain ⟨f, rfl⟩ : ∃ g, f = g + 1 := ⟨f - 1, by omega⟩
    have hib : i ≤ b := by omega
    have cb : nI i = nI b ↔ i = b := nI_eq (by omega) (by omega)
    have e74 : pm_run ty b (n + 1) st p i A = (match pm_st ty A st p i with
        | none => .inl p
        | some r => pm_run ty b n r.1 (i + 1) (i + 1) r.2) → ∃ τ v, sh_Model_parse_74 F (sh_Model_parse_38 F f) 248 (nI b) (nI st) (nI p) (nI i) (pu_mk σ) = some (v, pu_mk τ) ∧ pm_fr pm_S pm_T σ τ ∧ (match pm_run ty b (n + 1) st p i A with
        | .inl e => v = nI e
        | .inr r => v = (if r.1 = 4 ∨ r.1 = 6 then nI b else -1) ∧ pm_ps τ ty (pm_fin ma r.2)) := by
      intro hrun
      rw [hrun]
      obtain ⟨σ1, e1, f1, p1⟩ := pm_stand (F := F) hp hF hA hi.1 (by have := hi.2.1; omega) (by have := hi.2.1; omega) (fun k hk => (hi.2.2.1 k hk).1) hi.2.2.2 h3 (show i ≤ ty.length by omega) (fun k hk => by have := hi.2.2.1 k hk; omega)
      unfold sh_Model_parse_74 sh_Model_parse_97
      rw [pm_i, Option.bind_some, e1, im_b2_s]
      cases hst : pm_st ty A st p i with
      | none =>
        refine ⟨σ1, nI p, ?_, f1, rfl⟩
        rw [if_neg (show ¬ (0 : Int32) ≤ pm_o (Option.map (fun x => x.1) (none : Option (Nat × pm_A))) by decide)]
      | some r =>
        obtain ⟨s', A'⟩ := r
        have hi' := pm_iv_step hp.2.2.2 hi h3 (by omega) hst
        have hn' := pm_nb_step hp.2.2.2 hn (by omega) hst
        have h8 := hi'.1
        obtain ⟨τ, v, e2, f2, q2⟩ := ih f s' (i + 1) (i + 1) A' σ1 (by omega) (by omega) (Nat.le_refl _) (hp.fr f1 (by unfold pm_S; omega) (by unfold pm_T; omega)) (p1 s' A' hst) (hm.fr f1 (by unfold pm_T; omega) (fun x h1 h2 => by unfold pm_S; omega)) hi' hn'
        refine ⟨τ, v, ?_, f1.tr f2, q2⟩
        have e3 : pm_o (Option.map (fun x => x.1) (some (s', A'))) = nI s' := rfl
        rw [e3, if_pos (nI_pos' (by omega)), nI_1, e2]
    rw [sh_Model_parse_38, if_neg (nI_nlt hib (by omega))]
    by_cases c1 : i = b
    · rw [if_pos (cb.mpr c1)]
      exact e74 (by rw [pm_run, if_pos (Or.inl c1)])
    · have hk : i < ty.length := by omega
      have hc := pm_tylt hp.2.2.2 i
      have c45 : nI (ty.getD i 0) = (45 : Int32) ↔ ty.getD i 0 = 45 := nI_eq (b := 45) (by omega) (by decide)
      have c95 : nI (ty.getD i 0) = (95 : Int32) ↔ ty.getD i 0 = 95 := nI_eq (b := 95) (by omega) (by decide)
      rw [if_neg (fun q => c1 (cb.mp q)), pm_1, Option.bind_some, pm_at hp hk, Option.bind_some]
      by_cases d1 : ty.getD i 0 = 45
      · rw [if_pos (c45.mpr d1)]
        exact e74 (by rw [pm_run, if_pos (Or.inr (by unfold pb_isC; rw [d1]; rfl))])
      · rw [if_neg (fun q => d1 (c45.mp q)), Option.bind_some, pm_at hp hk, Option.bind_some]
        by_cases d2 : ty.getD i 0 = 95
        · rw [if_pos (c95.mpr d2)]
          exact e74 (by rw [pm_run, if_pos (Or.inr (by unfold pb_isC; rw [d2]; rfl))])
        · have hC : ¬ (i = b ∨ pb_isC (ty.getD i 0) = true) := by
            rintro (q | q)
            · exact c1 q
            · unfold pb_isC at q
              simp only [Bool.or_eq_true, beq_iff_eq] at q
              omega
          rw [if_neg (fun q => d2 (c95.mp q)), pm_run, if_neg hC]
          unfold sh_Model_parse_97
          rw [nI_1]
          exact ih f st p (i + 1) A σ (by omega) (by omega) (by omega) hp hA hm hi hn
end MPL
