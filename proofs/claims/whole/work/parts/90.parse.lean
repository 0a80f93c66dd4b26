/-! the model: what cutting keeps -/
def pm_iv (A : pm_A) (st p : Nat) : Prop := st < 8 ∧ 2 * (A.2.1.length + A.2.2.1.length) ≤ p ∧ (∀ k ∈ A.2.2.1, k.1 + 2 ≤ k.2 ∧ k.2 ≤ p) ∧ (st = 5 → 1 ≤ A.2.2.1.length)
theorem pm_iv_step {ty : List Nat} (hty : ∀ c ∈ ty, c < 128) {A A' : pm_A} {st st' a b : Nat} (h : pm_iv A st a) (hab : a ≤ b) (hb : b ≤ ty.length) (he : pm_st ty A st a b = some (st', A')) : pm_iv A' st' (b + 1) := by
  obtain ⟨h1, h2, h3, h4⟩ := h
  have hlt : ∀ c ∈ pm_seg ty a b, c < 128 := fun c hc => hty c (List.mem_of_mem_drop (List.mem_of_mem_take hc))
  have h3' : ∀ k ∈ A.2.2.1, k.1 + 2 ≤ k.2 ∧ k.2 ≤ b + 1 := fun k hk => ⟨(h3 k hk).1, by have := (h3 k hk).2; omega⟩
  unfold pm_st at he
  split at he
  · split at he
    · cases he
      exact ⟨by decide, by show 2 * (A.2.1.length + A.2.2.1.length) ≤ b + 1; omega, h3', fun q => by omega⟩
    · cases he
  · split at he
    · split at he
      · cases he
        exact ⟨by decide, by show 2 * (A.2.1.length + A.2.2.1.length) ≤ b + 1; omega, h3', fun q => by omega⟩
      · cases he
    · split at he
      · cases he
        exact ⟨by decide, by show 2 * (A.2.1.length + A.2.2.1.length) ≤ b + 1; omega, h3', fun q => by omega⟩
      · split at he
        · cases he
          exact ⟨by decide, by show 2 * (A.2.1.length + A.2.2.1.length) ≤ b + 1; omega, h3', fun q => by omega⟩
        · split at he
          · cases he
            exact ⟨by decide, by show 2 * (A.2.1.length + A.2.2.1.length) ≤ b + 1; omega, h3', fun q => by omega⟩
          · split at he
            · split at he
              · cases he
                exact ⟨by decide, by omega, h3', fun q => by omega⟩
              · split at he
                · rename_i hv
                  cases he
                  have := hv.1
                  rw [pm_variant_eq hlt, pm_seg_len hb] at this
                  have hl := (of_decide_eq_true this).2
                  refine ⟨by decide, ?_, h3', fun q => by omega⟩
                  show 2 * ((A.2.1 ++ [(a, b)]).length + A.2.2.1.length) ≤ b + 1
                  rw [List.length_append, List.length_singleton]
                  omega
                · cases he
            · split at he
              · rename_i hv
                cases he
                have hks := h4 hv.1
                have := hv.2
                rw [pm_type_eq, pm_seg_len hb] at this
                have hl := of_decide_eq_true this
                refine ⟨by decide, ?_, fun k hk => ?_, fun _ => ?_⟩
                · show 2 * (A.2.1.length + (pm_ext A.2.2.1 b).length) ≤ b + 1
                  unfold pm_ext
                  rw [List.length_set]
                  omega
                · rcases List.mem_or_eq_of_mem_set hk with hk | rfl
                  · exact h3' k hk
                  · have := h3 _ (pb_getG pm_0p (show A.2.2.1.length - 1 < A.2.2.1.length by omega))
                    exact ⟨by show (A.2.2.1.getD (A.2.2.1.length - 1) pm_0p).1 + 2 ≤ b; omega, by show b ≤ b + 1; omega⟩
                · show 1 ≤ (pm_ext A.2.2.1 b).length
                  unfold pm_ext
                  rw [List.length_set]
                  exact hks
              · split at he
                · rename_i hv
                  cases he
                  have := hv.1
                  rw [pm_key_eq hlt, pm_seg_len hb] at this
                  have hl := (of_decide_eq_true this).1
                  refine ⟨by decide, ?_, fun k hk => ?_, fun _ => ?_⟩
                  · show 2 * (A.2.1.length + (A.2.2.1 ++ [(a, b)]).length) ≤ b + 1
                    rw [List.length_append, List.length_singleton]
                    omega
                  · rcases List.mem_append.mp hk with hk | hk
                    · exact h3' k hk
                    · simp at hk
                      rw [hk]
                      exact ⟨by show a + 2 ≤ b; omega, by show b ≤ b + 1; omega⟩
                  · show 1 ≤ (A.2.2.1 ++ [(a, b)]).length
                    rw [List.length_append, List.length_singleton]
                    omega
                · cases he
