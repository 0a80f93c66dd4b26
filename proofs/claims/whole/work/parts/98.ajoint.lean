/-! the two sides together -/
def jn (σ : pu_S) (ty sh : List Nat) (al : List pa_E) (lk pa : List pp_E) (tg : List pg_E) (su : List Nat) (pl : Int32) : Prop := rc_is σ ty sh al lk pa tg su pl ∧ rm_is σ ty sh al lk pa tg su pl ∧ pa_gd al ∧ pp_gd lk ∧ pp_gd pa ∧ (∀ e ∈ tg, pg_gd e) ∧ su.Nodup
def jj (σ : pu_S) : Prop := ∃ ty sh al lk pa tg su pl, jn σ ty sh al lk pa tg su pl
theorem jn_nd {l : List Nat} (h : l.Nodup) {n : Nat} (hn : ∀ x ∈ l, x < n) : l.length ≤ n := by
  have := pq_pig l.length (List.range n) (fun i => l.getD i 0) (fun i hi => List.mem_range.mpr (hn _ (pb_getG 0 hi))) (fun i j hij hj he => ?_)
  · rwa [List.length_range] at this
  · unfold List.Nodup at h
    have := (List.pairwise_iff_getElem.mp h) i j (by omega) hj hij
    rw [List.getD_eq_getElem?_getD, List.getD_eq_getElem?_getD, List.getElem?_eq_getElem (show i < l.length by omega), List.getElem?_eq_getElem hj] at he
    exact this he
section JNS
variable {F : Nat} {σ τ : pu_S} {ty sh : List Nat} {al : List pa_E} {lk pa : List pp_E} {tg : List pg_E} {su : List Nat} {pl : Int32}
theorem rc_is.hi (h : rc_is σ ty sh al lk pa tg su pl) (hf : pu_fr (fun x => 248 ≤ x) σ τ) : rc_is τ ty sh al lk pa tg su pl := by
  obtain ⟨⟨a, b, c, d, e⟩, f⟩ := h
  exact ⟨⟨a.fr hf (by decide) (by decide), b.fr hf (by decide) (by decide), c.fr hf (fun x _ _ z => by omega), d.fr hf (fun x _ _ z => by omega), e.fr hf (fun x _ _ z => by omega)⟩, f.fr hf (by decide) (fun x _ _ z => by omega)⟩
theorem jn_room (h : rc_is σ ty sh al lk pa tg su pl) (hs : su.Nodup) {t : Nat} (ht : t < tg.length) (hn : ¬ t ∈ su) : su.length < 16 := by
  obtain ⟨-, -, h16, -, -, -, -, -, hlt, -⟩ := h
  have := jn_nd (l := t :: su) (List.nodup_cons.mpr ⟨hn, hs⟩) (n := tg.length) (fun x hx => by
    rcases List.mem_cons.mp hx with rfl | hx
    · exact ht
    · exact hlt x hx)
  rw [List.length_cons] at this
  omega
theorem pa_gd_add {fixed r : Bool} (hal : pa_gd al) {al' : List pa_E} (h : (pk_alias ty al fixed r).2 = some al') : pa_gd al' := by
  rw [pk_alias_eq] at h
  cases hq : pk_sgn ty with
  | none => rw [hq] at h; cases h
  | some m =>
    rw [hq] at h
    dsimp only at h
    generalize hu : pt_cut (ty.take m) = u at h
    generalize hv : pt_cut (ty.drop (m + 1)) = v at h
    have lu : pb_lw u := by rw [← hu]; exact pt_cut_lw _
    have lv : pb_lw v := by rw [← hv]; exact pt_cut_lw _
    by_cases c1 : pk_part r u = false ∨ pk_part r v = false ∨ u = v
    · rw [if_pos c1] at h; cases h
    · rw [if_neg c1] at h
      by_cases c2 : fixed = true ∨ 8 ≤ al.length
      · rw [if_pos c2] at h; cases h
      · rw [if_neg c2] at h
        by_cases c3 : (al.findIdx? (pa_m u r)).isSome = true ∨ pa_rep al r al.length v = u
        · rw [if_pos c3] at h; cases h
        · rw [if_neg c3] at h
          have h : some (al ++ [(r, u, v)]) = some al' := h
          cases h
          have pu : pk_part r u = true := by
            cases hx : pk_part r u with
            | true => rfl
            | false => exact absurd (Or.inl hx) c1
          have pv : pk_part r v = true := by
            cases hx : pk_part r v with
            | true => rfl
            | false => exact absurd (Or.inr (Or.inl hx)) c1
          have hno : al.find? (pa_m u r) = none := by
            rw [pa_find (false, [], [])]
            cases hx : al.findIdx? (pa_m u r) with
            | none => rfl
            | some i => exact absurd (Or.inl (by rw [hx]; rfl)) c3
          obtain ⟨a1, a2, a3, a4, a5, a6⟩ := hal
          have mem : ∀ a ∈ al ++ [(r, u, v)], a ∈ al ∨ a = (r, u, v) := fun a ha => (List.mem_append.mp ha).elim Or.inl (fun z => Or.inr (List.mem_singleton.mp z))
          refine ⟨fun a ha => ?_, ?_, pa_ac_app a3 hno (fun z => c3 (Or.inr z)), fun a ha => ?_, ?_, fun a ha => ?_⟩
          · rcases mem a ha with ha | rfl
            · exact a1 a ha
            · exact ⟨lu, lv⟩
          · unfold pa_un
            rw [List.pairwise_append]
            refine ⟨a2, List.pairwise_singleton _ _, fun a ha b hb hab => ?_⟩
            rw [List.mem_singleton] at hb
            subst hb
            rw [List.find?_eq_none] at hno
            apply hno a ha
            simp [pa_m, hab.1, hab.2]
          · rcases mem a ha with ha | rfl
            · exact a4 a ha
            · exact fun z => c1 (Or.inr (Or.inr z))
          · rw [List.length_append, List.length_singleton]
            omega
          · rcases mem a ha with ha | rfl
            · exact a6 a ha
            · exact ⟨pu, pv⟩
theorem pg_gd_read (hal : pa_gd al) (htg : ∀ e ∈ tg, pg_gd e) (hty : ∀ c ∈ ty, c < 128) (h60 : ty.length ≤ 60) {tg' : List pg_E} (h : (pk_read ty al tg).2 = some tg') : ∀ e ∈ tg', pg_gd e := by
  unfold pk_read at h
  cases hc : pr_cut ty 0 ty.length with
  | inl e => rw [hc] at h; cases h
  | inr rd =>
    rw [hc] at h
    dsimp only at h
    cases ha : pf_at? tg (pr_form al rd) with
    | some i =>
      rw [ha] at h
      have h : some tg = some tg' := h
      cases h
      exact htg
    | none =>
      rw [ha] at h
      dsimp only at h
      by_cases h16 : 16 ≤ tg.length
      · rw [if_pos h16] at h; cases h
      · rw [if_neg h16] at h
        have h : some (tg ++ [(pr_form al rd, pr_core al rd, fun _ => none)]) = some tg' := h
        cases h
        intro e he
        rcases List.mem_append.mp he with he | he
        · exact htg e he
        · rw [List.mem_singleton] at he
          subst he
          exact pg_read hty h60 hc hal _
theorem pg_gd_up {e : pg_E} (h : pg_gd e) (k : Nat) (v : Int32) : pg_gd (pk_up e k v) := h
end JNS
