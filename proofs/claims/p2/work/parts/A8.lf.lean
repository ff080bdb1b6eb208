/-! the reference's equations: left -/
theorem w_left {γ : St} (p : DcI γ) (h5 : 0 ≤ γ 5 (γ 0 18) ∧ γ 4 (γ 0 18) + γ 5 (γ 0 18) ≤ γ 0 19) (h13 : ∀ v, γ 4 (γ 0 18) ≤ v → v < γ 0 19 → 0 ≤ γ 13 v ∧ γ 13 v ≤ 1000000) : wp (f_M_left γ) (fun z => (∃ e γ', z = (.inl e, γ') ∧ Mv γ γ') ∨ nmQ γ ∧ ∃ v, (γ 4 (γ 0 18) + γ 5 (γ 0 18) ≤ v ∧ v < γ 0 19) ∧ Fnd (pkS γ) 10 11 (γ 4 (γ 0 18)) (γ 0 19) v ∧ z = (.inr (v - γ 4 (γ 0 18)), setA (tkS γ) 13 v (γ 13 v + 1))) := by
  have ⟨l0, _⟩ := p
  have m1 := Mv.pk0 l0
  have ⟨c1, c2, c3, c4, c5, c6, c7⟩ := p.mv m1
  have k18 := m1.2.1 0 18 (by omega)
  have k19 := m1.2.1 0 19 (by omega)
  have k4 := m1.2.1 4 (γ 0 18) (by omega)
  have k5 := m1.2.1 5 (γ 0 18) (by omega)
  rw [k18] at c2
  rw [k18, k4] at c3
  rw [k18, k4, k19] at c4 c5
  unfold f_M_left
  refine wp_yn (w_nameHere l0) (fun q => ?_) (fun q => ?_)
  · rw [if_pos (by decide), k19]
    refine wp_bnd (w_variableHere (lo := γ 4 (γ 0 18)) l0.tko c5 c3.1 (by omega) (by omega) (by rw [k18]; exact k4)) (fun v γ3 hz => ?_)
    obtain ⟨r', e', f⟩ := hz
    cases e'
    rw [k18, k4, k5]
    refine wp_chk (by omega) (wp_chk (by omega) (wp_chk (by omega) (wp_ite (fun q2 => ?_) (fun q2 => wp_some (Or.inl ⟨_, _, rfl, m1⟩)))))
    refine wp_bs (tkM_eq m1.1) ?_
    rw [tkS_pk l0]
    have m2 := Mv.tk0 l0
    rcases f with f | f
    · exfalso; omega
    · have e13 := m2.2.1 13 v (by omega)
      have g := h13 v f.1.1 f.1.2
      rw [e13]
      refine wp_chk (by omega) (wp_chk (by omega) (wp_chk (by omega) (wp_sub ?_)))
      have s0 : ∀ j k, j ≠ 13 → setA (tkS γ) 13 v (γ 13 v + 1) j k = tkS γ j k := fun j k r => by rw [stA, if_neg (by omega)]
      rw [s0 0 18 (by omega), m2.2.1 0 18 (by omega), s0 4 _ (by omega), m2.2.1 4 _ (by omega)]
      exact wp_chk (by omega) (wp_chk (by omega) (wp_some (Or.inr ⟨q, v, ⟨q2, f.1.2⟩, Or.inr f, rfl⟩)))
  · rw [if_neg (by decide)]
    exact wp_cant m1.1 (Or.inl ⟨_, _, rfl, m1.pk⟩)
