/-! the class's expression reader: atoms -/
theorem sumK_same {f g g' : Int → Int} {n : Nat} (e : g' = g) : sumK f g' n = sumK f g n := by rw [e]
set_option maxHeartbeats 1000000 in
theorem w_Er_takeAtom {γ : St} {a0 a1 : Int} (h : ErJ γ) (hn : γ 6 12 = 1) (hk : γ 14 (γ 1 6) ≠ 0) : wp (f_Er_takeAtom γ a0 a1) (fun z => ErJ z.2 ∧ FrE γ z.2 ∧ (z.1 = 0 ∧ z.2 1 7 ≠ 0 ∧ z.2 4 4 = γ 4 4 ∧ (∀ j k, 38 ≤ j → z.2 j k = γ j k) ∨ z.1 = 1 ∧ z.2 1 7 = γ 1 7 ∧ z.2 6 12 = 0 ∧ z.2 6 8 = γ 6 8 ∧ z.2 4 4 = γ 4 4 + 1 ∧ z.2 38 (γ 4 4) = a0 ∧ z.2 39 (γ 4 4) = a1 ∧ (∀ j k, 38 ≤ j → (j < 42 → k ≠ γ 4 4) → j ≠ 52 → z.2 j k = γ j k))) := by
  have ⟨hT, i1, i2, i3, i4, i5, i6, i7⟩ := h
  have t1 := hT.1.2.1
  have t2 := hT.2.1
  unfold f_Er_takeAtom
  refine wp_ite (fun c => wp_bnd (w_Cd_add (by omega)) (fun r γ1 hz => ?_)) (fun c => ?_)
  · obtain ⟨c4, ⟨c38, c39, c40⟩, cF⟩ := hz
    have c4 : γ1 4 4 = γ 4 4 + 1 := c4
    have c38 : γ1 38 (γ 4 4) = a0 := c38
    have c39 : γ1 39 (γ 4 4) = a1 := c39
    have cF : ∀ j k, (j < 38 ∨ 41 < j ∨ k ≠ γ 4 4) → (j ≠ 4 ∨ k ≠ 4) → γ1 j k = γ j k := cF
    have d9 := cF 6 9 (by omega) (by omega)
    refine wp_chk (by omega) (wp_sub (wp_chk (by simp [stA]; omega) (wp_sub (wp_sub ?_))))
    generalize hs : setA _ 6 12 0 = γs
    have s0 : ∀ j k, γs j k = if j = 6 ∧ k = 12 then 0 else if j = 6 ∧ k = 9 then γ 6 9 + 1 else if j = 52 ∧ k = γ 6 9 then 1 else γ1 j k := fun j k => by rw [← hs]; simp [stA, d9]
    have hTs : TkR γs := hT.ext (fun j k h1 => by rw [s0]; have := cF j k (by omega) (by omega); grind)
    have s16 : γs 1 6 = γ 1 6 := by rw [s0, ← cF 1 6 (by omega) (by omega)]; simp
    have s14 : γs 14 (γ 1 6) = γ 14 (γ 1 6) := by rw [s0, ← cF 14 _ (by omega) (by omega)]; simp
    refine wp_bnd (w_Tk_step hTs) (fun r γ2 hz => wp_some ?_)
    obtain ⟨hT2, hF, z7, z6, z8⟩ := hz
    have hT2 : TkR γ2 := hT2
    have e : ∀ j k, (j ≠ 1 ∨ k < 6 ∨ 8 < k) → γ2 j k = γs j k := hF
    have z6 : γ2 1 6 = γs 1 6 + 1 := z8 (by rw [s16, s14]; exact hk)
    have a8 : γ2 6 8 = γ 6 8 := by rw [e 6 8 (by omega), s0, ← cF 6 8 (by omega) (by omega)]; simp
    have a9 : γ2 6 9 = γ 6 9 + 1 := by rw [e 6 9 (by omega), s0]; simp
    have a10 : γ2 6 10 = γ 6 10 := by rw [e 6 10 (by omega), s0, ← cF 6 10 (by omega) (by omega)]; simp
    have a12 : γ2 6 12 = 0 := by rw [e 6 12 (by omega), s0]; simp
    have a4 : γ2 4 4 = γ 4 4 + 1 := by rw [e 4 4 (by omega), s0, ← c4]; simp
    have a48 : γ2 48 = γ 48 := funext fun k => by rw [e 48 k (by omega), s0, ← cF 48 k (by omega) (by omega)]; simp
    refine ⟨⟨hT2, ?_, ?_, ?_, ?_, ?_, ?_, ?_⟩, ?_, Or.inr ⟨rfl, ?_, a12, a8, a4, ?_, ?_, ?_⟩⟩
    · show 0 ≤ γ2 6 8 ∧ γ2 6 8 ≤ 512; omega
    · show 0 ≤ γ2 6 9 ∧ γ2 6 9 ≤ 512; omega
    · exact Or.inl a12
    · show γ2 6 9 = sumK ndK (γ2 48) (γ2 6 8).toNat + (1 - γ2 6 12)
      rw [a8, a48, a9, a12]; omega
    · show γ2 6 10 = sumK nestK (γ2 48) (γ2 6 8).toNat
      rw [a8, a48, a10]; exact i5
    · show 0 ≤ γ2 4 4 ∧ γ2 4 4 + γ2 6 8 ≤ γ2 1 6; omega
    · intro i h1 h2
      have h2 : i < γ2 6 9 := h2
      show 0 ≤ γ2 52 i ∧ γ2 52 i ≤ γ2 4 4
      by_cases q : i = γ 6 9
      · have e52 : γ2 52 i = 1 := by rw [e 52 i (by omega), s0, q]; simp
        omega
      · have e52 : γ2 52 i = γ 52 i := by rw [e 52 i (by omega), s0, ← cF 52 i (by omega) (by omega)]; simp [q]
        have := i7 i h1 (by omega)
        omega
    · intro j k h1 h2 h3 h4
      show γ2 j k = γ j k
      rw [e j k h3, s0]; have := cF j k (by omega) h2; grind
    · show γ2 1 7 = γ 1 7
      have z7 : γ2 1 7 = γs 1 7 := z7
      rw [z7, s0, ← cF 1 7 (by omega) (by omega)]; simp
    · show γ2 38 (γ 4 4) = a0
      rw [e 38 _ (by omega), s0]; simpa using c38
    · show γ2 39 (γ 4 4) = a1
      rw [e 39 _ (by omega), s0]; simpa using c39
    · intro j k h1 h2 h3
      show γ2 j k = γ j k
      rw [e j k (by omega), s0]; have := cF j k (by omega) (by omega); grind
  · exact wp_bnd (w_Tk_fail hT (by omega)) (fun r γ1 hz => wp_some ⟨h.fr hz.1 hz.2.1 (Int.le_of_eq hz.2.2.2.1.symm), hz.2.1.E, Or.inl ⟨hz.2.2.1, hz.2.2.2.2, hz.2.1 4 4 (by omega), fun j k hj => hz.2.1 j k (by omega)⟩⟩)
