/-! equality: feed keeps the relation -/
theorem m_feed2 {δ : St} {a0 a1 a2 a3 a4 : Int} (h : δ 0 1 ≤ 65516) : pc (f_M_feed δ a0 a1 a2 a3 a4) (fun z => ∀ j i, (j = 0 → i ≠ 2) → z.2 j i = if j = 0 ∧ i = 1 then δ 0 1 + 20 else if j = 1 ∧ δ 0 1 ≤ i ∧ i < δ 0 1 + 20 then fb a0 a1 a2 a3 a4 (i - δ 0 1) else δ j i) := by
  have e1 : setA δ 0 2 0 0 1 = δ 0 1 := by rw [stA, if_neg (by omega)]
  unfold f_M_feed
  refine pc_a (pc_i (fun _ => ?_) (fun q => by exfalso; omega))
  unfold f_M_feed_b22
  rw [bndN_eq rf_0, if_pos rfl]
  refine pc_m (m_feed2_L33 (γ0 := setA δ 0 2 0) FU (setA δ 0 2 0) 0 (by omega) (by omega) (fun j i => ?_)) (fun z hz j i q => ?_)
  · by_cases c : j = 0 ∧ i = 1
    · rw [if_pos c, c.1, c.2]; omega
    · rw [if_neg c, if_neg (by omega)]
  · have e := hz j i
    rw [e, e1]
    by_cases c : j = 0 ∧ i = 1
    · rw [if_pos c, if_pos c]
    · rw [if_neg c, if_neg c, show setA δ 0 2 0 j i = δ j i by rw [stA, if_neg (by omega)]]
theorem rl_feed {γ δ : St} {a0 a1 a2 a3 a4 : Int} (h : RlT γ δ) (hl : 0 ≤ γ 0 10 ∧ γ 0 10 ≤ 60000) : pq (f_S_feed γ a0 a1 a2 a3 a4) (f_M_feed δ a0 a1 a2 a3 a4) (fun y z => RlT y.2 z.2) := by
  intro y z e1 e2
  have ⟨h1, h2, h3, h4, h5, h6⟩ := h
  have s := s_feed y e1
  have m := m_feed2 (by omega) z e2
  have s10 : y.2 0 10 = γ 0 10 + 20 := by rw [s, if_pos ⟨rfl, rfl⟩]
  have m1 : z.2 0 1 = δ 0 1 + 20 := by rw [m 0 1 (by omega), if_pos ⟨rfl, rfl⟩]
  have so : ∀ j k, j ≠ 13 → (j = 0 → k ≠ 10) → y.2 j k = γ j k := fun j k q1 q2 => by rw [s, if_neg (by omega), if_neg (by omega)]
  have mo : ∀ k, k ≠ 1 → k ≠ 2 → z.2 0 k = δ 0 k := fun k q1 q2 => by rw [m 0 k (by omega), if_neg (by omega), if_neg (by omega)]
  refine ⟨fun i q1 q2 => by rw [s, if_neg (by omega), if_neg (by omega)]; exact h1 i q1 q2, by omega, fun k q1 q2 => ?_, by rw [so 0 11 (by omega) (by omega), mo 55 (by omega) (by omega)]; exact h4, by rw [so 1 7 (by omega) (by omega), mo 3 (by omega) (by omega)]; exact h5, by rw [so 1 8 (by omega) (by omega), mo 4 (by omega) (by omega)]; exact h6⟩
  by_cases c : δ 0 1 ≤ k
  · rw [m 1 k (by omega), if_neg (by omega), if_pos (by omega), s, if_neg (by omega), if_pos (by omega), h2]
  · rw [m 1 k (by omega), if_neg (by omega), if_neg (by omega), s, if_neg (by omega), if_neg (by omega)]
    exact h3 k q1 (by omega)
