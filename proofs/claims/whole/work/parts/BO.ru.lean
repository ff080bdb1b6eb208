/-! equality: reduce: more fuel, the same answer -/
theorem red_e (n : Nat) (γ : St) (x g : Int) : f_Er_reduce_L2 (n + 1) γ x g = if g = 0 then chk (g = 0 ∨ g = 1) (some (g, γ)) else if γ 6 8 ≤ 0 then chk (g = 0 ∨ g = 1) (some (g, γ)) else chk (i32 (γ 6 8 - 1)) (chk (inb (γ 6 8 - 1) 512) (if rankK (topK γ) < x then chk (g = 0 ∨ g = 1) (some (g, γ)) else bndN (rd1 γ x) (fun g' γ' => f_Er_reduce_L2 n γ' x g'))) := by
  rw [f_Er_reduce_L2]
  unfold rd1 topK
  simp only [bN_C, bN_I, bN_N, ap, b75_s (k2 := f_Er_reduce_L2 n), f_S_rank_eq, bN_s]
theorem red_up {x : Int} : ∀ (n : Nat) (γ : St) (g : Int) (y : Int × St), f_Er_reduce_L2 n γ x g = some y → f_Er_reduce_L2 (n + 1) γ x g = some y := by
  intro n
  induction n with
  | zero => intro γ g y h; cases h
  | succ n ih =>
    intro γ g y h
    rw [red_e] at h ⊢
    by_cases c1 : g = 0
    · rw [if_pos c1] at h ⊢; exact h
    · rw [if_neg c1] at h ⊢
      by_cases c2 : γ 6 8 ≤ 0
      · rw [if_pos c2] at h ⊢; exact h
      · rw [if_neg c2] at h ⊢
        have k1 := chk_e h
        have k2 := chk_e k1.2
        rw [chk_t k1.1, chk_t k2.1]
        have h := k2.2
        by_cases c3 : rankK (topK γ) < x
        · rw [if_pos c3] at h ⊢; exact h
        · rw [if_neg c3] at h ⊢
          match hr : rd1 γ x, h with
          | some z, h =>
            have e : f_Er_reduce_L2 n z.2 x z.1 = some y := h
            exact ih _ _ _ e
theorem red_up' {x : Int} {γ : St} {g : Int} {y : Int × St} {n : Nat} (h : f_Er_reduce_L2 n γ x g = some y) : ∀ k : Nat, f_Er_reduce_L2 (n + k) γ x g = some y
  | 0 => h
  | k + 1 => red_up _ _ _ _ (red_up' h k)
/-- the step, and the rest with full fuel -/
theorem reduce_s {γ : St} {x : Int} {y : Int × St} (h : 0 < γ 6 8) (hr : x ≤ rankK (topK γ)) (e : f_Er_reduce γ x = some y) : ∃ z, rd1 γ x = some z ∧ (z.1 = 0 ∧ y = (0, z.2) ∨ z.1 ≠ 0 ∧ f_Er_reduce_L2 FU z.2 x z.1 = some y) := by
  have fu := FU_v
  unfold f_Er_reduce at e
  have e1 : f_Er_reduce_L2 (999999 + 1) γ x 1 = some y := e
  rw [red_e, if_neg (by decide), if_neg (by omega)] at e1
  have e2 := (chk_e (chk_e e1).2).2
  rw [if_neg (by omega)] at e2
  match hz : rd1 γ x, e2 with
  | some z, e2 =>
    have e3 : f_Er_reduce_L2 999999 z.2 x z.1 = some y := e2
    refine ⟨z, rfl, ?_⟩
    by_cases q : z.1 = 0
    · rw [q] at e3
      have e4 : f_Er_reduce_L2 (999998 + 1) z.2 x 0 = some y := e3
      rw [red_0] at e4
      cases e4
      exact Or.inl ⟨q, rfl⟩
    · exact Or.inr ⟨q, red_up _ _ _ _ e3⟩
/-- nothing to take down -/
theorem reduce_n {γ : St} {x : Int} {y : Int × St} (h : γ 6 8 ≤ 0 ∨ rankK (topK γ) < x) (e : f_Er_reduce γ x = some y) : y = (1, γ) := by
  unfold f_Er_reduce at e
  have e1 : f_Er_reduce_L2 (999999 + 1) γ x 1 = some y := e
  rw [red_e, if_neg (by decide)] at e1
  by_cases c : γ 6 8 ≤ 0
  · rw [if_pos c] at e1
    have e2 := (chk_e e1).2
    cases e2; rfl
  · rw [if_neg c] at e1
    have e2 := (chk_e (chk_e e1).2).2
    rw [if_pos (by omega)] at e2
    have e3 := (chk_e e2).2
    cases e3; rfl
