/-! equality: build leaves the text's tables -/
theorem FrG.rf {γ : St} : FrG γ γ := fun _ _ _ _ _ _ => rfl
theorem FrG.st {a b : St} (h : FrG a b) {j : Nat} {i v : Int} (q : j = 11 ∨ j = 61 ∨ j = 62 ∨ 76 ≤ j ∧ j ≤ 87) : FrG a (setA b j i v) := fun j k q1 q2 q3 q4 => by rw [stA, if_neg (by omega)]; exact h j k q1 q2 q3 q4
theorem FrG.fl {a b : St} (h : FrG a b) {j : Nat} {lo hi v : Int} (q : 76 ≤ j ∧ j ≤ 87) : FrG a (flA b j lo hi v) := fun j k q1 q2 q3 q4 => by rw [flA_at, if_neg (by omega)]; exact h j k q1 q2 q3 q4
theorem g_madeOf {γ0 γ : St} {a : Int} (h : FrG γ0 γ) : pc (f_Pg_madeOf γ a) (fun z => FrG γ0 z.2) := by
  unfold f_Pg_madeOf
  exact pc_i (fun _ => pc_c (fun _ => pc_s h)) (fun _ => pc_s h)
theorem g_addStep {γ0 γ : St} {a : Int} (h : FrG γ0 γ) : pc (f_Pg_addStep γ a) (fun z => FrG γ0 z.2) := by
  unfold f_Pg_addStep
  refine pc_c (fun _ => pc_c (fun _ => pc_a (pc_c (fun _ => pc_c (fun _ => pc_a (pc_c (fun _ => pc_c (fun _ => pc_b (g_madeOf (FrG.st (h.st (by omega)) (by omega))) (fun r γ1 h1 => ?_)))))))))
  have h1 : FrG γ0 γ1 := h1
  refine pc_c (fun _ => pc_a (pc_c (fun _ => pc_c (fun _ => pc_b (g_madeOf (h1.st (by omega))) (fun r γ2 h2 => ?_)))))
  have h2 : FrG γ0 γ2 := h2
  refine pc_c (fun _ => pc_a (pc_c (fun _ => pc_c (fun _ => pc_b (g_madeOf (h2.st (by omega))) (fun r γ3 h3 => ?_)))))
  have h3 : FrG γ0 γ3 := h3
  exact pc_c (fun _ => pc_a (pc_c (fun _ => pc_c (fun _ => pc_c (fun _ => pc_a (pc_c (fun _ => pc_a (pc_s (FrG.st (FrG.st (h3.st (by omega)) (by omega)) (by omega))))))))))
theorem g_bs_L7 {γ0 : St} : ∀ (n : Nat) (γ : St) (i : Int), FrG γ0 γ → pc (f_Pg_buildSteps_L7 n γ i) (fun z => FrG γ0 z.2) := by
  intro n
  induction n with
  | zero => intro γ i h; exact pc_n
  | succ n ih =>
    intro γ i h
    have b130 : ∀ γ, FrG γ0 γ → pc (f_Pg_buildSteps_b130 (f_Pg_buildSteps_L7 n) γ i) (fun z => FrG γ0 z.2) := fun γ h => pc_c (fun _ => ih γ _ h)
    have b90 : ∀ γ x y, FrG γ0 γ → pc (f_Pg_buildSteps_b90 (f_Pg_buildSteps_L7 n) γ i x y) (fun z => FrG γ0 z.2) := fun γ x y h => pc_c (fun _ => pc_a (b130 _ (h.st (by omega))))
    unfold f_Pg_buildSteps_L7
    refine pc_i (fun _ => pc_s h) (fun _ => pc_c (fun _ => pc_a (pc_c (fun _ => pc_a (pc_c (fun _ => pc_a (pc_c (fun _ => ?_))))))))
    have h2 := FrG.st (i := γ 75 i) (v := 0) (FrG.st (j := 78) (i := γ 75 i) (v := γ 75 i) h (by omega)) (j := 79) (by omega)
    refine pc_i (fun _ => pc_c (fun _ => pc_i (fun _ => ?_) (fun _ => ?_))) (fun _ => pc_c (fun _ => pc_i (fun _ => ?_) (fun _ => ?_)))
    · exact pc_b (g_addStep h2) (fun r γ1 h3 => b130 _ h3)
    · exact pc_c (fun _ => pc_c (fun _ => pc_a (b130 _ (h2.st (by omega)))))
    · exact pc_c (fun _ => pc_c (fun _ => b90 _ _ _ h2))
    · exact b90 _ _ _ h2
theorem g_nc_L18 {γ0 : St} : ∀ (n : Nat) (γ : St) (x y z : Int), FrG γ0 γ → pc (f_Pg_numberClocks_L18 n γ x y z) (fun z => FrG γ0 z.2) := by
  intro n
  induction n with
  | zero => intro γ x y z h; exact pc_n
  | succ n ih =>
    intro γ x y z h
    have b94 : ∀ γ x y z, FrG γ0 γ → pc (f_Pg_numberClocks_b94 (f_Pg_numberClocks_L18 n) γ x y z) (fun z => FrG γ0 z.2) := fun γ x y z h => pc_c (fun _ => ih γ _ _ _ h)
    have so : ∀ γ a, FrG γ0 γ → pc (f_Sl_slotOfC γ a) (fun z => FrG γ0 z.2) := fun γ a h => by
      unfold f_Sl_slotOfC
      exact pc_i (fun _ => pc_c (fun _ => pc_s h)) (fun _ => pc_s h)
    unfold f_Pg_numberClocks_L18
    refine pc_i (fun _ => pc_s h) (fun _ => pc_c (fun _ => pc_i (fun _ => b94 _ _ _ _ h) (fun _ => pc_c (fun _ => pc_c (fun _ => pc_a (pc_b (so _ _ (h.st (by omega))) (fun r γ1 h1 => ?_)))))))
    have h1 : FrG γ0 γ1 := h1
    exact pc_c (fun _ => pc_c (fun _ => pc_c (fun _ => pc_a (pc_c (fun _ => pc_c (fun _ => pc_a (pc_c (fun _ => pc_c (fun _ => pc_a (b94 _ _ _ _ (FrG.st (FrG.st (h1.st (by omega)) (by omega)) (by omega))))))))))))
theorem g_numberClocks {γ0 γ : St} {a : Int} (h : FrG γ0 γ) : pc (f_Pg_numberClocks γ a) (fun z => FrG γ0 z.2) := by
  unfold f_Pg_numberClocks
  exact pc_c (fun _ => pc_a (pc_c (fun _ => pc_a (g_nc_L18 _ _ _ _ _ (FrG.st (h.st (by omega)) (by omega))))))
theorem g_bc_L97 {γ0 : St} : ∀ (n : Nat) (γ : St) (x y : Int), FrG γ0 γ → pc (f_Pg_buildClocks_L97 f_Pg_buildClocks_b123 n γ x y) (fun z => FrG γ0 z.2) := by
  intro n
  induction n with
  | zero => intro γ x y h; exact pc_n
  | succ n ih =>
    intro γ x y h
    unfold f_Pg_buildClocks_L97 f_Pg_buildClocks_b123
    exact pc_i (fun _ => pc_b (g_numberClocks h) (fun r γ1 h1 => pc_s h1)) (fun _ => pc_c (fun _ => pc_c (fun _ => pc_a (pc_c (fun _ => ih _ _ _ (h.st (by omega)))))))
theorem g_bc_L58 {γ0 : St} : ∀ (n : Nat) (γ : St) (x y : Int), FrG γ0 γ → pc (f_Pg_buildClocks_L58 f_Pg_buildClocks_b90 n γ x y) (fun z => FrG γ0 z.2) := by
  intro n
  induction n with
  | zero => intro γ x y h; exact pc_n
  | succ n ih =>
    intro γ x y h
    unfold f_Pg_buildClocks_L58 f_Pg_buildClocks_b90
    exact pc_i (fun _ => pc_a (g_bc_L97 _ _ _ _ (h.st (by omega)))) (fun _ => pc_c (fun _ => pc_c (fun _ => pc_a (pc_c (fun _ => ih _ _ _ (h.st (by omega)))))))
theorem g_bc_L24 {γ0 : St} : ∀ (n : Nat) (γ : St) (x y : Int), FrG γ0 γ → pc (f_Pg_buildClocks_L24 f_Pg_buildClocks_b56 n γ x y) (fun z => FrG γ0 z.2) := by
  intro n
  induction n with
  | zero => intro γ x y h; exact pc_n
  | succ n ih =>
    intro γ x y h
    unfold f_Pg_buildClocks_L24 f_Pg_buildClocks_b56
    exact pc_i (fun _ => g_bc_L58 _ _ _ _ h) (fun _ => pc_c (fun _ => pc_c (fun _ => pc_a (pc_c (fun _ => ih _ _ _ (h.st (by omega)))))))
theorem g_bd_L20 {γ0 : St} : ∀ (n : Nat) (γ : St) (x : Int), FrG γ0 γ → pc (f_Pg_build_L20 f_Pg_build_b83 n γ x) (fun z => FrG γ0 z.2) := by
  intro n
  induction n with
  | zero => intro γ x h; exact pc_n
  | succ n ih =>
    intro γ x h
    have b83 : pc (f_Pg_build_b83 γ) (fun z => FrG γ0 z.2) := by
      unfold f_Pg_build_b83 f_Pg_clear
      exact pc_b (P := fun z => FrG γ0 z.2) (pc_c (fun _ => pc_a (pc_s (h.fl (by omega))))) (fun r γ1 h1 => pc_s h1)
    unfold f_Pg_build_L20
    exact pc_i (fun _ => b83) (fun _ => pc_c (fun _ => pc_c (fun _ => pc_c (fun _ => pc_a (pc_c (fun _ => pc_c (fun _ => pc_c (fun _ => pc_a (pc_c (fun _ => ih _ _ (FrG.st (h.st (by omega)) (by omega))))))))))))
theorem g_build {γ : St} {a0 a1 : Int} : pc (f_Pg_build γ a0 a1) (fun z => FrG γ z.2) := by
  unfold f_Pg_build f_Pg_buildSteps f_Pg_buildClocks
  refine pc_a (pc_a (pc_b (P := fun z => FrG γ z.2) (pc_a (g_bs_L7 _ _ _ (FrG.st (FrG.st (FrG.st FrG.rf (by omega)) (by omega)) (by omega)))) (fun r γ1 h1 => ?_)))
  have h1 : FrG γ γ1 := h1
  refine pc_b (P := fun z => FrG γ z.2) (pc_c (fun _ => pc_c (fun _ => pc_a (pc_c (fun _ => pc_a (g_bc_L24 _ _ _ _ (h1.fl (by omega)))))))) (fun r γ2 h2 => g_bd_L20 _ _ _ h2)
/-- the class builds: its answer is the number of the variables -/
theorem g_rdB {γ : St} (h : 1 ≤ γ 3 9) : pc (rdB γ) (fun z => z.1 = γ 8 8 ∧ (z.2 0 12 = γ 3 9 - 1) ∧ ∀ j k, (j = 0 → k ≠ 12) → j ≠ 11 → j ≠ 12 → j ≠ 61 → j ≠ 62 → (j < 76 ∨ 87 < j) → z.2 j k = γ j k) := by
  unfold rdB
  refine pc_c (fun _ => pc_a (pc_c (fun _ => pc_c (fun _ => pc_b g_build (fun r γ1 h1 => pc_a ?_)))))
  have h1 : FrG (setA γ 0 12 (γ 3 9 - 1)) γ1 := h1
  have f : ∀ j k, (j = 0 → k ≠ 12) → j ≠ 11 → j ≠ 12 → j ≠ 61 → j ≠ 62 → (j < 76 ∨ 87 < j) → flA γ1 12 0 99 0 j k = γ j k := fun j k q1 q2 q3 q4 q5 q6 => by
    rw [flA_at, if_neg (by omega), h1 j k (by omega) (by omega) (by omega) (by omega), stA, if_neg (by omega)]
  have e : flA γ1 12 0 99 0 0 12 = γ 3 9 - 1 := by
    rw [flA_at, if_neg (by omega), h1 0 12 (by omega) (by omega) (by omega) (by omega), stA, if_pos ⟨rfl, rfl⟩]
  unfold f_S_read_b177
  rw [if_pos (by omega), f 8 8 (by omega) (by omega) (by omega) (by omega) (by omega) (by omega)]
  exact pc_s ⟨rfl, e, f⟩
