/-! equality: the reference's part gets its cells -/
def mkE (γ : St) (kd n : Int) : St := fun j i => if (kd = 24 ∨ kd = 5 ∨ kd = 25 ∨ kd = 6) ∧ j = 25 ∧ i = n then γ 9 (γ 0 18) else if (kd = 24 ∨ kd = 5 ∨ kd = 25) ∧ j = 9 ∧ i = γ 0 18 then γ 9 (γ 0 18) + 1 else if kd = 6 ∧ j = 9 ∧ i = γ 0 18 then γ 9 (γ 0 18) + 2 else γ j i
theorem b134_pc {γ : St} {kd n : Int} (h : LX γ) : pc (f_M_make_b134 γ kd n) (fun z => γ 27 n ≤ 200 ∧ z = (.inr n, mkE γ kd n) ∨ 200 < γ 27 n ∧ z = (.inl (3, sk γ), pkS γ)) := by
  have b182 : γ 27 n ≤ 200 → (kd = 24 ∨ kd = 5 ∨ kd = 25) → pc (f_M_make_b182 γ kd n) (fun z => γ 27 n ≤ 200 ∧ z = (.inr n, mkE γ kd n) ∨ 200 < γ 27 n ∧ z = (.inl (3, sk γ), pkS γ)) := fun h2 hk => by
    unfold f_M_make_b182 f_M_make_b203
    refine pc_c (fun _ => pc_c (fun _ => pc_c (fun _ => pc_a (pc_c (fun _ => pc_a ?_)))))
    rw [if_pos (by omega)]
    refine pc_s (Or.inl ⟨h2, ?_⟩)
    refine congrArg (Prod.mk _) (funext fun j => funext fun i => ?_)
    have c1 : kd = 24 ∨ kd = 5 ∨ kd = 25 ∨ kd = 6 := by omega
    show _ = (if _ then _ else _)
    rw [stA, stA]
    by_cases q1 : j = 25 ∧ i = n
    · rw [if_pos q1, if_pos ⟨c1, q1⟩]
    · have n1 : ¬ ((kd = 24 ∨ kd = 5 ∨ kd = 25 ∨ kd = 6) ∧ j = 25 ∧ i = n) := fun r => q1 r.2
      rw [if_neg q1, if_neg n1]
      by_cases q2 : j = 9 ∧ i = γ 0 18
      · rw [if_pos q2, if_pos ⟨hk, q2⟩]
      · have n2 : ¬ ((kd = 24 ∨ kd = 5 ∨ kd = 25) ∧ j = 9 ∧ i = γ 0 18) := fun r => q2 r.2
        have n3 : ¬ (kd = 6 ∧ j = 9 ∧ i = γ 0 18) := fun r => q2 r.2
        rw [if_neg q2, if_neg n2, if_neg n3]
  unfold f_M_make_b134
  refine pc_c (fun _ => pc_i (fun h2 => ?_) (fun h2 => ?_))
  · refine pc_i (fun q => b182 h2 (by omega)) (fun q1 => pc_i (fun q => b182 h2 (by omega)) (fun q2 => pc_i (fun q3 => ?_) (fun q => b182 h2 (by omega))))
    unfold f_M_make_b203
    refine pc_i (fun q4 => ?_) (fun q4 => ?_)
    · refine pc_s (Or.inl ⟨h2, ?_⟩)
      refine congrArg (Prod.mk _) (funext fun j => funext fun i => ?_)
      show _ = (if _ then _ else _)
      rw [if_neg (by omega), if_neg (by omega), if_neg (by omega)]
    · have k6 : kd = 6 := by omega
      refine pc_c (fun _ => pc_c (fun _ => pc_a (pc_c (fun _ => pc_c (fun _ => pc_c (fun _ => pc_a ?_))))))
      refine pc_s (Or.inl ⟨h2, ?_⟩)
      refine congrArg (Prod.mk _) (funext fun j => funext fun i => ?_)
      show _ = (if _ then _ else _)
      have e18 : setA γ 25 n (γ 9 (γ 0 18)) 0 18 = γ 0 18 := by rw [stA, if_neg (by omega)]
      have e9 : setA γ 25 n (γ 9 (γ 0 18)) 9 (γ 0 18) = γ 9 (γ 0 18) := by rw [stA, if_neg (by omega)]
      rw [e18, e9, stA, stA]
      by_cases q1 : j = 25 ∧ i = n
      · rw [if_neg (by omega), if_pos q1, if_pos ⟨by omega, q1⟩]
      · by_cases q2 : j = 9 ∧ i = γ 0 18
        · have n1 : ¬ ((kd = 24 ∨ kd = 5 ∨ kd = 25 ∨ kd = 6) ∧ j = 25 ∧ i = n) := fun r => q1 r.2
          have n2 : ¬ ((kd = 24 ∨ kd = 5 ∨ kd = 25) ∧ j = 9 ∧ i = γ 0 18) := fun r => by omega
          rw [if_pos q2, if_neg n1, if_neg n2, if_pos ⟨k6, q2⟩]
        · have n1 : ¬ ((kd = 24 ∨ kd = 5 ∨ kd = 25 ∨ kd = 6) ∧ j = 25 ∧ i = n) := fun r => q1 r.2
          have n2 : ¬ ((kd = 24 ∨ kd = 5 ∨ kd = 25) ∧ j = 9 ∧ i = γ 0 18) := fun r => q2 r.2
          have n3 : ¬ (kd = 6 ∧ j = 9 ∧ i = γ 0 18) := fun r => q2 r.2
          rw [if_neg q2, if_neg q1, if_neg n1, if_neg n2, if_neg n3]
  · refine pc_b (P := fun z => z = (tK γ, pkS γ)) (fun y e => by rw [pkM_eq h] at e; cases e; rfl) (fun r γ1 e => ?_)
    cases e
    rw [pk_7]
    exact pc_s (Or.inr ⟨by omega, rfl⟩)
