/-! the class's program: build -/
/-- rows that hold places: always good -/
def RowI (γ : St) : Prop := (∀ s, 0 ≤ s → s < 9001 → 0 ≤ γ 78 s ∧ γ 78 s < 9001) ∧ ∀ i, 0 ≤ i → i < 12001 → (0 ≤ γ 84 i ∧ γ 84 i < 12001) ∧ 0 ≤ γ 85 i ∧ γ 85 i < 9001
/-- a step -/
def StI (γ : St) (a : Int) : Prop := (0 ≤ γ 80 (a + 1) ∧ γ 80 (a + 1) < 9001) ∧ (0 ≤ γ 80 (a + 2) ∧ γ 80 (a + 2) < 9001) ∧ (0 ≤ γ 80 (a + 3) ∧ γ 80 (a + 3) < 9001) ∧ (0 ≤ γ 80 (a + 4) ∧ γ 80 (a + 4) < 9001) ∧ ((γ 80 a = 18 ∨ γ 80 a = 35 ∨ γ 80 a = 36) → 0 ≤ γ 80 (a + 5) ∧ γ 80 (a + 5) < γ 8 11) ∧ (γ 80 a = 37 → 0 ≤ γ 80 (a + 5) ∧ γ 80 (a + 5) + 1 < γ 8 11)
def opW (γ : St) : Int → Int := fun s => if γ 54 s = 2 then 0 else if γ 54 s = 3 then 0 else 1
/-- only the program's rows change -/
def FrP (γ0 γ : St) : Prop := ∀ j k, j ≠ 11 → (j < 76 ∨ 87 < j) → γ j k = γ0 j k
theorem w_madeOf {γ : St} {a : Int} (hR : RowI γ) (ha : a < 9001) : wp (f_Pg_madeOf γ a) (fun z => z.2 = γ ∧ 0 ≤ z.1 ∧ z.1 < 9001) := by
  unfold f_Pg_madeOf
  refine wp_ite (fun c => wp_chk (by omega) (wp_some ⟨rfl, ?_⟩)) (fun c => wp_some ⟨rfl, by show (0 : Int) ≤ 0; omega, by show (0 : Int) < 9001; omega⟩)
  exact hR.1 a c ha
/-- a step is added -/
def AsP (γ : St) (s : Int) (γ' : St) : Prop := γ' 11 9 = γ 11 9 + 6 ∧ StI γ' (γ 11 9) ∧ (∀ j k, (j ≠ 11 ∨ k ≠ 9) → (j ≠ 80 ∨ k < γ 11 9) → γ' j k = γ j k)
set_option maxHeartbeats 2000000 in
theorem w_addStep {γ : St} {V s : Int} (hR : RowI γ) (hs : 0 ≤ s ∧ s < γ 8 5) (h85 : γ 8 5 ≤ 9001) (hl : SlI V γ s) (h9 : 0 ≤ γ 11 9 ∧ γ 11 9 + 6 ≤ 18000) : wp (f_Pg_addStep γ s) (fun z => AsP γ s z.2) := by
  have ⟨a1, a2, a3, a4, a5, a6, a7, a8⟩ := hl
  unfold f_Pg_addStep
  have RR : ∀ γ' : St, (∀ j k, (j = 78 ∨ j = 84 ∨ j = 85) → γ' j k = γ j k) → RowI γ' := fun γ' e => ⟨fun x q1 q2 => by rw [e 78 x (by omega)]; exact hR.1 x q1 q2, fun x q1 q2 => by rw [e 84 x (by omega), e 85 x (by omega)]; exact hR.2 x q1 q2⟩
  refine wp_chk (by omega) (wp_chk (by omega) (wp_sub (wp_chk (by simp [stA]; omega) (wp_chk (by simp [stA]; omega) (wp_sub (wp_chk (by simp [stA]; omega) (wp_chk (by omega) ?_)))))))
  have e9 : ∀ x y : Int, setA (setA γ 80 (γ 11 9) x) 80 y s 11 9 = γ 11 9 := fun x y => by simp [stA]
  generalize hh1 : setA (setA γ 80 (γ 11 9) (γ 54 s)) 80 (setA γ 80 (γ 11 9) (γ 54 s) 11 9 + 1) s = γ1
  have s1 : ∀ j k, γ1 j k = if j = 80 ∧ k = γ 11 9 + 1 then s else if j = 80 ∧ k = γ 11 9 then γ 54 s else γ j k := fun j k => by rw [← hh1]; simp [stA]
  have b9 : γ1 11 9 = γ 11 9 := by rw [s1]; simp
  have b55 : γ1 55 s = γ 55 s := by rw [s1]; simp
  rw [b55]
  refine wp_bnd (w_madeOf (RR γ1 (fun j k q => by rw [s1, if_neg (by omega), if_neg (by omega)])) (by omega)) (fun r1 γ1' q => ?_)
  obtain ⟨q, v1, v2⟩ := q
  have q : γ1' = γ1 := q
  have v1 : 0 ≤ r1 := v1
  have v2 : r1 < 9001 := v2
  subst q
  rw [b9]
  refine wp_chk (by omega) (wp_sub ?_)
  generalize hh2 : setA γ1' 80 (γ 11 9 + 2) r1 = γ2
  have s2 : ∀ j k, γ2 j k = if j = 80 ∧ k = γ 11 9 + 2 then r1 else γ1' j k := fun j k => by rw [← hh2, stA]
  have c9 : γ2 11 9 = γ 11 9 := by rw [s2, if_neg (by omega)]; exact b9
  have c56 : γ2 56 s = γ 56 s := by rw [s2, if_neg (by omega), s1, if_neg (by omega), if_neg (by omega)]
  rw [c9, c56]
  refine wp_chk (by omega) (wp_chk (by omega) (wp_bnd (w_madeOf (RR γ2 (fun j k q => by rw [s2, if_neg (by omega), s1, if_neg (by omega), if_neg (by omega)])) (by omega)) (fun r2 γ2' q => ?_)))
  obtain ⟨q, v3, v4⟩ := q
  have q : γ2' = γ2 := q
  have v3 : 0 ≤ r2 := v3
  have v4 : r2 < 9001 := v4
  subst q
  refine wp_chk (by omega) (wp_sub ?_)
  generalize hh3 : setA γ2' 80 (γ 11 9 + 3) r2 = γ3
  have s3 : ∀ j k, γ3 j k = if j = 80 ∧ k = γ 11 9 + 3 then r2 else γ2' j k := fun j k => by rw [← hh3, stA]
  have d9 : γ3 11 9 = γ 11 9 := by rw [s3, if_neg (by omega)]; exact c9
  have d57 : γ3 57 s = γ 57 s := by rw [s3, if_neg (by omega), s2, if_neg (by omega), s1, if_neg (by omega), if_neg (by omega)]
  rw [d9, d57]
  refine wp_chk (by omega) (wp_chk (by omega) (wp_bnd (w_madeOf (RR γ3 (fun j k q => by rw [s3, if_neg (by omega), s2, if_neg (by omega), s1, if_neg (by omega), if_neg (by omega)])) (by omega)) (fun r3 γ3' q => ?_)))
  obtain ⟨q, v5, v6⟩ := q
  have q : γ3' = γ3 := q
  have v5 : 0 ≤ r3 := v5
  have v6 : r3 < 9001 := v6
  subst q
  refine wp_chk (by omega) (wp_sub ?_)
  generalize hh4 : setA γ3' 80 (γ 11 9 + 4) r3 = γ4
  have s4 : ∀ j k, γ4 j k = if j = 80 ∧ k = γ 11 9 + 4 then r3 else γ3' j k := fun j k => by rw [← hh4, stA]
  have f9 : γ4 11 9 = γ 11 9 := by rw [s4, if_neg (by omega)]; exact d9
  have f58 : γ4 58 s = γ 58 s := by rw [s4, if_neg (by omega), s3, if_neg (by omega), s2, if_neg (by omega), s1, if_neg (by omega), if_neg (by omega)]
  rw [f9, f58]
  refine wp_chk (by omega) (wp_chk (by omega) (wp_chk (by omega) (wp_sub ?_)))
  have g9 : setA γ4 80 (γ 11 9 + 5) (γ 58 s) 11 9 = γ 11 9 := by rw [stA, if_neg (by omega)]; exact f9
  rw [g9]
  refine wp_chk (by omega) (wp_sub (wp_some ?_))
  generalize hh5 : setA (setA γ4 80 (γ 11 9 + 5) (γ 58 s)) 11 9 (γ 11 9 + 6) = γ5
  have s5 : ∀ j k, γ5 j k = if j = 11 ∧ k = 9 then γ 11 9 + 6 else if j = 80 ∧ k = γ 11 9 + 5 then γ 58 s else if j = 80 ∧ k = γ 11 9 + 4 then r3 else if j = 80 ∧ k = γ 11 9 + 3 then r2 else if j = 80 ∧ k = γ 11 9 + 2 then r1 else if j = 80 ∧ k = γ 11 9 + 1 then s else if j = 80 ∧ k = γ 11 9 then γ 54 s else γ j k := fun j k => by rw [← hh5, stA, stA, s4, s3, s2, s1]
  have k0 : γ5 80 (γ 11 9) = γ 54 s := by rw [s5, if_neg (by omega), if_neg (by omega), if_neg (by omega), if_neg (by omega), if_neg (by omega), if_neg (by omega), if_pos ⟨rfl, rfl⟩]
  have k1 : γ5 80 (γ 11 9 + 1) = s := by rw [s5, if_neg (by omega), if_neg (by omega), if_neg (by omega), if_neg (by omega), if_neg (by omega), if_pos ⟨rfl, rfl⟩]
  have k2 : γ5 80 (γ 11 9 + 2) = r1 := by rw [s5, if_neg (by omega), if_neg (by omega), if_neg (by omega), if_neg (by omega), if_pos ⟨rfl, rfl⟩]
  have k3 : γ5 80 (γ 11 9 + 3) = r2 := by rw [s5, if_neg (by omega), if_neg (by omega), if_neg (by omega), if_pos ⟨rfl, rfl⟩]
  have k4 : γ5 80 (γ 11 9 + 4) = r3 := by rw [s5, if_neg (by omega), if_neg (by omega), if_pos ⟨rfl, rfl⟩]
  have k5 : γ5 80 (γ 11 9 + 5) = γ 58 s := by rw [s5, if_neg (by omega), if_pos ⟨rfl, rfl⟩]
  have k811 : γ5 8 11 = γ 8 11 := by rw [s5]; simp
  refine ⟨by show γ5 11 9 = _; rw [s5]; simp, ?_, fun j k q1 q2 => ?_⟩
  · show StI γ5 (γ 11 9)
    unfold StI
    rw [k0, k1, k2, k3, k4, k5, k811]
    exact ⟨by omega, by omega, by omega, by omega, a6, a7⟩
  · show γ5 j k = γ j k
    rw [s5, if_neg (by omega), if_neg (by omega), if_neg (by omega), if_neg (by omega), if_neg (by omega), if_neg (by omega), if_neg (by omega)]
/-- within buildSteps -/
def BsI (γ0 : St) (V : Int) (γ : St) (i : Int) : Prop := FrP γ0 γ ∧ RowI γ ∧ γ 11 9 = 6 * sm (fun k => opW γ0 (γ0 75 k)) 0 i ∧ (∀ j k, j = 11 → k ≠ 9 → γ j k = γ0 j k) ∧ (∀ j k, 81 ≤ j → j ≠ 84 → j ≠ 85 → γ j k = γ0 j k) ∧ ∀ t, 0 ≤ t → 6 * t < γ 11 9 → StI γ (6 * t)
theorem opW_b (γ : St) (s : Int) : 0 ≤ opW γ s ∧ opW γ s ≤ 1 := by
  unfold opW
  split
  · omega
  · split <;> omega
set_option maxHeartbeats 1000000 in
theorem w_bs_L7 {γ0 : St} {V : Int} (hL : LdI γ0 V) (hS : SrI γ0 V (γ0 8 5)) (hop : sm (fun k => opW γ0 (γ0 75 k)) 0 (γ0 8 5) ≤ 3000) : ∀ (n : Nat) (γ : St) (i : Int), BsI γ0 V γ i → 0 ≤ i → i ≤ γ0 8 5 → γ0 8 5 - i < n → wp (f_Pg_buildSteps_L7 n γ i) (fun z => BsI γ0 V z.2 (γ0 8 5)) := by
  have ⟨l1, l2, l3, l4, l5, l6⟩ := hL
  intro n
  induction n with
  | zero => intro γ i h h1 h2 h3; exfalso; omega
  | succ n ih =>
    intro γ i h h1 h2 h3
    have ⟨hF, hR, h9, h11, h81, hst⟩ := h
    have e11 : γ 10 11 = γ0 8 5 := by rw [hF 10 11 (by omega) (by omega)]; exact hS.1
    unfold f_Pg_buildSteps_L7
    rw [e11]
    refine wp_ite (fun c => wp_some (by rw [show γ0 8 5 = i by omega]; exact h)) (fun c => ?_)
    have z := hS.2.1 i h1 (by omega)
    have e75 := hF 75 i (by omega) (by omega)
    have s1 := sm_succ (f := fun k => opW γ0 (γ0 75 k)) (a := 0) (b := i) h1
    have s1 : sm (fun k => opW γ0 (γ0 75 k)) 0 (i + 1) = sm (fun k => opW γ0 (γ0 75 k)) 0 i + opW γ0 (γ0 75 i) := s1
    have n0 := sm_nn (f := fun k => opW γ0 (γ0 75 k)) (a := 0) (b := i) (fun k _ _ => (opW_b γ0 _).1)
    have le : sm (fun k => opW γ0 (γ0 75 k)) 0 (i + 1) ≤ 3000 := by
      have x : ∀ m : Nat, i + 1 + m ≤ γ0 8 5 → sm (fun k => opW γ0 (γ0 75 k)) 0 (i + 1) ≤ sm (fun k => opW γ0 (γ0 75 k)) 0 (i + 1 + m) := by
        intro m
        induction m with
        | zero => intro _; rw [show i + 1 + ((0 : Nat) : Int) = i + 1 by omega]; exact Int.le_refl _
        | succ m ihm =>
          intro hm
          have := ihm (by omega)
          have b := opW_b γ0 (γ0 75 (i + 1 + m))
          have y := sm_succ (f := fun k => opW γ0 (γ0 75 k)) (a := 0) (b := i + 1 + m) (by omega)
          have y : sm (fun k => opW γ0 (γ0 75 k)) 0 (i + 1 + m + 1) = sm (fun k => opW γ0 (γ0 75 k)) 0 (i + 1 + m) + opW γ0 (γ0 75 (i + 1 + m)) := y
          rw [show i + 1 + ((m + 1 : Nat) : Int) = i + 1 + m + 1 by omega]
          omega
      have := x (γ0 8 5 - i - 1).toNat (by omega)
      rw [show i + 1 + (((γ0 8 5 - i - 1).toNat : Nat) : Int) = γ0 8 5 by omega] at this
      omega
    rw [e75]
    generalize γ0 75 i = s at *
    refine wp_chk (by omega) (wp_sub (wp_chk (by omega) (wp_sub (wp_chk (by omega) (wp_sub ?_)))))
    generalize hh : setA (setA γ 78 s s) 79 s 0 = γ1
    have u : ∀ j k, γ1 j k = if j = 79 ∧ k = s then 0 else if j = 78 ∧ k = s then s else γ j k := fun j k => by rw [← hh, stA, stA]
    have uo : ∀ j k, j ≠ 78 → j ≠ 79 → γ1 j k = γ j k := fun j k q1 q2 => by rw [u, if_neg (by omega), if_neg (by omega)]
    have u54 : γ1 54 s = γ0 54 s := by rw [uo 54 s (by omega) (by omega)]; exact hF 54 s (by omega) (by omega)
    have u55 : γ1 55 s = γ0 55 s := by rw [uo 55 s (by omega) (by omega)]; exact hF 55 s (by omega) (by omega)
    have hR1 : RowI γ1 := ⟨fun x q1 q2 => by
      rw [u]
      by_cases q : x = s
      · rw [if_neg (by omega), if_pos ⟨rfl, q⟩]; omega
      · rw [if_neg (by omega), if_neg (fun r => q r.2)]; exact hR.1 x q1 q2, fun x q1 q2 => by rw [uo 84 x (by omega) (by omega), uo 85 x (by omega) (by omega)]; exact hR.2 x q1 q2⟩
    have sl := l5 s z.1 z.2
    have op0 : opW γ0 s = if γ0 54 s = 2 then 0 else if γ0 54 s = 3 then 0 else 1 := rfl
    -- how the loop goes on where no step is added
    have nx : ∀ γ2 : St, opW γ0 s = 0 → (∀ j k, j ≠ 78 → j ≠ 79 → γ2 j k = γ j k) → RowI γ2 → wp (f_Pg_buildSteps_b130 (f_Pg_buildSteps_L7 n) γ2 i) (fun z => BsI γ0 V z.2 (γ0 8 5)) := fun γ2 q1 q2 q3 => by
      unfold f_Pg_buildSteps_b130
      refine wp_chk (by omega) (ih γ2 (i + 1) ⟨fun j k r1 r2 => by rw [q2 j k (by omega) (by omega)]; exact hF j k r1 r2, q3, ?_, fun j k r1 r2 => by rw [q2 j k (by omega) (by omega)]; exact h11 j k r1 r2, fun j k r1 r2 r3 => by rw [q2 j k (by omega) (by omega)]; exact h81 j k r1 r2 r3, fun t r1 r2 => ?_⟩ (by omega) (by omega) (by omega))
      · rw [q2 11 9 (by omega) (by omega)]; omega
      · rw [q2 11 9 (by omega) (by omega)] at r2
        have y := hst t r1 r2
        unfold StI at y ⊢
        rw [q2 80 _ (by omega) (by omega), q2 80 _ (by omega) (by omega), q2 80 _ (by omega) (by omega), q2 80 _ (by omega) (by omega), q2 80 _ (by omega) (by omega), q2 80 _ (by omega) (by omega), q2 8 11 (by omega) (by omega)]
        exact y
    rw [u54, u55]
    refine wp_chk (by omega) (wp_ite (fun c2 => wp_chk (by omega) (wp_ite (fun c3 => ?_) (fun c3 => ?_))) (fun c2 => wp_chk (by omega) (wp_ite (fun c4 => ?_) (fun c4 => ?_))))
    · have o1 : opW γ0 s = 1 := by rw [op0, if_neg c2, if_neg c3]
      have sl1 : SlI V γ1 s := sl.up (fun j q1 q2 => by rw [uo j s (by omega) (by omega)]; exact hF j s (by omega) (by omega)) (Int.le_of_eq (by rw [uo 8 5 (by omega) (by omega)]; exact (hF 8 5 (by omega) (by omega)).symm)) (Int.le_of_eq (by rw [uo 8 11 (by omega) (by omega)]; exact (hF 8 11 (by omega) (by omega)).symm))
      have v85 : γ1 8 5 = γ0 8 5 := by rw [uo 8 5 (by omega) (by omega)]; exact hF 8 5 (by omega) (by omega)
      have v9 : γ1 11 9 = γ 11 9 := uo 11 9 (by omega) (by omega)
      refine wp_bnd (w_addStep hR1 (by omega) (by omega) sl1 (by omega)) (fun r γ2 q => ?_)
      obtain ⟨q1, q2, q3⟩ := q
      have q1 : γ2 11 9 = γ1 11 9 + 6 := q1
      have q2 : StI γ2 (γ1 11 9) := q2
      have q3 : ∀ j k, (j ≠ 11 ∨ k ≠ 9) → (j ≠ 80 ∨ k < γ1 11 9) → γ2 j k = γ1 j k := q3
      unfold f_Pg_buildSteps_b130
      refine wp_chk (by omega) (ih γ2 (i + 1) ⟨fun j k r1 r2 => by rw [q3 j k (by omega) (by omega), uo j k (by omega) (by omega)]; exact hF j k r1 r2, ⟨fun x r1 r2 => by rw [q3 78 x (by omega) (by omega)]; exact hR1.1 x r1 r2, fun x r1 r2 => by rw [q3 84 x (by omega) (by omega), q3 85 x (by omega) (by omega)]; exact hR1.2 x r1 r2⟩, by omega, fun j k r1 r2 => by rw [q3 j k (by omega) (by omega), uo j k (by omega) (by omega)]; exact h11 j k r1 r2, fun j k r1 r2 r3 => by rw [q3 j k (by omega) (by omega), uo j k (by omega) (by omega)]; exact h81 j k r1 r2 r3, fun t r1 r2 => ?_⟩ (by omega) (by omega) (by omega))
      by_cases r : 6 * t < γ 11 9
      · have y := hst t r1 r
        have g : ∀ k, k < γ 11 9 → γ2 80 k = γ 80 k := fun k w => by rw [q3 80 k (by omega) (by omega), uo 80 k (by omega) (by omega)]
        have g811 : γ2 8 11 = γ 8 11 := by rw [q3 8 11 (by omega) (by omega), uo 8 11 (by omega) (by omega)]
        unfold StI at y ⊢
        rw [g _ (by omega), g _ (by omega), g _ (by omega), g _ (by omega), g _ (by omega), g _ (by omega), g811]
        exact y
      · have : 6 * t = γ1 11 9 := by omega
        rw [this]
        exact q2
    · refine wp_chk (by omega) (wp_chk (by omega) (wp_sub (nx _ (by rw [op0, if_neg c2, if_pos (by omega)]) (fun j k q1 q2 => by rw [stA, if_neg (by omega)]; exact uo j k q1 q2) ⟨fun x q1 q2 => by rw [stA, if_neg (by omega)]; exact hR1.1 x q1 q2, fun x q1 q2 => by rw [stA, if_neg (by omega), stA, if_neg (by omega)]; exact hR1.2 x q1 q2⟩)))
    · have rr := hR1.1 (γ0 55 s) c4 (by have := sl.1; omega)
      unfold f_Pg_buildSteps_b90
      refine wp_chk (by omega) (wp_chk (by have := sl.1; omega) (wp_chk (by omega) (wp_sub (nx _ (by rw [op0, if_pos (by omega)]) (fun j k q1 q2 => by rw [stA, if_neg (by omega)]; exact uo j k q1 q2) ⟨fun x q1 q2 => ?_, fun x q1 q2 => by rw [stA, if_neg (by omega), stA, if_neg (by omega)]; exact hR1.2 x q1 q2⟩))))
      rw [stA]
      by_cases q : x = s
      · rw [if_pos ⟨rfl, q⟩]; exact rr
      · rw [if_neg (fun r => q r.2)]; exact hR1.1 x q1 q2
    · unfold f_Pg_buildSteps_b90
      refine wp_chk (by omega) (wp_sub (nx _ (by rw [op0, if_pos (by omega)]) (fun j k q1 q2 => by rw [stA, if_neg (by omega)]; exact uo j k q1 q2) ⟨fun x q1 q2 => ?_, fun x q1 q2 => by rw [stA, if_neg (by omega), stA, if_neg (by omega)]; exact hR1.2 x q1 q2⟩))
      rw [stA]
      by_cases q : x = s
      · rw [if_pos ⟨rfl, q⟩]; omega
      · rw [if_neg (fun r => q r.2)]; exact hR1.1 x q1 q2
