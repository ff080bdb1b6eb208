/-! the class's program: run; what reaches what -/
/-- values, clocks, cells and what is shown change alone -/
def FrV (γ γ' : St) : Prop := ∀ j k, j ≠ 79 → j ≠ 87 → j ≠ 81 → j ≠ 76 → γ' j k = γ j k
theorem FrV.rf {γ : St} : FrV γ γ := fun _ _ _ _ _ _ => rfl
theorem FrV.tr {a b c : St} (h : FrV a b) (k : FrV b c) : FrV a c := fun j i q1 q2 q3 q4 => (k j i q1 q2 q3 q4).trans (h j i q1 q2 q3 q4)
theorem FrV.set {γ0 γ : St} {j : Nat} {i v : Int} (h : FrV γ0 γ) (hj : j = 79 ∨ j = 87 ∨ j = 81 ∨ j = 76) : FrV γ0 (setA γ j i v) := fun a k q1 q2 q3 q4 => by rw [stA, if_neg (by omega)]; exact h a k q1 q2 q3 q4
theorem PgI.ext {γ γ' : St} (h : PgI γ) (e : ∀ j k, (j = 8 ∨ j = 11 ∨ j = 55 ∨ j = 56 ∨ j = 57 ∨ j = 59 ∨ j = 61 ∨ j = 62 ∨ j = 78 ∨ j = 80 ∨ j = 83 ∨ j = 84 ∨ j = 85) → γ' j k = γ j k) : PgI γ' := by
  have ⟨a1, a2, a3, a4, a5, a6, a7, a8, a9, a10, a11, a12⟩ := h
  unfold PgI
  rw [e 8 8 (by omega), e 8 5 (by omega), e 8 11 (by omega), e 11 4 (by omega), e 11 5 (by omega), e 11 9 (by omega), e 11 17 (by omega)]
  refine ⟨⟨fun x q1 q2 => by rw [e 78 x (by omega)]; exact a1.1 x q1 q2, fun x q1 q2 => by rw [e 84 x (by omega), e 85 x (by omega)]; exact a1.2 x q1 q2⟩, a2, a3, a4, a5, a6, fun t q1 q2 => ?_, a8, fun c q1 q2 => by rw [e 83 c (by omega)]; exact a9 c q1 q2, fun s q1 q2 => by rw [e 59 s (by omega)]; exact a10 s q1 q2, fun i q1 q2 => by rw [e 61 i (by omega), e 62 i (by omega)]; exact a11 i q1 q2, fun s j q1 q2 q3 q4 => ?_⟩
  · have y := a7 t q1 q2
    unfold StI at y ⊢
    rw [e 80 _ (by omega), e 80 _ (by omega), e 80 _ (by omega), e 80 _ (by omega), e 80 _ (by omega), e 80 _ (by omega), e 8 11 (by omega)]
    exact y
  · unfold sdV
    rw [e 55 s (by omega), e 56 s (by omega), e 57 s (by omega)]
    exact a12 s j q1 q2 q3 q4
theorem PgI.v {γ γ' : St} (h : PgI γ) (hF : FrV γ γ') : PgI γ' := h.ext (fun j k q => hF j k (by omega) (by omega) (by omega) (by omega))
set_option maxHeartbeats 2000000 in
theorem w_result {γ : St} {t : Int} (h : PgI γ) (h1 : 0 ≤ t) (h2 : 6 * t < γ 11 9) : wp (f_Pg_result γ (6 * t)) (fun z => z.2 = γ) := by
  have ⟨a1, a2, a3, a4, a5, a6, a7, a8, a9, a10, a11, a12⟩ := h
  have y := a7 t h1 h2
  obtain ⟨k, k1, k2, k3⟩ := a6
  have ⟨y1, y2, y3, y4, y5, y6⟩ := y
  have cc := a11 (γ 80 (6 * t + 5))
  unfold f_Pg_result
  refine wp_chk (by omega) (wp_chk (by omega) (wp_chk (by omega) (wp_sub (wp_chk (by omega) (wp_chk (by omega) (wp_chk (by omega) (wp_sub (wp_chk (by omega) (wp_chk (by omega) (wp_sub (wp_chk (by omega) ?_)))))))))))
  repeat (first | exact wp_some rfl | refine wp_chk (by first | omega | assumption) ?_ | refine wp_ite (fun _ => ?_) (fun _ => ?_))
theorem w_turn_L2 {γ0 : St} (h0 : PgI γ0) : ∀ (n : Nat) (γ : St) (i : Int), FrV γ0 γ → 1 ≤ i → i ≤ γ0 11 17 → γ0 11 17 - i < n → wp (f_Pg_turnClocks_L2 n γ i) (fun z => FrV γ0 z.2) := by
  have ⟨a1, a2, a3, a4, a5, a6, a7, a8, a9, a10, a11, a12⟩ := h0
  intro n
  induction n with
  | zero => intro γ i hF h1 h2 h3; exfalso; omega
  | succ n ih =>
    intro γ i hF h1 h2 h3
    have e := fun j k (q : j = 11 ∨ j = 84 ∨ j = 85) => hF j k (by omega) (by omega) (by omega) (by omega)
    unfold f_Pg_turnClocks_L2
    rw [e 11 17 (by omega)]
    refine wp_ite (fun _ => wp_some hF) (fun c => ?_)
    have z := a1.2 i (by omega) (by omega)
    rw [e 85 i (by omega), e 84 i (by omega)]
    have g : ∀ v, wp (f_Pg_turnClocks_b50 (f_Pg_turnClocks_L2 n) γ i v i) (fun z => FrV γ0 z.2) := fun v => by
      unfold f_Pg_turnClocks_b50
      exact wp_chk (by omega) (wp_sub (wp_chk (by omega) (ih _ _ (hF.set (by omega)) (by omega) (by omega) (by omega))))
    exact wp_chk (by omega) (wp_chk (by omega) (wp_chk (by omega) (wp_ite (fun _ => g 0) (fun _ => wp_chk (by omega) (wp_chk (by omega) (g _))))))
theorem w_fill_L2 {γ0 : St} (h0 : PgI γ0) : ∀ (n : Nat) (γ : St) (i : Int), FrV γ0 γ → 0 ≤ i → i ≤ γ0 8 11 → γ0 8 11 - i < n → wp (f_Pg_fillCells_L2 n γ i) (fun z => FrV γ0 z.2) := by
  have ⟨a1, a2, a3, a4, a5, a6, a7, a8, a9, a10, a11, a12⟩ := h0
  intro n
  induction n with
  | zero => intro γ i hF h1 h2 h3; exfalso; omega
  | succ n ih =>
    intro γ i hF h1 h2 h3
    have e := fun j k (q : j = 8 ∨ j = 61 ∨ j = 62) => hF j k (by omega) (by omega) (by omega) (by omega)
    unfold f_Pg_fillCells_L2
    rw [e 8 11 (by omega)]
    refine wp_ite (fun _ => wp_some hF) (fun c => ?_)
    have z := a11 i (by omega) (by omega)
    rw [e 62 i (by omega), e 61 i (by omega)]
    have g : ∀ γ2, FrV γ0 γ2 → wp (f_Pg_fillCells_b51 (f_Pg_fillCells_L2 n) γ2 i) (fun z => FrV γ0 z.2) := fun γ2 q => by
      unfold f_Pg_fillCells_b51
      exact wp_chk (by omega) (ih _ _ q (by omega) (by omega) (by omega))
    exact wp_chk (by omega) (wp_chk (by omega) (wp_ite (fun _ => g _ hF) (fun _ => wp_chk (by omega) (wp_chk (by omega) (wp_chk (by omega) (wp_sub (g _ (hF.set (by omega)))))))))
theorem w_run_L86 {γ0 : St} (h0 : PgI γ0) : ∀ (n : Nat) (γ : St) (i : Int), FrV γ0 γ → 0 ≤ i → i ≤ γ0 11 5 → γ0 11 5 - i < n → wp (f_Pg_run_L86 n γ i) (fun z => FrV γ0 z.2) := by
  have ⟨a1, a2, a3, a4, a5, a6, a7, a8, a9, a10, a11, a12⟩ := h0
  intro n
  induction n with
  | zero => intro γ i hF h1 h2 h3; exfalso; omega
  | succ n ih =>
    intro γ i hF h1 h2 h3
    have e := fun j k (q : j = 11 ∨ j = 59 ∨ j = 83 ∨ j = 78) => hF j k (by omega) (by omega) (by omega) (by omega)
    unfold f_Pg_run_L86
    rw [e 11 5 (by omega)]
    refine wp_ite (fun _ => wp_some hF) (fun c => ?_)
    have z := a10 i (by omega) (by omega)
    have y := a9 (γ0 59 i) z.1 z.2
    have w := a1.1 i (by omega) (by omega)
    rw [e 59 i (by omega), e 83 _ (by omega), e 78 i (by omega)]
    have g : ∀ v, wp (f_Pg_run_b140 (f_Pg_run_L86 n) γ i v i) (fun z => FrV γ0 z.2) := fun v => by
      unfold f_Pg_run_b140
      exact wp_chk (by omega) (wp_sub (wp_chk (by omega) (ih _ _ (hF.set (by omega)) (by omega) (by omega) (by omega))))
    exact wp_chk (by omega) (wp_chk (by omega) (wp_chk (by omega) (wp_ite (fun _ => g _) (fun _ => wp_chk (by omega) (wp_chk (by omega) (g _))))))
theorem w_run_L35 {γ0 : St} (h0 : PgI γ0) {e70 : St → Int → Int → Option (Int × St)} {Q : Int × St → Prop} {x30 x31 : Int} (hQ : ∀ γ, FrV γ0 γ → wp (e70 γ x30 x31) Q) : ∀ (n : Nat) (γ : St) (t : Int), FrV γ0 γ → 0 ≤ t → 6 * t ≤ γ0 11 9 → γ0 11 9 - 6 * t < n → wp (f_Pg_run_L35 e70 n γ x30 x31 (6 * t)) Q := by
  have ⟨a1, a2, a3, a4, a5, a6, a7, a8, a9, a10, a11, a12⟩ := h0
  obtain ⟨k, k1, k2, k3⟩ := a6
  intro n
  induction n with
  | zero => intro γ t hF h1 h2 h3; exfalso; omega
  | succ n ih =>
    intro γ t hF h1 h2 h3
    have e := fun j k (q : j = 11 ∨ j = 80) => hF j k (by omega) (by omega) (by omega) (by omega)
    unfold f_Pg_run_L35
    rw [e 11 9 (by omega)]
    refine wp_ite (fun _ => hQ γ hF) (fun c => ?_)
    have y := a7 t h1 (by omega)
    refine wp_chk (by omega) (wp_chk (by omega) (wp_bnd (w_result (h0.v hF) h1 (by rw [e 11 9 (by omega)]; omega)) (fun r γ2 q => ?_)))
    have q : γ2 = γ := q
    subst q
    rw [e 80 _ (by omega)]
    have y1 := y.1
    refine wp_chk (by omega) (wp_sub (wp_chk (by omega) ?_))
    rw [show 6 * t + 6 = 6 * (t + 1) by omega]
    exact ih _ (t + 1) (hF.set (by omega)) (by omega) (by omega) (by omega)
theorem w_run_L27 {γ0 : St} (h0 : PgI γ0) {N : Int} (hN : N ≤ 1000) : ∀ (n : Nat) (γ : St) (i : Int), FrV γ0 γ → 0 ≤ i → i ≤ N → N - i < n → wp (f_Pg_run_L27 f_Pg_run_b84 n γ N i) (fun z => FrV γ0 z.2) := by
  have ⟨a1, a2, a3, a4, a5, a6, a7, a8, a9, a10, a11, a12⟩ := h0
  obtain ⟨k, k1, k2, k3⟩ := a6
  have := FU_v
  intro n
  induction n with
  | zero => intro γ i hF h1 h2 h3; exfalso; omega
  | succ n ih =>
    intro γ i hF h1 h2 h3
    unfold f_Pg_run_L27
    refine wp_ite (fun _ => ?_) (fun c => ?_)
    · unfold f_Pg_run_b84
      exact w_run_L86 h0 FU γ 0 hF (by omega) (by omega) (by omega)
    · refine w_run_L35 h0 (fun γ2 q => ?_) FU γ 0 hF (by omega) (by omega) (by omega)
      unfold f_Pg_run_b70 f_Pg_turnClocks f_Pg_fillCells
      exact wp_bnd (w_turn_L2 h0 FU γ2 1 q (by omega) (by omega) (by omega)) (fun r γ3 q3 => wp_bnd (w_fill_L2 h0 FU γ3 0 q3 (by omega) (by omega) (by omega)) (fun r2 γ4 q4 => wp_chk (by omega) (ih γ4 (i + 1) q4 (by omega) (by omega) (by omega))))
theorem w_run_L2 {γ0 : St} (h0 : PgI γ0) {N : Int} (hN : 0 ≤ N ∧ N ≤ 1000) : ∀ (n : Nat) (γ : St) (i : Int), FrV γ0 γ → 0 ≤ i → i ≤ γ0 11 4 → γ0 11 4 - i < n → wp (f_Pg_run_L2 f_Pg_run_b25 n γ N i) (fun z => FrV γ0 z.2) := by
  have ⟨a1, a2, a3, a4, a5, a6, a7, a8, a9, a10, a11, a12⟩ := h0
  have := FU_v
  intro n
  induction n with
  | zero => intro γ i hF h1 h2 h3; exfalso; omega
  | succ n ih =>
    intro γ i hF h1 h2 h3
    have e := hF 11 4 (by omega) (by omega) (by omega) (by omega)
    unfold f_Pg_run_L2
    rw [e]
    refine wp_ite (fun _ => ?_) (fun c => ?_)
    · unfold f_Pg_run_b25
      exact w_run_L27 h0 hN.2 FU γ 0 hF (by omega) (by omega) (by omega)
    · exact wp_chk (by omega) (wp_chk (by omega) (wp_sub (wp_chk (by omega) (ih _ (i + 1) (hF.set (by omega)) (by omega) (by omega) (by omega)))))
theorem w_run {γ : St} {N : Int} (h : PgI γ) (hN : 0 ≤ N ∧ N ≤ 1000) : wp (f_Pg_run γ N) (fun z => FrV γ z.2) := by
  have := FU_v
  have a5 := h.2.2.2.2.1
  unfold f_Pg_run
  exact w_run_L2 h hN FU γ 0 FrV.rf (by omega) (by omega) (by omega)
/-- what was asked: marks are never beyond the number of the question -/
def AskI (c : Int) (γ : St) : Prop := (0 ≤ γ 10 12 ∧ γ 10 12 ≤ c) ∧ ∀ s, 0 ≤ s → s < γ 8 5 → 0 ≤ γ 74 s ∧ γ 74 s ≤ γ 10 12
def mkW (γ : St) : Int → Int := fun s => if γ 74 s = γ 10 12 then 1 else 0
/-- within reaches -/
def ReI (γ0 : St) (γ : St) (u : Int) : Prop := (∀ j k, j ≠ 73 → j ≠ 74 → γ j k = γ0 j k) ∧ sm (mkW γ) 0 (γ0 8 5) = u ∧ (∀ s, 0 ≤ s → s < γ0 8 5 → 0 ≤ γ 74 s ∧ γ 74 s ≤ γ0 10 12) ∧ ∀ i, 0 ≤ i → i < u → 0 ≤ γ 73 i ∧ γ 73 i < γ0 8 5
def RxP (γ0 : St) (z : Int × St) : Prop := (∀ j k, j ≠ 73 → j ≠ 74 → z.2 j k = γ0 j k) ∧ (∀ s, 0 ≤ s → s < γ0 8 5 → 0 ≤ z.2 74 s ∧ z.2 74 s ≤ γ0 10 12) ∧ (z.1 = 0 ∨ z.1 = 1)
theorem ReI.le {γ0 γ : St} {u : Int} (h : ReI γ0 γ u) (hS : 0 ≤ γ0 8 5) : 0 ≤ u ∧ u ≤ γ0 8 5 := by
  rw [← h.2.1]
  refine ⟨sm_nn (fun i _ _ => ?_), sm_le hS (fun i _ _ => ?_)⟩
  · show 0 ≤ (if γ 74 i = γ 10 12 then (1 : Int) else 0)
    split <;> omega
  · show (if γ 74 i = γ 10 12 then (1 : Int) else 0) ≤ 1
    split <;> omega
theorem w_re_b130 {γ0 γ : St} {u b : Int} (hb : 0 ≤ b ∧ b < γ0 8 5) (hS : γ0 8 5 ≤ 9001) (h : ReI γ0 γ u) : wp (f_Od_reaches_b130 γ b) (RxP γ0) := by
  unfold f_Od_reaches_b130
  exact wp_chk (by omega) (wp_ite (fun _ => wp_some ⟨h.1, h.2.2.1, Or.inl rfl⟩) (fun _ => wp_some ⟨h.1, h.2.2.1, Or.inr rfl⟩))
set_option maxHeartbeats 1000000 in
theorem w_re_L53 {γ0 : St} {b i : Int} {e124 : St → Int → Int → Int → Option (Int × St)} {Q : Int × St → Prop} (hP : PgI γ0) (hS : 0 ≤ γ0 8 5 ∧ γ0 8 5 ≤ 9001) (hQ : ∀ γ u', ReI γ0 γ u' → i < u' → wp (e124 γ b u' i) Q) : ∀ (n : Nat) (γ : St) (u j : Int), ReI γ0 γ u → 0 ≤ i → i < u → 0 ≤ j → j ≤ 3 → 3 - j < n → wp (f_Od_reaches_L53 e124 n γ b u i j) Q := by
  intro n
  induction n with
  | zero => intro γ u j h h1 h2 h3 h4 h5; exfalso; omega
  | succ n ih =>
    intro γ u j h h1 h2 h3 h4 h5
    have ul := h.le hS.1
    unfold f_Od_reaches_L53
    refine wp_ite (fun _ => hQ γ u h h2) (fun c => ?_)
    have p := h.2.2.2 i h1 h2
    have es : sdV γ (γ 73 i) j = sdV γ0 (γ 73 i) j := by unfold sdV; rw [h.1 55 _ (by omega) (by omega), h.1 56 _ (by omega) (by omega), h.1 57 _ (by omega) (by omega)]
    have sd := hP.2.2.2.2.2.2.2.2.2.2.2 (γ 73 i) j p.1 p.2 h3 (by omega)
    refine wp_chk (by omega) (wp_bs (side_eq (by omega)) ?_)
    rw [es]
    generalize sdV γ0 (γ 73 i) j = c at *
    have nx : ∀ γ2 u2, ReI γ0 γ2 u2 → i < u2 → wp (f_Od_reaches_b118 (f_Od_reaches_L53 e124 n) e124 γ2 b u2 i j) Q := fun γ2 u2 q1 q2 => by
      unfold f_Od_reaches_b118
      exact wp_chk (by omega) (ih γ2 u2 (j + 1) q1 h1 q2 (by omega) (by omega) (by omega))
    refine wp_ite (fun _ => nx γ u h h2) (fun c0 => wp_chk (by omega) (wp_ite (fun _ => nx γ u h h2) (fun c1 => ?_)))
    have e12 := h.1 10 12 (by omega) (by omega)
    rw [e12] at c1 ⊢
    -- one more is marked
    have g0 : ∀ x, 0 ≤ x → x < 9001 → ∀ y z, (∀ jj k, setA (setA γ 74 c (γ0 10 12)) 73 y z jj k = if jj = 73 ∧ k = y then z else if jj = 74 ∧ k = c then γ0 10 12 else γ jj k) := fun _ _ _ y z jj k => by rw [stA, stA]
    have cntu : u + 1 ≤ γ0 8 5 ∧ ∀ γ2 : St, (∀ jj k, γ2 jj k = if jj = 73 ∧ k = u then c else if jj = 74 ∧ k = c then γ0 10 12 else γ jj k) → ReI γ0 γ2 (u + 1) := by
      have mk : ∀ γ2 : St, (∀ jj k, γ2 jj k = if jj = 73 ∧ k = u then c else if jj = 74 ∧ k = c then γ0 10 12 else γ jj k) → sm (mkW γ2) 0 (γ0 8 5) = u + 1 := fun γ2 s2 => by
        have k12 : γ2 10 12 = γ0 10 12 := by rw [s2]; simp; exact e12
        rw [sm_upd (f := mkW γ2) (g := mkW γ) (c := c) (by omega) (by omega) (fun x _ _ q => by unfold mkW; rw [k12, e12, s2]; simp [q]), h.2.1]
        have m1 : mkW γ c = 0 := by unfold mkW; rw [e12, if_neg c1]
        have m2 : mkW γ2 c = 1 := by unfold mkW; rw [k12, s2]; simp
        omega
      have le : u + 1 ≤ γ0 8 5 := by
        have m := mk (setA (setA γ 74 c (γ0 10 12)) 73 u c) (fun jj k => by rw [stA, stA])
        rw [← m]
        refine sm_le hS.1 (fun x _ _ => ?_)
        unfold mkW
        split <;> omega
      refine ⟨le, fun γ2 s2 => ⟨fun jj k q1 q2 => by rw [s2, if_neg (by omega), if_neg (by omega)]; exact h.1 jj k q1 q2, mk γ2 s2, fun s q1 q2 => ?_, fun x q1 q2 => ?_⟩⟩
      · rw [s2]
        by_cases q : s = c
        · rw [if_neg (by omega), if_pos ⟨rfl, q⟩]
          have := h.2.2.1 c (by omega) (by omega)
          omega
        · rw [if_neg (by omega), if_neg (fun r => q r.2)]; exact h.2.2.1 s q1 q2
      · rw [s2]
        by_cases q : x = u
        · rw [if_pos ⟨rfl, q⟩]; omega
        · rw [if_neg (fun r => q r.2), if_neg (by omega)]; exact h.2.2.2 x q1 (by omega)
    refine wp_chk (by omega) (wp_sub (wp_chk (by omega) (wp_sub (wp_chk (by omega) (nx _ (u + 1) (cntu.2 _ (fun jj k => by rw [stA, stA])) (by omega))))))
theorem w_re_L32 {γ0 : St} {b : Int} (hP : PgI γ0) (hb : 0 ≤ b ∧ b < γ0 8 5) (hS : 0 ≤ γ0 8 5 ∧ γ0 8 5 ≤ 9001) : ∀ (n : Nat) (γ : St) (u i : Int), ReI γ0 γ u → 0 ≤ i → i ≤ γ0 8 5 → γ0 8 5 - i < n → wp (f_Od_reaches_L32 f_Od_reaches_b130 n γ b u i) (RxP γ0) := by
  have := FU_v
  intro n
  induction n with
  | zero => intro γ u i h h1 h2 h3; exfalso; omega
  | succ n ih =>
    intro γ u i h h1 h2 h3
    have hE := w_re_b130 hb hS.2 h
    unfold f_Od_reaches_L32
    rw [h.1 8 5 (by omega) (by omega)]
    refine wp_ite (fun _ => hE) (fun c => wp_ite (fun _ => hE) (fun c2 => ?_))
    refine w_re_L53 hP hS (fun γ2 u2 q1 q2 => ?_) FU γ u 0 h h1 (by omega) (by omega) (by omega) (by omega)
    unfold f_Od_reaches_b124
    exact wp_chk (by omega) (ih γ2 u2 (i + 1) q1 (by omega) (by omega) (by omega))
theorem w_reaches {γ : St} {a b c : Int} (hP : PgI γ) (hA : AskI c γ) (hc : c ≤ 600) (ha : 0 ≤ a ∧ a < γ 8 5) (hb : 0 ≤ b ∧ b < γ 8 5) : wp (f_Od_reaches γ a b) (fun z => (∀ j k, j ≠ 73 → j ≠ 74 → (j ≠ 10 ∨ k ≠ 12) → z.2 j k = γ j k) ∧ AskI (c + 1) z.2 ∧ (z.1 = 0 ∨ z.1 = 1)) := by
  have ⟨k1, k2⟩ := hA
  have p3 := hP.2.2.1
  have p2 := hP.2.1
  have := FU_v
  unfold f_Od_reaches
  refine wp_chk (by omega) (wp_sub (wp_chk (by omega) (wp_sub (wp_chk (by omega) (wp_sub ?_)))))
  have s0 : setA (setA γ 10 12 (γ 10 12 + 1)) 73 0 a 10 12 = γ 10 12 + 1 := by simp [stA]
  rw [s0]
  have u : ∀ j k, setA (setA (setA γ 10 12 (γ 10 12 + 1)) 73 0 a) 74 a (γ 10 12 + 1) j k = if j = 74 ∧ k = a then γ 10 12 + 1 else if j = 73 ∧ k = 0 then a else if j = 10 ∧ k = 12 then γ 10 12 + 1 else γ j k := fun j k => by rw [stA, stA, stA]
  generalize setA (setA (setA γ 10 12 (γ 10 12 + 1)) 73 0 a) 74 a (γ 10 12 + 1) = γ1 at *
  have g85 : γ1 8 5 = γ 8 5 := by rw [u]; simp
  have g12 : γ1 10 12 = γ 10 12 + 1 := by rw [u]; simp
  have hP1 : PgI γ1 := hP.ext (fun j k q => by rw [u, if_neg (by omega), if_neg (by omega), if_neg (by omega)])
  have hR : ReI γ1 γ1 1 := by
    refine ⟨fun _ _ _ _ => rfl, ?_, fun s q1 q2 => ?_, fun i q1 q2 => ?_⟩
    · rw [sm_upd (f := mkW γ1) (g := fun _ => 0) (c := a) ha.1 (by omega) (fun x q1 q2 q => by
        unfold mkW
        have := k2 x q1 (by omega)
        rw [g12, if_neg (by rw [u]; simp [q]; omega)])]
      have m : mkW γ1 a = 1 := by unfold mkW; rw [g12, u]; simp
      have z : ∀ m : Nat, sm (fun _ => (0 : Int)) 0 m = 0 := by
        intro m
        induction m with
        | zero => exact sm_nil (by omega)
        | succ m ih => rw [show ((m + 1 : Nat) : Int) = (m : Int) + 1 by omega, sm_succ (by omega), ih]; rfl
      have z2 := z (γ1 8 5).toNat
      rw [show (((γ1 8 5).toNat : Nat) : Int) = γ1 8 5 by omega] at z2
      omega
    · rw [g85] at q2
      rw [g12, u]
      by_cases q : s = a
      · rw [if_pos ⟨rfl, q⟩]; omega
      · rw [if_neg (fun r => q r.2), if_neg (by omega), if_neg (by omega)]
        have := k2 s q1 q2
        omega
    · have : i = 0 := by omega
      rw [this, u]; simp; omega
  refine wp_mono (w_re_L32 (b := b) hP1 (by omega) (by omega) FU γ1 1 0 hR (by omega) (by omega) (by omega)) (fun z hz => ⟨fun j k q1 q2 q3 => by rw [hz.1 j k q1 q2, u, if_neg (by omega), if_neg (by omega), if_neg (by omega)], ⟨?_, fun s q1 q2 => ?_⟩, hz.2.2⟩)
  · rw [hz.1 10 12 (by omega) (by omega), g12]; omega
  · rw [hz.1 8 5 (by omega) (by omega)] at q2
    rw [hz.1 10 12 (by omega) (by omega)]
    exact hz.2.1 s q1 q2
