/-! the reference's nodes: node -/
def NdO (γ : St) (z : Res) : Prop := Rf γ z.2 ∧ ∀ r, z.1 = .inr r → TpW z.2 ∧ z.2 0 18 = γ 0 18 + 1 ∧ γ 0 5 < z.2 0 5
theorem NdO.er {γ γ' : St} {e : Int × Int} (h : Rf γ γ') : NdO γ (.inl e, γ') := ⟨h, fun r q => by cases q⟩
theorem NdJ.lt {γ0 γ : St} (h : NdJ γ0 γ) : γ0 0 30 < γ 0 30 := h.1.2.2.1.2
theorem w_node_b418 {γ0 γ : St} (t : TpW γ0) (j : NdJ γ0 γ) (hc : ∀ v, γ0 0 19 + γ 5 (γ0 0 18) ≤ v → v < γ 0 19 → cntN (γ 18) (γ0 0 31) (v - γ0 0 19) (γ 0 31 - γ0 0 31).toNat = 1) (hk : ∀ e, γ0 0 40 ≤ e → e < γ 0 40 → CkV (γ 0 19 - γ0 0 19) (γ 24 e)) (hl : ∀ k, γ0 0 30 ≤ k → k < γ 0 30 → ∀ e, γ 19 k ≤ e → e ≤ γ 17 k → LoC e (if e = γ 17 k then γ 16 (k + 1) - γ 16 k else 1) γ) : wp (f_M_node_b418 γ) (NdO γ0) := by
  have ⟨h1, h2, h3, ⟨a1, a2, a3, a4, a5⟩, h5, h6, ⟨b1, b2, b3, b4⟩⟩ := j
  have ⟨⟨t1, t2, t3⟩, t4, t5, t6, t7, t8, t9, t10, t11⟩ := t
  have nd := h2.2.1
  have d3 := h2.2.2.1
  have d4 := h2.2.2.2.1
  rw [a1] at nd
  rw [a1, a2] at d3 d4
  have lt := j.lt
  have p := h1
  have pl := h1.2.2.2.1.2.2
  unfold f_M_node_b418
  rw [a1]
  refine wp_chk (by omega) (wp_sub (wp_some ?_))
  have s : ∀ i k, setA γ 0 18 (γ0 0 18 + 1) i k = if i = 0 ∧ k = 18 then γ0 0 18 + 1 else γ i k := fun i k => by rw [stA]
  generalize setA γ 0 18 (γ0 0 18 + 1) = γ1 at *
  have s0 : ∀ i k, (i = 0 → k ≠ 18) → γ1 i k = γ i k := fun i k q => by rw [s, if_neg (by omega)]
  have s18 : γ1 0 18 = γ0 0 18 + 1 := by rw [s, if_pos ⟨rfl, rfl⟩]
  have e19 := s0 0 19 (by omega)
  have e30 := s0 0 30 (by omega)
  have e31 := s0 0 31 (by omega)
  have e40 := s0 0 40 (by omega)
  have e5 := s0 0 5 (by omega)
  have rf : Rf γ0 γ1 := h6.tr ⟨fun i k q1 q2 => s0 i k (by omega), fun b => b.fr (fun k => s0 14 k (by omega)) (fun k => s0 28 k (by omega)) (fun k => s0 25 k (by omega))⟩
  have fn : Fn γ0 γ1 := fun i k q1 q2 q3 q4 q5 q6 q7 q8 q9 => by rw [s0 i k (by omega)]; exact h3 i k q1 q2 q3 q4 q5 q6 q7 q8 q9
  have p0 := h1.2.2.2.2.2.2.2.2.2.2.2
  refine ⟨rf, fun _ _ => ⟨?_, s18, by show γ0 0 5 < γ1 0 5; omega⟩⟩
  show TpW γ1
  unfold TpW
  rw [s18, e19, e30, e31, e40, e5, s0 16 _ (by omega), s0 4 _ (by omega), s0 7 _ (by omega)]
  refine ⟨⟨h2.1.fr (funext fun k => s0 1 k (by omega)) (fun k q => s0 0 k (by omega)), by omega, fun v q1 q2 => by rw [s0 2 v (by omega), s0 3 v (by omega)]; exact h5 v q1 q2⟩, by omega, by omega, by omega, by omega, pl, fun _ => ⟨a3, a5⟩, rf.2 t10, fun f q1 q2 => ?_⟩
  by_cases q : f < γ0 0 18
  · exact NdW.fn t fn q1 q (by omega) (by omega) (by omega) (by omega)
  · have ef : f = γ0 0 18 := by omega
    subst ef
    unfold NdW
    rw [e19, e30, e31, e40, s0 4 _ (by omega), s0 4 _ (by omega), s0 7 _ (by omega), s0 7 _ (by omega), a2, a3, a4, a5]
    have x : NdX γ (γ0 0 18) (γ0 0 19) (γ 0 19) (γ0 0 30) (γ 0 30) (γ0 0 31) (γ 0 31) (γ0 0 40) (γ 0 40) := ⟨h1, hc, hk, hl⟩
    have lk : 0 < γ0 0 18 → γ1 17 (γ0 0 30 - 1) < γ1 19 (γ0 0 30) := fun q3 => by
      obtain ⟨n1, n2, n5, l0, l, P0, P, n3, n4, y⟩ := t11 (γ0 0 18 - 1) (by omega) (by omega)
      have y3 := y.1.2.2.1
      have y11 := y.1.2.2.2.2.2.2.2.2.2.2.1
      rw [show γ0 0 18 - 1 + 1 = γ0 0 18 by omega, (t9 q3).2] at y11 y3
      rw [fn 17 _ (by omega) (by omega) (by omega) (by omega) (by omega) (by omega) (by omega) (by omega) (by omega), s0 19 _ (by omega), h1.2.2.2.2.2.2.2.2.1]
      omega
    exact ⟨Int.le_refl _, Int.le_refl _, lk, _, _, _, _, Int.le_refl _, Int.le_refl _, x.fr ⟨⟨fun k => s0 1 k (by omega), fun k _ => ⟨s0 15 k (by omega), s0 17 k (by omega), s0 19 k (by omega)⟩, fun k _ => s0 16 k (by omega), fun k _ => s0 18 k (by omega), fun i q1 q2 q3 k _ => s0 i k (by omega)⟩, fun g _ => ⟨s0 5 g (by omega), s0 6 g (by omega)⟩, ⟨s0 8 _ (by omega), s0 9 _ (by omega)⟩, fun v _ _ => s0 12 v (by omega)⟩ (fun e _ => s0 24 e (by omega))⟩
theorem w_node_L399 {γ0 : St} (t : TpW γ0) : ∀ (n : Nat) (γ : St) (k s : Int), NdJ γ0 γ → (∀ v, γ0 0 19 + γ 5 (γ0 0 18) ≤ v → v < γ 0 19 → cntN (γ 18) (γ0 0 31) (v - γ0 0 19) (γ 0 31 - γ0 0 31).toNat = 1) → γ0 0 30 ≤ k → k ≤ γ 0 30 → (k < γ 0 30 → γ 19 k = s) → (k = γ 0 30 → s = γ 0 40) → γ0 0 40 ≤ s → (∀ e, γ0 0 40 ≤ e → e < s → CkV (γ 0 19 - γ0 0 19) (γ 24 e)) → (∀ i, γ0 0 30 ≤ i → i < k → ∀ e, γ 19 i ≤ e → e ≤ γ 17 i → LoC e (if e = γ 17 i then γ 16 (i + 1) - γ 16 i else 1) γ) → γ 0 30 - k < n → 0 < n → wp (f_M_node_L399 f_M_node_b418 n γ k) (NdO γ0) := by
  intro n
  induction n with
  | zero => intro γ k s h1 h2 h3 h4 h5 h6 h7 h8 h9 h10 h11; exact absurd h11 (by omega)
  | succ n ih =>
    intro γ k s h1 h2 h3 h4 h5 h6 h7 h8 h9 h10 h11
    have ⟨j1, j2, j3, ⟨a1, a2, a3, a4, a5⟩, j5, j6, ⟨b1, b2, b3, b4⟩⟩ := h1
    have ⟨⟨t1, t2, t3⟩, t4, t5, t6, t7, t8, t9, t10, t11⟩ := t
    have lx := j2.1.1
    have lx5 := j2.1.2.1
    have nd := j2.2.1
    have d3 := j2.2.2.1
    have d4 := j2.2.2.2.1
    rw [a1] at nd
    rw [a1, a2] at d3 d4
    have p := j1.2.2.2.2.2.2.2.2
    have pq := j1.2.2.2.1
    have p1 := j1.1
    unfold f_M_node_L399
    refine wp_ite (fun q => ?_) (fun q => ?_)
    · have ek : k = γ 0 30 := by omega
      exact w_node_b418 t h1 h2 (fun e q1 q2 => h8 e q1 (by have := h6 ek; omega)) (fun i q1 q2 => h9 i q1 (by omega))
    · have er := pq.1 k h3 (by omega)
      have r4 := er.1.2.2.2.1
      have es := h5 (by omega)
      have ji : JI γ k := by
        unfold JI
        rw [a1, a2]
        refine ⟨j2, (j6.2 t10).2.1, fun f q1 q2 => ?_, er.1, by omega, by have := er.2.2; omega, by omega, by have := er.2.1; omega⟩
        obtain ⟨n1, n2, n5, l0, l, P0, P, n3, n4, x⟩ := NdW.fn t j3 q1 q2 (by omega) (by omega) (by omega) (by omega)
        have y := x.1.1
        omega
      refine wp_bndT (w_judge ji) (fun e γ' z => ?_) (fun r γ' z => ?_)
      · exact NdO.er (h1.fk z.1 (by omega) z.2.1).2.2.2.2.2.1
      · have zk := h1.fk z.1 (by omega) z.2.1
        have zz := z.2.2 r rfl
        rw [a1, a2] at zz
        have f : Fk (γ 19 k) (γ 17 k) γ γ' := z.1
        have g : ∀ i, i ≠ 0 → i ≠ 24 → i ≠ 28 → ∀ k, γ' i k = γ i k := fun i q1 q2 q3 k => f i k (by omega) (by omega) q3
        have g30 := f 0 30 (by omega) (by omega) (by omega)
        have g31 := f 0 31 (by omega) (by omega) (by omega)
        have g19 := f 0 19 (by omega) (by omega) (by omega)
        have g40 := f 0 40 (by omega) (by omega) (by omega)
        refine wp_chk (by omega) (ih γ' (k + 1) (γ 17 k + 1) zk ?_ (by omega) (by omega) (fun q1 => ?_) (fun q1 => ?_) (by omega) (fun e q1 q2 => ?_) (fun i q1 q2 e q3 q4 => ?_) (by omega) (by omega))
        · rw [g 5 (by omega) (by omega) (by omega), g19, g31, show γ' 18 = γ 18 from funext (g 18 (by omega) (by omega) (by omega))]
          exact h2
        · rw [g 19 (by omega) (by omega) (by omega)]
          exact pq.2.1 k h3 (by omega)
        · have pe := p.2.2.1
          rw [g40]
          have : k = γ 0 30 - 1 := by omega
          rw [this]; omega
        · rw [g19]
          by_cases q5 : e < s
          · rw [f 24 e (by omega) (by omega) (by omega)]; exact h8 e q1 q5
          · exact (zz e (by omega) (by omega)).1
        · rw [g 19 (by omega) (by omega) (by omega)] at q3
          rw [g 17 (by omega) (by omega) (by omega)] at q4
          rw [g 17 (by omega) (by omega) (by omega), g 16 (by omega) (by omega) (by omega), g 16 (by omega) (by omega) (by omega)]
          refine LoC.fr (γ := γ) ?_ (fun i q => g i (by omega) (by omega) (by omega))
          by_cases q5 : i = k
          · rw [q5] at q3 q4 ⊢; exact (zz e q3 q4).2
          · exact h9 i q1 (by omega) e q3 q4
theorem w_node_b385 {γ0 γ : St} (t : TpW γ0) (j : NdJ γ0 γ) (hc : ∀ v, γ0 0 19 + γ 5 (γ0 0 18) ≤ v → v < γ 0 19 → cntN (γ 18) (γ0 0 31) (v - γ0 0 19) (γ 0 31 - γ0 0 31).toNat = 1) : wp (f_M_node_b385 γ) (NdO γ0) := by
  have := FU_v
  have lx := j.2.1.1
  have m := Mv.tk0 lx
  have e := m.2.1
  have j1 := j.mv m
  have ⟨h1, h2, h3, ⟨a1, a2, a3, a4, a5⟩, h5, h6, ⟨b1, b2, b3, b4⟩⟩ := j1
  have nd := h2.2.1
  have x1 := h2.1.1
  have x5 := h2.1.2.1
  rw [a1] at nd
  have lt := j1.lt
  have p := h1.2.2.2.2.2.2.2.2
  have t5 := t.2.2.1
  unfold f_M_node_b385
  refine wp_bs (tkM_eq lx) ?_
  rw [a1, a4]
  refine wp_chk (by omega) (wp_sub ?_)
  refine w_node_L399 t FU _ _ (γ0 0 40) j1 ?_ (Int.le_refl _) (by omega) (fun _ => p.1) (fun q => by omega) (Int.le_refl _) (fun e q1 q2 => by omega) (fun i q1 q2 => by omega) (by omega) (by omega)
  rw [e 5 _ (by omega), e 0 19 (by omega), e 0 31 (by omega), show tkS γ 18 = γ 18 from funext fun k => e 18 k (by omega)]
  exact hc
theorem w_node_L351 {γ0 : St} {pl : Int} (t : TpW γ0) : ∀ (n : Nat) (γ : St) (v : Int), NdJ γ0 γ → (∀ v, γ0 0 19 ≤ v → v < γ 0 19 → γ 13 v = cntN (γ 18) (γ0 0 31) (v - γ0 0 19) (γ 0 31 - γ0 0 31).toNat) → γ0 0 19 + γ 5 (γ0 0 18) ≤ v → (∀ u, γ0 0 19 + γ 5 (γ0 0 18) ≤ u → u < v → γ 13 u = 1) → γ 0 19 - v < n → 0 < n → wp (f_M_node_L351 f_M_node_b369 f_M_node_b385 n γ pl v) (NdO γ0) := by
  intro n
  induction n with
  | zero => intro γ v h1 h2 h3 h4 h5 h6; exact absurd h6 (by omega)
  | succ n ih =>
    intro γ v h1 h2 h3 h4 h5 h6
    have ⟨j1, j2, j3, ⟨a1, a2, a3, a4, a5⟩, j5, j6, ⟨b1, b2, b3, b4⟩⟩ := h1
    have nd := j2.2.1
    have d3 := j2.2.2.1
    have d4 := j2.2.2.2.1
    rw [a1] at nd
    rw [a1, a2] at d3 d4
    have p1 := j1.1
    unfold f_M_node_L351
    refine wp_ite (fun q => ?_) (fun q => ?_)
    · exact w_node_b385 t h1 (fun u q1 q2 => by rw [← h2 u (by omega) q2]; exact h4 u q1 (by omega))
    · refine wp_chk (by omega) (wp_ite (fun q2 => ?_) (fun q2 => ?_))
      · refine wp_chk (by omega) (ih γ (v + 1) h1 h2 (by omega) (fun u q3 q4 => ?_) (by omega) (by omega))
        by_cases q5 : u = v
        · rw [q5]; exact q2
        · exact h4 u q3 (by omega)
      · exact wp_some (NdO.er j6)
theorem w_node_b311 {γ0 γ : St} (t : TpW γ0) (h : NdE γ0 γ) (lt : γ0 0 30 < γ 0 30) : wp (f_M_node_b311 γ) (NdO γ0) := by
  have := FU_v
  have ⟨h1, h2, ⟨a1, a2, a3, a4⟩, h4, h5, h6, h7, h8⟩ := h
  have h4' := h4.1
  have w1 := h1.1.1
  have nd := w1.2.1
  have d3 := w1.2.2.1
  have d4 := w1.2.2.2.1
  rw [a1] at nd
  rw [a1, a2] at d3 d4
  have cn := h1.2.2.2.2.2.2.1
  rw [a1, a2] at cn
  unfold f_M_node_b311
  refine wp_sub ?_
  rw [a1]
  refine wp_chk (by omega) (wp_chk (by omega) (wp_sub ?_))
  have j := h.nj (γ' := setA γ 7 (γ0 0 18 + 1) (γ 0 30)) t.2.2.1.1 lt rfl
  have s0 : ∀ i k, i ≠ 7 → setA γ 7 (γ0 0 18 + 1) (γ 0 30) i k = γ i k := fun i k q => by rw [stA, if_neg (by omega)]
  generalize setA γ 7 (γ0 0 18 + 1) (γ 0 30) = γ1 at *
  rw [s0 0 18 (by omega), a1, s0 4 _ (by omega), a2, s0 5 _ (by omega)]
  refine wp_chk (by omega) (wp_chk (by omega) (wp_chk (by omega) (wp_sub ?_)))
  have e5 := s0 5 (γ0 0 18) (by omega)
  have e19 := s0 0 19 (by omega)
  refine w_node_L351 t FU γ1 _ j (fun v q1 q2 => ?_) (by omega) (fun u q1 q2 => by omega) (by omega) (by omega)
  rw [s0 13 v (by omega), s0 0 31 (by omega), show γ1 18 = γ 18 from funext fun k => s0 18 k (by omega)]
  exact cn v q1 (by omega)
theorem w_node_L297 {γ0 : St} (t : TpW γ0) : ∀ (n : Nat) (γ : St), NdE γ0 γ → γ 0 1 - γ 0 5 < n → wp (f_M_node_L297 f_M_node_b311 n γ) (NdO γ0) := by
  intro n
  induction n with
  | zero => intro γ h1 h2; have := h1.1.1.1.1.2.1; exfalso; omega
  | succ n ih =>
    intro γ h1 h2
    unfold f_M_node_L297
    refine wp_bndT (w_equation h1.1) (fun e γ' z => NdO.er (h1.2.2.2.2.2.1.tr z.1)) (fun r γ' z => ?_)
    have ⟨h3, lt, l5⟩ := h1.step z
    have lx := h3.1.1.1.1
    have e1 : γ' 0 1 = γ 0 1 := z.1.1 0 1 (by omega) (by omega)
    have m := Mv.pk0 lx
    have m5 := m.2.2
    refine wp_yn (w_is lx 4) (fun q => ?_) (fun q => ?_)
    · rw [if_neg (by decide)]
      exact w_node_b311 t (h3.mv m) (by rw [m.2.1 0 30 (by omega)]; exact lt)
    · rw [if_pos rfl]
      have lb := h1.1.1.1.1.2.1
      exact ih _ (h3.mv m) (by rw [m.2.1 0 1 (by omega)]; omega)
theorem DcI.fr2 {γ γ' : St} (h : DcI γ) (lx : LX γ') (e18 : γ' 0 18 = γ 0 18) (e19 : γ' 0 19 = γ 0 19) (e4 : γ' 4 (γ 0 18) = γ 4 (γ 0 18)) (e : ∀ j : Nat, 10 ≤ j → j ≤ 14 → ∀ k, γ' j k = γ j k) : DcI γ' := by
  have ⟨y1, y2, y3, y4, y5, y6, y7⟩ := h
  refine ⟨lx, by rw [e18]; exact y2, by rw [e18, e4]; exact y3, by rw [e18, e4, e19]; exact y4, ?_, ?_, fun v => by rw [e 14 (by omega) (by omega)]; exact y7 v⟩
  · rw [e18, e4, e19]
    intro v q1 q2
    rw [e 10 (by omega) (by omega), e 11 (by omega) (by omega)]
    exact y5 v q1 q2
  · rw [e18, e4, e19]
    intro v q1 q2
    unfold ClO
    rw [e 12 (by omega) (by omega)]
    exact y6 v q1 q2
theorem NdD.e18 {γ0 γ : St} (h : NdD γ0 γ) : γ 0 18 = γ0 0 18 := h.2.1 0 18 (by omega) (by omega) (by omega)
theorem w_node_b242 {γ0 γ : St} (t : TpW γ0) (h : NdD γ0 γ) (h56 : F56 γ0 γ) (lt : γ0 0 5 < γ 0 5) : wp (f_M_node_b242 γ) (NdO γ0) := by
  have := FU_v
  have ⟨h1, h2, h3, ⟨h4, h4'⟩, h5, h6⟩ := h
  have ⟨⟨t1, t2, t3⟩, t4, t5, t6, t7, t8, t9, t10, t11⟩ := t
  have e18 := h.e18
  have nd := h1.2.1
  rw [e18] at nd
  have k30 : γ 0 30 = γ0 0 30 := h2 0 30 (by omega) (by omega) (by omega)
  have k31 : γ 0 31 = γ0 0 31 := h2 0 31 (by omega) (by omega) (by omega)
  have k40 : γ 0 40 = γ0 0 40 := h2 0 40 (by omega) (by omega) (by omega)
  unfold f_M_node_b242
  rw [e18]
  refine wp_chk (by omega) (wp_chk (by omega) (wp_sub ?_))
  have s : ∀ i k, setA γ 4 (γ0 0 18 + 1) (γ 0 19) i k = if i = 4 ∧ k = γ0 0 18 + 1 then γ 0 19 else γ i k := fun i k => by rw [stA]
  generalize setA γ 4 (γ0 0 18 + 1) (γ 0 19) = γ1 at *
  have s0 : ∀ i k, (i = 4 → k ≠ γ0 0 18 + 1) → γ1 i k = γ i k := fun i k q => by rw [s, if_neg (by omega)]
  have lx : LX γ1 := h1.1.fr (funext fun k => s0 1 k (by omega)) (fun k q => s0 0 k (by omega))
  have rf : Rf γ0 γ1 := h.re.tr ⟨fun i k q1 q2 => s0 i k (by omega), fun b => b.fr (fun k => s0 14 k (by omega)) (fun k => s0 28 k (by omega)) (fun k => s0 25 k (by omega))⟩
  refine wp_mustBe lx (fun q => ?_) (fun q => NdO.er (rf.tr (Mv.pk0 lx).re))
  have m := Mv.tk0 lx
  have e := m.2.1
  have u0 : ∀ i k, (i = 0 → k < 5 ∨ 9 < k) → (i = 4 → k ≠ γ0 0 18 + 1) → tkS γ1 i k = γ i k := fun i k q1 q2 => by rw [e i k (by omega), s0 i k q2]
  have u18 : tkS γ1 0 18 = γ0 0 18 := by rw [u0 0 18 (by omega) (by omega)]; exact e18
  have u30 : tkS γ1 0 30 = γ0 0 30 := by rw [u0 0 30 (by omega) (by omega)]; exact k30
  have m5 := m.2.2
  have v5 := s0 0 5 (by omega)
  have u4 : tkS γ1 4 (γ0 0 18 + 1) = γ 0 19 := by rw [e 4 _ (by omega), s, if_pos ⟨rfl, rfl⟩]
  have ml := m.1
  have mr := m.re
  generalize tkS γ1 = γ2 at *
  rw [u18, u30]
  refine wp_chk (by omega) (wp_sub ?_)
  rw [show setA γ2 7 (γ0 0 18) (γ0 0 30) 0 18 = γ0 0 18 by rw [stA, if_neg (by omega)]; exact u18]
  refine wp_chk (by omega) (wp_sub ?_)
  rw [show setA (setA γ2 7 (γ0 0 18) (γ0 0 30)) 8 (γ0 0 18) 0 0 18 = γ0 0 18 by rw [stA, if_neg (by omega), stA, if_neg (by omega)]; exact u18]
  refine wp_chk (by omega) (wp_sub ?_)
  generalize hg : setA (setA (setA γ2 7 (γ0 0 18) (γ0 0 30)) 8 (γ0 0 18) 0) 9 (γ0 0 18) 0 = γ3
  have w : ∀ i k, γ3 i k = if i = 9 ∧ k = γ0 0 18 then 0 else if i = 8 ∧ k = γ0 0 18 then 0 else if i = 7 ∧ k = γ0 0 18 then γ0 0 30 else γ2 i k := fun i k => by rw [← hg, stA, stA, stA]
  have w0 : ∀ i k, (i = 7 ∨ i = 8 ∨ i = 9 → k ≠ γ0 0 18) → γ3 i k = γ2 i k := fun i k q => by rw [w, if_neg (by omega), if_neg (by omega), if_neg (by omega)]
  have w1 : ∀ i k, (i = 0 → k < 5 ∨ 9 < k) → (i = 4 → k ≠ γ0 0 18 + 1) → (i = 7 ∨ i = 8 ∨ i = 9 → k ≠ γ0 0 18) → γ3 i k = γ i k := fun i k q1 q2 q3 => by rw [w0 i k q3, u0 i k q1 q2]
  have x18 : γ3 0 18 = γ0 0 18 := by rw [w0 0 18 (by omega)]; exact u18
  have x19 : γ3 0 19 = γ 0 19 := w1 0 19 (by omega) (by omega) (by omega)
  have x30 : γ3 0 30 = γ0 0 30 := by rw [w0 0 30 (by omega)]; exact u30
  have x31 : γ3 0 31 = γ0 0 31 := by rw [w1 0 31 (by omega) (by omega) (by omega)]; exact k31
  have x40 : γ3 0 40 = γ0 0 40 := by rw [w1 0 40 (by omega) (by omega) (by omega)]; exact k40
  have x5 : γ3 0 5 = γ2 0 5 := w0 0 5 (by omega)
  have x4 : γ3 4 (γ0 0 18) = γ0 0 19 := by rw [w1 4 _ (by omega) (by omega) (by omega)]; exact h4
  have x7 : γ3 7 (γ0 0 18) = γ0 0 30 := by rw [w, if_neg (by omega), if_neg (by omega), if_pos ⟨rfl, rfl⟩]
  have x8 : γ3 8 (γ0 0 18) = 0 := by rw [w, if_neg (by omega), if_pos ⟨rfl, rfl⟩]
  have x9 : γ3 9 (γ0 0 18) = 0 := by rw [w, if_pos ⟨rfl, rfl⟩]
  have lx3 : LX γ3 := ml.fr (funext fun k => w0 1 k (by omega)) (fun k q => w0 0 k (by omega))
  have dc : DcI γ3 := h1.fr2 lx3 (by rw [x18, e18]) x19 (by rw [e18]; exact x4.trans h4.symm) (fun i q1 q2 k => w1 i k (by omega) (by omega) (by omega))
  have h56' := h56.1
  have ew : EqW (γ0 0 31) (γ0 0 40) γ3 := by
    unfold EqW
    rw [x18, x19, x30, x31, x40, x4, x7, x8, x9, w1 5 _ (by omega) (by omega) (by omega), show (γ0 0 31 - γ0 0 31).toNat = 0 by omega]
    refine ⟨⟨dc, fun v q1 q2 => ?_, by omega, by omega⟩, by omega, by omega, by omega, by omega, by omega, fun v q1 q2 => ?_, ⟨fun k q1 q2 => by omega, fun k q1 q2 => by omega, ?_⟩, ⟨fun _ => ⟨rfl, rfl⟩, fun q => by omega⟩, Odr.nil, Odr.nil⟩
    · rw [w1 2 v (by omega) (by omega) (by omega), w1 3 v (by omega) (by omega) (by omega)]
      exact h6 v q1 (by omega)
    · rw [w1 13 v (by omega) (by omega) (by omega)]
      exact h5 v q1 q2
    · rw [w1 16 _ (by omega) (by omega) (by omega), h2 16 _ (by omega) (by omega) (by omega)]
      exact t8
  have ne : NdE γ0 γ3 := by
    refine ⟨ew, fun i k q1 q2 q3 q4 q5 q6 q7 q8 q9 => ?_, ⟨x18, x4, ?_, by omega⟩, h56.fr (w1 5 _ (by omega) (by omega) (by omega)) (w1 6 _ (by omega) (by omega) (by omega)) (by omega) (fun v _ _ => w1 12 v (by omega) (by omega) (by omega)), fun v q1 q2 => by rw [w1 2 v (by omega) (by omega) (by omega), w1 3 v (by omega) (by omega) (by omega)]; exact h6 v q1 q2, (rf.tr mr).tr ⟨fun i k q1 q2 => w0 i k (by omega), fun b => b.fr (fun k => w0 14 k (by omega)) (fun k => w0 28 k (by omega)) (fun k => w0 25 k (by omega))⟩, x7, by omega⟩
    · by_cases r4 : i = 4 ∧ k = γ0 0 18
      · rw [r4.1, r4.2, x4]; exact (t9 (q4 (by omega)).1).1.symm
      · by_cases r7 : i = 7 ∧ k = γ0 0 18
        · rw [r7.1, r7.2, x7]; exact (t9 (q4 (by omega)).1).2.symm
        · rw [w1 i k (by omega) (by omega) (by omega)]
          exact h2 i k (by omega) (by omega) q5
    · rw [w0 4 _ (by omega), x19]; exact u4
  have lb := lx3.1
  have lb5 := lx3.2.1
  exact w_node_L297 t FU γ3 ne (by omega)
theorem F56.gi {γ0 γ γ' : St} (h : F56 γ0 γ) (g : GI γ γ') : F56 γ0 γ' := h.fr (g.2.1 5 _ (by omega) (by omega)) (g.2.1 6 _ (by omega) (by omega)) g.2.2.1 (fun v _ q => g.2.1 12 v (by omega) (by omega))
theorem F56.mv {γ0 γ γ' : St} (h : F56 γ0 γ) (m : Mv γ γ') : F56 γ0 γ' := h.fr (m.2.1 5 _ (by omega)) (m.2.1 6 _ (by omega)) (by rw [m.2.1 0 19 (by omega)]; exact Int.le_refl _) (fun v _ _ => m.2.1 12 v (by omega))
theorem w_node_L221 {γ0 : St} (t : TpW γ0) : ∀ (n : Nat) (γ : St), NdD γ0 γ → F56 γ0 γ → γ0 0 5 < γ 0 5 → γ 0 1 - γ 0 5 < n → wp (f_M_node_L221 f_M_node_b242 n γ) (NdO γ0) := by
  intro n
  induction n with
  | zero => intro γ h1 h2 h3 h4; have := h1.1.1.2.1; exfalso; omega
  | succ n ih =>
    intro γ h1 h2 h3 h4
    have m := Mv.pk0 h1.lx
    have m5 := m.2.2
    have d := h1.mv m
    unfold f_M_node_L221
    refine wp_yn (w_nameHere h1.lx) (fun q => ?_) (fun q => ?_)
    · rw [if_neg (by decide)]
      refine wp_bndT (w_group d.1) (fun e γ' z => NdO.er (d.rg z.1 z.2.2)) (fun r γ' z => ?_)
      have g : GrQ (pkS γ) r γ' := (z.2.1 r rfl).1
      have d2 := d.gi g.1
      refine wp_must d2.lx (fun q2 => ?_) (fun q2 => NdO.er (d2.mv (Mv.pk0 d2.lx)).re)
      have m2 := Mv.tk0 d2.lx
      have m25 := m2.2.2
      have g5 := g.2.2
      have e1 : γ' 0 1 = γ 0 1 := by rw [g.1.2.1 0 1 (by omega) (by omega)]; exact m.2.1 0 1 (by omega)
      have lb := h1.1.1.2.1
      exact ih _ (d2.mv m2) (((h2.mv m).gi g.1).mv m2) (by omega) (by rw [m2.2.1 0 1 (by omega)]; omega)
    · rw [if_pos rfl]
      exact w_node_b242 t d (h2.mv m) (by omega)
