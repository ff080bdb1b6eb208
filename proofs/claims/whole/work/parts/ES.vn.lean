/-! the reference: what judge finds out stays -/
theorem wp_pc {α : Type} {o : Option α} {P Q : α → Prop} (h : wp o P) (g : pc o Q) : wp o (fun z => P z ∧ Q z) := by
  cases o with
  | none => exact h
  | some y => exact ⟨h, g y rfl⟩
def FJ (γ γ' : St) (k : Int) : Prop := (∀ j q, j ≠ 0 → j ≠ 24 → j ≠ 28 → γ' j q = γ j q) ∧ ∀ e, γ 19 k ≤ e → e ≤ γ 17 k → γ' 24 e = γ 24 e
/-- judge finds out J of an equation -/
def HJ (J : St → Int → Int → Prop) : Prop := (∀ γ k, JI γ k → pc (f_M_judge γ k) (fun z => ∀ r, z.1 = .inr r → J z.2 (γ 4 (γ 0 18)) k)) ∧ ∀ γ γ' v0 k, J γ v0 k → FJ γ γ' k → J γ' v0 k
def NdQ (J : St → Int → Int → Prop) (γ : St) (z : Res) : Prop := NdO γ z ∧ ∀ r, z.1 = .inr r → Fn γ z.2 ∧ (z.2 4 (γ 0 18) = γ 0 19 ∧ z.2 7 (γ 0 18) = γ 0 30 ∧ z.2 7 (γ 0 18 + 1) = z.2 0 30) ∧ ∀ k, γ 0 30 ≤ k → k < z.2 0 30 → J z.2 (γ 0 19) k
theorem NdQ.er {J : St → Int → Int → Prop} {γ γ' : St} {e : Int × Int} (h : Rf γ γ') : NdQ J γ (.inl e, γ') := ⟨NdO.er h, fun r q => by cases q⟩
theorem v_node_b418 {J : St → Int → Int → Prop} (hj : HJ J) {γ0 γ : St} (t : TpW γ0) (j : NdJ γ0 γ) (hc : ∀ v, γ0 0 19 + γ 5 (γ0 0 18) ≤ v → v < γ 0 19 → cntN (γ 18) (γ0 0 31) (v - γ0 0 19) (γ 0 31 - γ0 0 31).toNat = 1) (hk : ∀ e, γ0 0 40 ≤ e → e < γ 0 40 → CkV (γ 0 19 - γ0 0 19) (γ 24 e)) (hl : ∀ k, γ0 0 30 ≤ k → k < γ 0 30 → ∀ e, γ 19 k ≤ e → e ≤ γ 17 k → LoC e (if e = γ 17 k then γ 16 (k + 1) - γ 16 k else 1) γ) (hJ : ∀ k, γ0 0 30 ≤ k → k < γ 0 30 → J γ (γ0 0 19) k) : wp (f_M_node_b418 γ) (NdQ J γ0) := by
  have ⟨h1, h2, h3, ⟨a1, a2, a3, a4, a5⟩, h5, h6, ⟨b1, b2, b3, b4⟩⟩ := j
  have ⟨⟨t1, t2, t3⟩, t4, t5, t6, t7, t8, t9, t10, t11⟩ := t
  have nd := h2.2.1
  have d3 := h2.2.2.1
  have d4 := h2.2.2.2.1
  rw [a1] at nd
  rw [a1, a2] at d3 d4
  have lt := j.lt
  have p := h1
  have pl := h1.2.2.2.1.2.2
  unfold f_M_node_b418
  rw [a1]
  refine wp_chk (by omega) (wp_sub (wp_some ?_))
  have s : ∀ i k, setA γ 0 18 (γ0 0 18 + 1) i k = if i = 0 ∧ k = 18 then γ0 0 18 + 1 else γ i k := fun i k => by rw [stA]
  generalize setA γ 0 18 (γ0 0 18 + 1) = γ1 at *
  have s0 : ∀ i k, (i = 0 → k ≠ 18) → γ1 i k = γ i k := fun i k q => by rw [s, if_neg (by omega)]
  have s18 : γ1 0 18 = γ0 0 18 + 1 := by rw [s, if_pos ⟨rfl, rfl⟩]
  have e19 := s0 0 19 (by omega)
  have e30 := s0 0 30 (by omega)
  have e31 := s0 0 31 (by omega)
  have e40 := s0 0 40 (by omega)
  have e5 := s0 0 5 (by omega)
  have rf : Rf γ0 γ1 := h6.tr ⟨fun i k q1 q2 => s0 i k (by omega), fun b => b.fr (fun k => s0 14 k (by omega)) (fun k => s0 28 k (by omega)) (fun k => s0 25 k (by omega))⟩
  have fn : Fn γ0 γ1 := fun i k q1 q2 q3 q4 q5 q6 q7 q8 q9 => by rw [s0 i k (by omega)]; exact h3 i k q1 q2 q3 q4 q5 q6 q7 q8 q9
  have p0 := h1.2.2.2.2.2.2.2.2.2.2.2
  refine ⟨⟨rf, fun _ _ => ⟨?_, s18, by show γ0 0 5 < γ1 0 5; omega⟩⟩, fun _ _ => ⟨fn, ⟨by show γ1 4 _ = _; rw [s0 4 _ (by omega)]; exact a2, by show γ1 7 _ = _; rw [s0 7 _ (by omega)]; exact a4, by show γ1 7 _ = γ1 0 30; rw [s0 7 _ (by omega), e30]; exact a5⟩, fun k q1 q2 => hj.2 _ _ _ _ (hJ k q1 (by have q2 : k < γ1 0 30 := q2; omega)) ⟨fun j q w1 _ _ => s0 j q (by omega), fun e _ _ => s0 24 e (by omega)⟩⟩⟩
  show TpW γ1
  unfold TpW
  rw [s18, e19, e30, e31, e40, e5, s0 16 _ (by omega), s0 4 _ (by omega), s0 7 _ (by omega)]
  refine ⟨⟨h2.1.fr (funext fun k => s0 1 k (by omega)) (fun k q => s0 0 k (by omega)), by omega, fun v q1 q2 => by rw [s0 2 v (by omega), s0 3 v (by omega)]; exact h5 v q1 q2⟩, by omega, by omega, by omega, by omega, pl, fun _ => ⟨a3, a5⟩, rf.2 t10, fun f q1 q2 => ?_⟩
  by_cases q : f < γ0 0 18
  · exact NdW.fn t fn q1 q (by omega) (by omega) (by omega) (by omega)
  · have ef : f = γ0 0 18 := by omega
    subst ef
    unfold NdW
    rw [e19, e30, e31, e40, s0 4 _ (by omega), s0 4 _ (by omega), s0 7 _ (by omega), s0 7 _ (by omega), a2, a3, a4, a5]
    have x : NdX γ (γ0 0 18) (γ0 0 19) (γ 0 19) (γ0 0 30) (γ 0 30) (γ0 0 31) (γ 0 31) (γ0 0 40) (γ 0 40) := ⟨h1, hc, hk, hl⟩
    have lk : 0 < γ0 0 18 → γ1 17 (γ0 0 30 - 1) < γ1 19 (γ0 0 30) := fun q3 => by
      obtain ⟨n1, n2, n5, l0, l, P0, P, n3, n4, y⟩ := t11 (γ0 0 18 - 1) (by omega) (by omega)
      have y3 := y.1.2.2.1
      have y11 := y.1.2.2.2.2.2.2.2.2.2.2.1
      rw [show γ0 0 18 - 1 + 1 = γ0 0 18 by omega, (t9 q3).2] at y11 y3
      rw [fn 17 _ (by omega) (by omega) (by omega) (by omega) (by omega) (by omega) (by omega) (by omega) (by omega), s0 19 _ (by omega), h1.2.2.2.2.2.2.2.2.1]
      omega
    exact ⟨Int.le_refl _, Int.le_refl _, lk, _, _, _, _, Int.le_refl _, Int.le_refl _, x.fr ⟨⟨fun k => s0 1 k (by omega), fun k _ => ⟨s0 15 k (by omega), s0 17 k (by omega), s0 19 k (by omega)⟩, fun k _ => s0 16 k (by omega), fun k _ => s0 18 k (by omega), fun i q1 q2 q3 k _ => s0 i k (by omega)⟩, fun g _ => ⟨s0 5 g (by omega), s0 6 g (by omega)⟩, ⟨s0 8 _ (by omega), s0 9 _ (by omega)⟩, fun v _ _ => s0 12 v (by omega)⟩ (fun e _ => s0 24 e (by omega))⟩
theorem v_node_L399 {J : St → Int → Int → Prop} (hj : HJ J) {γ0 : St} (t : TpW γ0) : ∀ (n : Nat) (γ : St) (k s : Int), NdJ γ0 γ → (∀ v, γ0 0 19 + γ 5 (γ0 0 18) ≤ v → v < γ 0 19 → cntN (γ 18) (γ0 0 31) (v - γ0 0 19) (γ 0 31 - γ0 0 31).toNat = 1) → γ0 0 30 ≤ k → k ≤ γ 0 30 → (k < γ 0 30 → γ 19 k = s) → (k = γ 0 30 → s = γ 0 40) → γ0 0 40 ≤ s → (∀ e, γ0 0 40 ≤ e → e < s → CkV (γ 0 19 - γ0 0 19) (γ 24 e)) → (∀ i, γ0 0 30 ≤ i → i < k → ∀ e, γ 19 i ≤ e → e ≤ γ 17 i → LoC e (if e = γ 17 i then γ 16 (i + 1) - γ 16 i else 1) γ) → γ 0 30 - k < n → 0 < n → (∀ i, γ0 0 30 ≤ i → i < k → J γ (γ0 0 19) i) → wp (f_M_node_L399 f_M_node_b418 n γ k) (NdQ J γ0) := by
  intro n
  induction n with
  | zero => intro γ k s h1 h2 h3 h4 h5 h6 h7 h8 h9 h10 h11 h12; exact absurd h11 (by omega)
  | succ n ih =>
    intro γ k s h1 h2 h3 h4 h5 h6 h7 h8 h9 h10 h11 h12
    have ⟨j1, j2, j3, ⟨a1, a2, a3, a4, a5⟩, j5, j6, ⟨b1, b2, b3, b4⟩⟩ := h1
    have ⟨⟨t1, t2, t3⟩, t4, t5, t6, t7, t8, t9, t10, t11⟩ := t
    have lx := j2.1.1
    have lx5 := j2.1.2.1
    have nd := j2.2.1
    have d3 := j2.2.2.1
    have d4 := j2.2.2.2.1
    rw [a1] at nd
    rw [a1, a2] at d3 d4
    have p := j1.2.2.2.2.2.2.2.2
    have pq := j1.2.2.2.1
    have p1 := j1.1
    unfold f_M_node_L399
    refine wp_ite (fun q => ?_) (fun q => ?_)
    · have ek : k = γ 0 30 := by omega
      exact v_node_b418 hj t h1 h2 (fun e q1 q2 => h8 e q1 (by have := h6 ek; omega)) (fun i q1 q2 => h9 i q1 (by omega)) (fun i q1 q2 => h12 i q1 (by omega))
    · have er := pq.1 k h3 (by omega)
      have r4 := er.1.2.2.2.1
      have es := h5 (by omega)
      have ji : JI γ k := by
        unfold JI
        rw [a1, a2]
        refine ⟨j2, (j6.2 t10).2.1, fun f q1 q2 => ?_, er.1, by omega, by have := er.2.2; omega, by omega, by have := er.2.1; omega⟩
        obtain ⟨n1, n2, n5, l0, l, P0, P, n3, n4, x⟩ := NdW.fn t j3 q1 q2 (by omega) (by omega) (by omega) (by omega)
        have y := x.1.1
        omega
      refine wp_bndT (wp_pc (w_judge ji) (hj.1 γ k ji)) (fun e γ' z => ?_) (fun r γ' zw => ?_)
      · exact NdQ.er (h1.fk z.1.1 (by omega) z.1.2.1).2.2.2.2.2.1
      · have z := zw.1
        have zJ := zw.2 r rfl
        rw [a1, a2] at zJ
        have zk := h1.fk z.1 (by omega) z.2.1
        have zz := z.2.2 r rfl
        rw [a1, a2] at zz
        have f : Fk (γ 19 k) (γ 17 k) γ γ' := z.1
        have g : ∀ i, i ≠ 0 → i ≠ 24 → i ≠ 28 → ∀ k, γ' i k = γ i k := fun i q1 q2 q3 k => f i k (by omega) (by omega) q3
        have g30 := f 0 30 (by omega) (by omega) (by omega)
        have g31 := f 0 31 (by omega) (by omega) (by omega)
        have g19 := f 0 19 (by omega) (by omega) (by omega)
        have g40 := f 0 40 (by omega) (by omega) (by omega)
        refine wp_chk (by omega) (ih γ' (k + 1) (γ 17 k + 1) zk ?_ (by omega) (by omega) (fun q1 => ?_) (fun q1 => ?_) (by omega) (fun e q1 q2 => ?_) (fun i q1 q2 e q3 q4 => ?_) (by omega) (by omega) (fun i q1 q2 => ?_))
        · rw [g 5 (by omega) (by omega) (by omega), g19, g31, show γ' 18 = γ 18 from funext (g 18 (by omega) (by omega) (by omega))]
          exact h2
        · rw [g 19 (by omega) (by omega) (by omega)]
          exact pq.2.1 k h3 (by omega)
        · have pe := p.2.2.1
          rw [g40]
          have : k = γ 0 30 - 1 := by omega
          rw [this]; omega
        · rw [g19]
          by_cases q5 : e < s
          · rw [f 24 e (by omega) (by omega) (by omega)]; exact h8 e q1 q5
          · exact (zz e (by omega) (by omega)).1
        · rw [g 19 (by omega) (by omega) (by omega)] at q3
          rw [g 17 (by omega) (by omega) (by omega)] at q4
          rw [g 17 (by omega) (by omega) (by omega), g 16 (by omega) (by omega) (by omega), g 16 (by omega) (by omega) (by omega)]
          refine LoC.fr (γ := γ) ?_ (fun i q => g i (by omega) (by omega) (by omega))
          by_cases q5 : i = k
          · rw [q5] at q3 q4 ⊢; exact (zz e q3 q4).2
          · exact h9 i q1 (by omega) e q3 q4
        · by_cases q5 : i = k
          · rw [q5]; exact zJ
          · refine hj.2 _ _ _ _ (h12 i q1 (by omega)) ⟨fun j q w1 w2 w3 => g j w1 w2 w3 q, fun e w1 w2 => f 24 e (by omega) (fun _ => Or.inl ?_) (by omega)⟩
            have mo : ∀ (n : Nat) (b : Int), b = i + 1 + n → b ≤ k → γ 17 i < γ 19 b := by
              intro n
              induction n with
              | zero => intro b w3 w4; have := pq.2.1 i q1 (by omega); rw [show b = i + 1 by omega]; omega
              | succ n ih2 =>
                intro b w3 w4
                have u1 := ih2 (b - 1) (by omega) (by omega)
                have u2 := pq.2.1 (b - 1) (by omega) (by omega)
                have u3 := (pq.1 (b - 1) (by omega) (by omega)).1.2.2.2.1
                rw [show b - 1 + 1 = b by omega] at u2
                omega
            have := mo (k - i - 1).toNat k (by omega) (Int.le_refl _)
            omega
theorem v_node_b385 {J : St → Int → Int → Prop} (hj : HJ J) {γ0 γ : St} (t : TpW γ0) (j : NdJ γ0 γ) (hc : ∀ v, γ0 0 19 + γ 5 (γ0 0 18) ≤ v → v < γ 0 19 → cntN (γ 18) (γ0 0 31) (v - γ0 0 19) (γ 0 31 - γ0 0 31).toNat = 1) : wp (f_M_node_b385 γ) (NdQ J γ0) := by
  have := FU_v
  have lx := j.2.1.1
  have m := Mv.tk0 lx
  have e := m.2.1
  have j1 := j.mv m
  have ⟨h1, h2, h3, ⟨a1, a2, a3, a4, a5⟩, h5, h6, ⟨b1, b2, b3, b4⟩⟩ := j1
  have nd := h2.2.1
  have x1 := h2.1.1
  have x5 := h2.1.2.1
  rw [a1] at nd
  have lt := j1.lt
  have p := h1.2.2.2.2.2.2.2.2
  have t5 := t.2.2.1
  unfold f_M_node_b385
  refine wp_bs (tkM_eq lx) ?_
  rw [a1, a4]
  refine wp_chk (by omega) (wp_sub ?_)
  refine v_node_L399 hj t FU _ _ (γ0 0 40) j1 ?_ (Int.le_refl _) (by omega) (fun _ => p.1) (fun q => by omega) (Int.le_refl _) (fun e q1 q2 => by omega) (fun i q1 q2 => by omega) (by omega) (by omega) (fun i q1 q2 => by omega)
  rw [e 5 _ (by omega), e 0 19 (by omega), e 0 31 (by omega), show tkS γ 18 = γ 18 from funext fun k => e 18 k (by omega)]
  exact hc
theorem v_node_L351 {J : St → Int → Int → Prop} (hj : HJ J) {γ0 : St} {pl : Int} (t : TpW γ0) : ∀ (n : Nat) (γ : St) (v : Int), NdJ γ0 γ → (∀ v, γ0 0 19 ≤ v → v < γ 0 19 → γ 13 v = cntN (γ 18) (γ0 0 31) (v - γ0 0 19) (γ 0 31 - γ0 0 31).toNat) → γ0 0 19 + γ 5 (γ0 0 18) ≤ v → (∀ u, γ0 0 19 + γ 5 (γ0 0 18) ≤ u → u < v → γ 13 u = 1) → γ 0 19 - v < n → 0 < n → wp (f_M_node_L351 f_M_node_b369 f_M_node_b385 n γ pl v) (NdQ J γ0) := by
  intro n
  induction n with
  | zero => intro γ v h1 h2 h3 h4 h5 h6; exact absurd h6 (by omega)
  | succ n ih =>
    intro γ v h1 h2 h3 h4 h5 h6
    have ⟨j1, j2, j3, ⟨a1, a2, a3, a4, a5⟩, j5, j6, ⟨b1, b2, b3, b4⟩⟩ := h1
    have nd := j2.2.1
    have d3 := j2.2.2.1
    have d4 := j2.2.2.2.1
    rw [a1] at nd
    rw [a1, a2] at d3 d4
    have p1 := j1.1
    unfold f_M_node_L351
    refine wp_ite (fun q => ?_) (fun q => ?_)
    · exact v_node_b385 hj t h1 (fun u q1 q2 => by rw [← h2 u (by omega) q2]; exact h4 u q1 (by omega))
    · refine wp_chk (by omega) (wp_ite (fun q2 => ?_) (fun q2 => ?_))
      · refine wp_chk (by omega) (ih γ (v + 1) h1 h2 (by omega) (fun u q3 q4 => ?_) (by omega) (by omega))
        by_cases q5 : u = v
        · rw [q5]; exact q2
        · exact h4 u q3 (by omega)
      · exact wp_some (NdQ.er j6)
theorem v_node_b311 {J : St → Int → Int → Prop} (hj : HJ J) {γ0 γ : St} (t : TpW γ0) (h : NdE γ0 γ) (lt : γ0 0 30 < γ 0 30) : wp (f_M_node_b311 γ) (NdQ J γ0) := by
  have := FU_v
  have ⟨h1, h2, ⟨a1, a2, a3, a4⟩, h4, h5, h6, h7, h8⟩ := h
  have h4' := h4.1
  have w1 := h1.1.1
  have nd := w1.2.1
  have d3 := w1.2.2.1
  have d4 := w1.2.2.2.1
  rw [a1] at nd
  rw [a1, a2] at d3 d4
  have cn := h1.2.2.2.2.2.2.1
  rw [a1, a2] at cn
  unfold f_M_node_b311
  refine wp_sub ?_
  rw [a1]
  refine wp_chk (by omega) (wp_chk (by omega) (wp_sub ?_))
  have j := h.nj (γ' := setA γ 7 (γ0 0 18 + 1) (γ 0 30)) t.2.2.1.1 lt rfl
  have s0 : ∀ i k, i ≠ 7 → setA γ 7 (γ0 0 18 + 1) (γ 0 30) i k = γ i k := fun i k q => by rw [stA, if_neg (by omega)]
  generalize setA γ 7 (γ0 0 18 + 1) (γ 0 30) = γ1 at *
  rw [s0 0 18 (by omega), a1, s0 4 _ (by omega), a2, s0 5 _ (by omega)]
  refine wp_chk (by omega) (wp_chk (by omega) (wp_chk (by omega) (wp_sub ?_)))
  have e5 := s0 5 (γ0 0 18) (by omega)
  have e19 := s0 0 19 (by omega)
  refine v_node_L351 hj t FU γ1 _ j (fun v q1 q2 => ?_) (by omega) (fun u q1 q2 => by omega) (by omega) (by omega)
  rw [s0 13 v (by omega), s0 0 31 (by omega), show γ1 18 = γ 18 from funext fun k => s0 18 k (by omega)]
  exact cn v q1 (by omega)
theorem v_node_L297 {J : St → Int → Int → Prop} (hj : HJ J) {γ0 : St} (t : TpW γ0) : ∀ (n : Nat) (γ : St), NdE γ0 γ → γ 0 1 - γ 0 5 < n → wp (f_M_node_L297 f_M_node_b311 n γ) (NdQ J γ0) := by
  intro n
  induction n with
  | zero => intro γ h1 h2; have := h1.1.1.1.1.2.1; exfalso; omega
  | succ n ih =>
    intro γ h1 h2
    unfold f_M_node_L297
    refine wp_bndT (w_equation h1.1) (fun e γ' z => NdQ.er (h1.2.2.2.2.2.1.tr z.1)) (fun r γ' z => ?_)
    have ⟨h3, lt, l5⟩ := h1.step z
    have lx := h3.1.1.1.1
    have e1 : γ' 0 1 = γ 0 1 := z.1.1 0 1 (by omega) (by omega)
    have m := Mv.pk0 lx
    have m5 := m.2.2
    refine wp_yn (w_is lx 4) (fun q => ?_) (fun q => ?_)
    · rw [if_neg (by decide)]
      exact v_node_b311 hj t (h3.mv m) (by rw [m.2.1 0 30 (by omega)]; exact lt)
    · rw [if_pos rfl]
      have lb := h1.1.1.1.1.2.1
      exact ih _ (h3.mv m) (by rw [m.2.1 0 1 (by omega)]; omega)
theorem v_node_b242 {J : St → Int → Int → Prop} (hj : HJ J) {γ0 γ : St} (t : TpW γ0) (h : NdD γ0 γ) (h56 : F56 γ0 γ) (lt : γ0 0 5 < γ 0 5) : wp (f_M_node_b242 γ) (NdQ J γ0) := by
  have := FU_v
  have ⟨h1, h2, h3, ⟨h4, h4'⟩, h5, h6⟩ := h
  have ⟨⟨t1, t2, t3⟩, t4, t5, t6, t7, t8, t9, t10, t11⟩ := t
  have e18 := h.e18
  have nd := h1.2.1
  rw [e18] at nd
  have k30 : γ 0 30 = γ0 0 30 := h2 0 30 (by omega) (by omega) (by omega)
  have k31 : γ 0 31 = γ0 0 31 := h2 0 31 (by omega) (by omega) (by omega)
  have k40 : γ 0 40 = γ0 0 40 := h2 0 40 (by omega) (by omega) (by omega)
  unfold f_M_node_b242
  rw [e18]
  refine wp_chk (by omega) (wp_chk (by omega) (wp_sub ?_))
  have s : ∀ i k, setA γ 4 (γ0 0 18 + 1) (γ 0 19) i k = if i = 4 ∧ k = γ0 0 18 + 1 then γ 0 19 else γ i k := fun i k => by rw [stA]
  generalize setA γ 4 (γ0 0 18 + 1) (γ 0 19) = γ1 at *
  have s0 : ∀ i k, (i = 4 → k ≠ γ0 0 18 + 1) → γ1 i k = γ i k := fun i k q => by rw [s, if_neg (by omega)]
  have lx : LX γ1 := h1.1.fr (funext fun k => s0 1 k (by omega)) (fun k q => s0 0 k (by omega))
  have rf : Rf γ0 γ1 := h.re.tr ⟨fun i k q1 q2 => s0 i k (by omega), fun b => b.fr (fun k => s0 14 k (by omega)) (fun k => s0 28 k (by omega)) (fun k => s0 25 k (by omega))⟩
  refine wp_mustBe lx (fun q => ?_) (fun q => NdQ.er (rf.tr (Mv.pk0 lx).re))
  have m := Mv.tk0 lx
  have e := m.2.1
  have u0 : ∀ i k, (i = 0 → k < 5 ∨ 9 < k) → (i = 4 → k ≠ γ0 0 18 + 1) → tkS γ1 i k = γ i k := fun i k q1 q2 => by rw [e i k (by omega), s0 i k q2]
  have u18 : tkS γ1 0 18 = γ0 0 18 := by rw [u0 0 18 (by omega) (by omega)]; exact e18
  have u30 : tkS γ1 0 30 = γ0 0 30 := by rw [u0 0 30 (by omega) (by omega)]; exact k30
  have m5 := m.2.2
  have v5 := s0 0 5 (by omega)
  have u4 : tkS γ1 4 (γ0 0 18 + 1) = γ 0 19 := by rw [e 4 _ (by omega), s, if_pos ⟨rfl, rfl⟩]
  have ml := m.1
  have mr := m.re
  generalize tkS γ1 = γ2 at *
  rw [u18, u30]
  refine wp_chk (by omega) (wp_sub ?_)
  rw [show setA γ2 7 (γ0 0 18) (γ0 0 30) 0 18 = γ0 0 18 by rw [stA, if_neg (by omega)]; exact u18]
  refine wp_chk (by omega) (wp_sub ?_)
  rw [show setA (setA γ2 7 (γ0 0 18) (γ0 0 30)) 8 (γ0 0 18) 0 0 18 = γ0 0 18 by rw [stA, if_neg (by omega), stA, if_neg (by omega)]; exact u18]
  refine wp_chk (by omega) (wp_sub ?_)
  generalize hg : setA (setA (setA γ2 7 (γ0 0 18) (γ0 0 30)) 8 (γ0 0 18) 0) 9 (γ0 0 18) 0 = γ3
  have w : ∀ i k, γ3 i k = if i = 9 ∧ k = γ0 0 18 then 0 else if i = 8 ∧ k = γ0 0 18 then 0 else if i = 7 ∧ k = γ0 0 18 then γ0 0 30 else γ2 i k := fun i k => by rw [← hg, stA, stA, stA]
  have w0 : ∀ i k, (i = 7 ∨ i = 8 ∨ i = 9 → k ≠ γ0 0 18) → γ3 i k = γ2 i k := fun i k q => by rw [w, if_neg (by omega), if_neg (by omega), if_neg (by omega)]
  have w1 : ∀ i k, (i = 0 → k < 5 ∨ 9 < k) → (i = 4 → k ≠ γ0 0 18 + 1) → (i = 7 ∨ i = 8 ∨ i = 9 → k ≠ γ0 0 18) → γ3 i k = γ i k := fun i k q1 q2 q3 => by rw [w0 i k q3, u0 i k q1 q2]
  have x18 : γ3 0 18 = γ0 0 18 := by rw [w0 0 18 (by omega)]; exact u18
  have x19 : γ3 0 19 = γ 0 19 := w1 0 19 (by omega) (by omega) (by omega)
  have x30 : γ3 0 30 = γ0 0 30 := by rw [w0 0 30 (by omega)]; exact u30
  have x31 : γ3 0 31 = γ0 0 31 := by rw [w1 0 31 (by omega) (by omega) (by omega)]; exact k31
  have x40 : γ3 0 40 = γ0 0 40 := by rw [w1 0 40 (by omega) (by omega) (by omega)]; exact k40
  have x5 : γ3 0 5 = γ2 0 5 := w0 0 5 (by omega)
  have x4 : γ3 4 (γ0 0 18) = γ0 0 19 := by rw [w1 4 _ (by omega) (by omega) (by omega)]; exact h4
  have x7 : γ3 7 (γ0 0 18) = γ0 0 30 := by rw [w, if_neg (by omega), if_neg (by omega), if_pos ⟨rfl, rfl⟩]
  have x8 : γ3 8 (γ0 0 18) = 0 := by rw [w, if_neg (by omega), if_pos ⟨rfl, rfl⟩]
  have x9 : γ3 9 (γ0 0 18) = 0 := by rw [w, if_pos ⟨rfl, rfl⟩]
  have lx3 : LX γ3 := ml.fr (funext fun k => w0 1 k (by omega)) (fun k q => w0 0 k (by omega))
  have dc : DcI γ3 := h1.fr2 lx3 (by rw [x18, e18]) x19 (by rw [e18]; exact x4.trans h4.symm) (fun i q1 q2 k => w1 i k (by omega) (by omega) (by omega))
  have h56' := h56.1
  have ew : EqW (γ0 0 31) (γ0 0 40) γ3 := by
    unfold EqW
    rw [x18, x19, x30, x31, x40, x4, x7, x8, x9, w1 5 _ (by omega) (by omega) (by omega), show (γ0 0 31 - γ0 0 31).toNat = 0 by omega]
    refine ⟨⟨dc, fun v q1 q2 => ?_, by omega, by omega⟩, by omega, by omega, by omega, by omega, by omega, fun v q1 q2 => ?_, ⟨fun k q1 q2 => by omega, fun k q1 q2 => by omega, ?_⟩, ⟨fun _ => ⟨rfl, rfl⟩, fun q => by omega⟩, Odr.nil, Odr.nil⟩
    · rw [w1 2 v (by omega) (by omega) (by omega), w1 3 v (by omega) (by omega) (by omega)]
      exact h6 v q1 (by omega)
    · rw [w1 13 v (by omega) (by omega) (by omega)]
      exact h5 v q1 q2
    · rw [w1 16 _ (by omega) (by omega) (by omega), h2 16 _ (by omega) (by omega) (by omega)]
      exact t8
  have ne : NdE γ0 γ3 := by
    refine ⟨ew, fun i k q1 q2 q3 q4 q5 q6 q7 q8 q9 => ?_, ⟨x18, x4, ?_, by omega⟩, h56.fr (w1 5 _ (by omega) (by omega) (by omega)) (w1 6 _ (by omega) (by omega) (by omega)) (by omega) (fun v _ _ => w1 12 v (by omega) (by omega) (by omega)), fun v q1 q2 => by rw [w1 2 v (by omega) (by omega) (by omega), w1 3 v (by omega) (by omega) (by omega)]; exact h6 v q1 q2, (rf.tr mr).tr ⟨fun i k q1 q2 => w0 i k (by omega), fun b => b.fr (fun k => w0 14 k (by omega)) (fun k => w0 28 k (by omega)) (fun k => w0 25 k (by omega))⟩, x7, by omega⟩
    · by_cases r4 : i = 4 ∧ k = γ0 0 18
      · rw [r4.1, r4.2, x4]; exact (t9 (q4 (by omega)).1).1.symm
      · by_cases r7 : i = 7 ∧ k = γ0 0 18
        · rw [r7.1, r7.2, x7]; exact (t9 (q4 (by omega)).1).2.symm
        · rw [w1 i k (by omega) (by omega) (by omega)]
          exact h2 i k (by omega) (by omega) q5
    · rw [w0 4 _ (by omega), x19]; exact u4
  have lb := lx3.1
  have lb5 := lx3.2.1
  exact v_node_L297 hj t FU γ3 ne (by omega)
theorem v_node_L221 {J : St → Int → Int → Prop} (hj : HJ J) {γ0 : St} (t : TpW γ0) : ∀ (n : Nat) (γ : St), NdD γ0 γ → F56 γ0 γ → γ0 0 5 < γ 0 5 → γ 0 1 - γ 0 5 < n → wp (f_M_node_L221 f_M_node_b242 n γ) (NdQ J γ0) := by
  intro n
  induction n with
  | zero => intro γ h1 h2 h3 h4; have := h1.1.1.2.1; exfalso; omega
  | succ n ih =>
    intro γ h1 h2 h3 h4
    have m := Mv.pk0 h1.lx
    have m5 := m.2.2
    have d := h1.mv m
    unfold f_M_node_L221
    refine wp_yn (w_nameHere h1.lx) (fun q => ?_) (fun q => ?_)
    · rw [if_neg (by decide)]
      refine wp_bndT (w_group d.1) (fun e γ' z => NdQ.er (d.rg z.1 z.2.2)) (fun r γ' z => ?_)
      have g : GrQ (pkS γ) r γ' := (z.2.1 r rfl).1
      have d2 := d.gi g.1
      refine wp_must d2.lx (fun q2 => ?_) (fun q2 => NdQ.er (d2.mv (Mv.pk0 d2.lx)).re)
      have m2 := Mv.tk0 d2.lx
      have m25 := m2.2.2
      have g5 := g.2.2
      have e1 : γ' 0 1 = γ 0 1 := by rw [g.1.2.1 0 1 (by omega) (by omega)]; exact m.2.1 0 1 (by omega)
      have lb := h1.1.1.2.1
      exact ih _ (d2.mv m2) (((h2.mv m).gi g.1).mv m2) (by omega) (by rw [m2.2.1 0 1 (by omega)]; omega)
    · rw [if_pos rfl]
      exact v_node_b242 hj t d (h2.mv m) (by omega)
theorem v_node_b32 {J : St → Int → Int → Prop} (hj : HJ J) {γ0 γ : St} (t : TpW γ0) (m0 : Mv γ0 γ) (h58 : kwQ γ 0 → γ0 0 18 ≤ 58) : wp (f_M_node_b32 γ) (NdQ J γ0) := by
  have := FU_v
  have ⟨⟨t1, t2, t3⟩, t4, t5, t6, t7, t8, t9, t10, t11⟩ := t
  unfold f_M_node_b32
  refine wp_mustBe m0.1 (fun q => ?_) (fun q => NdQ.er m0.pk.re)
  have nd := h58 q
  have lt0 := Mv.nz m0.1 (by rw [q.1]; decide)
  have l0 := m0.2.2
  have m1 := m0.tk
  have m2 := m1.pk
  have e := m2.2.1
  have m25 := (Mv.pk0 m1.1).2.2
  have tk := m1.1.tko
  refine wp_yn (w_nameHere m1.1) (fun q2 => ?_) (fun q2 => ?_)
  · rw [if_pos (by decide)]
    have e18 := e 0 18 (by omega)
    have e19 := e 0 19 (by omega)
    refine wp_bnd (w_nodeHere tk (by rw [e18]; exact fun v q1 q2 => by rw [e 2 v (by omega), e 3 v (by omega)]; exact t3 v q1 q2) (by omega)) (fun r γ' hz => ?_)
    obtain ⟨r', e', f⟩ := hz
    cases e'
    refine wp_ite (fun q3 => ?_) (fun q3 => wp_some (NdQ.er m2.re))
    have ml := m2.1
    have mr := m2.re
    unfold TkO at tk
    generalize pkS (tkS γ) = γ1 at *
    rw [e18]
    refine wp_chk (by omega) (wp_sub ?_)
    have c1 : ∀ k, setA γ1 2 (γ0 0 18) (γ1 0 7) 0 k = γ1 0 k := fun k => by rw [stA, if_neg (by omega)]
    rw [c1, c1, c1, e18]
    refine wp_chk (by omega) (wp_chk (by omega) (wp_sub ?_))
    have s : ∀ i k, setA (setA γ1 2 (γ0 0 18) (γ1 0 7)) 3 (γ0 0 18) (γ1 0 8 - γ1 0 7) i k = if i = 3 ∧ k = γ0 0 18 then γ1 0 8 - γ1 0 7 else if i = 2 ∧ k = γ0 0 18 then γ1 0 7 else γ1 i k := fun i k => by rw [stA, stA]
    generalize setA (setA γ1 2 (γ0 0 18) (γ1 0 7)) 3 (γ0 0 18) (γ1 0 8 - γ1 0 7) = γ2 at *
    have s0 : ∀ i k, (i = 2 ∨ i = 3 → k ≠ γ0 0 18) → γ2 i k = γ1 i k := fun i k q => by rw [s, if_neg (by omega), if_neg (by omega)]
    have lx2 : LX γ2 := ml.fr (funext fun k => s0 1 k (by omega)) (fun k q => s0 0 k (by omega))
    have m3 := Mv.tk0 lx2
    refine wp_bs (tkM_eq lx2) ?_
    have u0 : ∀ i k, (i = 0 → k < 5 ∨ 9 < k) → (i = 2 ∨ i = 3 → k ≠ γ0 0 18) → tkS γ2 i k = γ0 i k := fun i k q1 q2 => by rw [m3.2.1 i k (by omega), s0 i k q2, e i k (by omega)]
    have m35 := m3.2.2
    have v5 := s0 0 5 (by omega)
    have u2 : tkS γ2 2 (γ0 0 18) = γ1 0 7 := by rw [m3.2.1 2 _ (by omega), s, if_neg (by omega), if_pos ⟨rfl, rfl⟩]
    have u3 : tkS γ2 3 (γ0 0 18) = γ1 0 8 - γ1 0 7 := by rw [m3.2.1 3 _ (by omega), s, if_pos ⟨rfl, rfl⟩]
    have ml3 := m3.1
    generalize tkS γ2 = γ3 at *
    rw [u0 0 18 (by omega) (by omega), u0 0 19 (by omega) (by omega)]
    refine wp_chk (by omega) (wp_sub ?_)
    have w : ∀ i k, setA γ3 4 (γ0 0 18) (γ0 0 19) i k = if i = 4 ∧ k = γ0 0 18 then γ0 0 19 else γ3 i k := fun i k => by rw [stA]
    generalize setA γ3 4 (γ0 0 18) (γ0 0 19) = γ4 at *
    have w0 : ∀ i k, (i = 4 → k ≠ γ0 0 18) → γ4 i k = γ3 i k := fun i k q => by rw [w, if_neg (by omega)]
    have w1 : ∀ i k, (i = 0 → k < 5 ∨ 9 < k) → (2 ≤ i → i ≤ 4 → k ≠ γ0 0 18) → γ4 i k = γ0 i k := fun i k q1 q2 => by rw [w0 i k (by omega), u0 i k q1 (by omega)]
    have x18 : γ4 0 18 = γ0 0 18 := w1 0 18 (by omega) (by omega)
    have x19 : γ4 0 19 = γ0 0 19 := w1 0 19 (by omega) (by omega)
    have x4 : γ4 4 (γ0 0 18) = γ0 0 19 := by rw [w, if_pos ⟨rfl, rfl⟩]
    have x5 : γ4 0 5 = γ3 0 5 := w0 0 5 (by omega)
    have d : NdD γ0 γ4 := by
      refine ⟨⟨ml3.fr (funext fun k => w0 1 k (by omega)) (fun k q => w0 0 k (by omega)), by omega, by rw [x18, x4]; omega, by rw [x18, x4]; omega, fun v q1 q2 => ?_, fun v q1 q2 => ?_, fun v => by rw [w1 14 v (by omega) (by omega)]; exact t10.1 v⟩, fun i k q1 q2 q3 => w1 i k (by omega) (by omega), by omega, ⟨x4, by omega⟩, fun v q1 q2 => by omega, fun v q1 q2 => ?_⟩
      · rw [x18, x4] at q1; omega
      · rw [x18, x4] at q1; omega
      · by_cases q4 : v = γ0 0 18
        · rw [q4, w0 2 _ (by omega), w0 3 _ (by omega), u2, u3]; omega
        · rw [w1 2 v (by omega) (by omega), w1 3 v (by omega) (by omega)]; exact t3 v q1 (by omega)
    have lt4 : γ0 0 5 < γ4 0 5 := by omega
    refine wp_bndT (w_groups d.1) (fun e γ' z => NdQ.er (d.rg z.1 z.2.2)) (fun r γ5 z => ?_)
    have g : GrQ γ4 r γ5 := (z.2.1 r rfl).1
    have gn5 : GN γ4 γ5 := (z.2.1 r rfl).2 rfl
    have d5 := d.gi g.1
    have g19 := g.2.1
    have g5 := g.2.2
    have nd5 := d5.1.2.1
    have n4 := d5.1.2.2.2.1
    rw [d5.e18] at nd5
    rw [d5.e18, d5.2.2.2.1.1] at n4
    rw [d5.e18, d5.2.2.2.1.1]
    refine wp_chk (by omega) (wp_chk (by omega) (wp_chk (by omega) (wp_sub ?_)))
    have d6 := d5.set (A := 5) (w := γ5 0 19 - γ0 0 19) (by omega) rfl
    have f5 : setA γ5 5 (γ0 0 18) (γ5 0 19 - γ0 0 19) 5 (γ0 0 18) = γ5 0 19 - γ0 0 19 := by rw [stA, if_pos ⟨rfl, rfl⟩]
    have f12 : ∀ k, setA γ5 5 (γ0 0 18) (γ5 0 19 - γ0 0 19) 12 k = γ5 12 k := fun k => by rw [stA, if_neg (by omega)]
    have f0 : ∀ k, setA γ5 5 (γ0 0 18) (γ5 0 19 - γ0 0 19) 0 k = γ5 0 k := fun k => by rw [stA, if_neg (by omega)]
    generalize setA γ5 5 (γ0 0 18) (γ5 0 19 - γ0 0 19) = γ6 at *
    refine wp_mustBe d6.lx (fun q4 => ?_) (fun q4 => NdQ.er (d6.mv (Mv.pk0 d6.lx)).re)
    have m7 := Mv.tk0 d6.lx
    have d7 := d6.mv m7
    have i5 := m7.2.1 5 (γ0 0 18) (by omega)
    have i12 : ∀ k, tkS γ6 12 k = γ6 12 k := fun k => m7.2.1 12 k (by omega)
    have i19 := m7.2.1 0 19 (by omega)
    have j5 := m7.2.2
    generalize tkS γ6 = γ7 at *
    refine wp_bndT (w_groups d7.1) (fun e γ' z => NdQ.er (d7.rg z.1 z.2.2)) (fun r γ8 z => ?_)
    have g : GrQ γ7 r γ8 := (z.2.1 r rfl).1
    have gn8 : GN γ7 γ8 := (z.2.1 r rfl).2 rfl
    have d8 := d7.gi g.1
    have g19' := g.2.1
    have g5' := g.2.2
    have k5 : γ8 5 (γ0 0 18) = γ5 0 19 - γ0 0 19 := by rw [g.1.2.1 5 _ (by omega) (by omega), i5, f5]
    have n4' := d8.1.2.2.2.1
    have f19 := f0 19
    have f05 := f0 5
    rw [d8.e18, d8.2.2.2.1.1] at n4'
    rw [d8.e18, d8.2.2.2.1.1, k5]
    refine wp_chk (by omega) (wp_chk (by omega) (wp_chk (by omega) (wp_chk (by omega) (wp_chk (by omega) (wp_sub ?_)))))
    have d9 := d8.set (A := 6) (w := γ8 0 19 - γ0 0 19 - (γ5 0 19 - γ0 0 19)) (by omega) rfl
    have p6 : setA γ8 6 (γ0 0 18) (γ8 0 19 - γ0 0 19 - (γ5 0 19 - γ0 0 19)) 6 (γ0 0 18) = γ8 0 19 - γ0 0 19 - (γ5 0 19 - γ0 0 19) := by rw [stA, if_pos ⟨rfl, rfl⟩]
    have p0 : ∀ i k, i ≠ 6 → setA γ8 6 (γ0 0 18) (γ8 0 19 - γ0 0 19 - (γ5 0 19 - γ0 0 19)) i k = γ8 i k := fun i k q => by rw [stA, if_neg (by omega)]
    generalize setA γ8 6 (γ0 0 18) (γ8 0 19 - γ0 0 19 - (γ5 0 19 - γ0 0 19)) = γ9 at *
    have p5 := p0 5 (γ0 0 18) (by omega)
    have p19 := p0 0 19 (by omega)
    have p05 := p0 0 5 (by omega)
    have h56 : F56 γ0 γ9 := by
      unfold F56
      rw [p5, p6, k5, p19]
      refine ⟨by omega, fun v q1 q2 => ?_⟩
      rw [p0 12 v (by omega)]
      by_cases q8 : v < γ5 0 19
      · rw [g.1.2.1 12 v (by omega) (by omega), i12, f12]
        exact gn5 v (by omega) q8
      · exact gn8 v (by omega) (by omega)
    refine wp_must d9.lx (fun q5 => ?_) (fun q5 => NdQ.er (d9.mv (Mv.pk0 d9.lx)).re)
    have m10 := Mv.tk0 d9.lx
    have m11 := m10.pk
    have o5 := m11.2.2
    refine wp_yn (w_is m10.1 2) (fun q6 => ?_) (fun q6 => ?_)
    · rw [if_neg (by decide)]
      have m12 := m11.tk
      have o5' := m12.2.2
      have da := d9.mv m12
      refine wp_bs (tkM_eq m11.1) ?_
      refine wp_bndT (w_group da.1) (fun e γ' z => NdQ.er (da.rg z.1 z.2.2)) (fun r γb z => ?_)
      have g : GrQ _ r γb := (z.2.1 r rfl).1
      have db := da.gi g.1
      have gb := g.2.2
      refine wp_must db.lx (fun q2 => ?_) (fun q2 => NdQ.er (db.mv (Mv.pk0 db.lx)).re)
      have mc := Mv.tk0 db.lx
      have mc5 := mc.2.2
      have lb := mc.1.1
      have lb5 := mc.1.2.1
      exact v_node_L221 hj t FU _ (db.mv mc) (((h56.mv m12).gi g.1).mv mc) (by omega) (by omega)
    · rw [if_pos rfl]
      exact v_node_b242 hj t (d9.mv m11) (h56.mv m11) (by omega)
  · rw [if_neg (by decide)]
    exact wp_cant m2.1 (NdQ.er m2.pk.re)
theorem v_node {J : St → Int → Int → Prop} (hj : HJ J) {γ : St} (t : TpW γ) : wp (f_M_node γ) (NdQ J γ) := by
  have lx := t.1.1
  have m := Mv.pk0 lx
  have nd := t.1.2.1
  unfold f_M_node
  refine wp_yn (w_is lx 0) (fun q => ?_) (fun q => ?_)
  · rw [if_neg (by decide), m.2.1 0 18 (by omega)]
    refine wp_ite (fun q2 => v_node_b32 hj t m (fun _ => by omega)) (fun q2 => wp_some (NdQ.er m.re))
  · rw [if_pos rfl]
    exact v_node_b32 hj t m (fun q2 => absurd ((pk_kw lx 0).1 q2) q)
