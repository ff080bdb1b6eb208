/-! equality: what each node keeps -/
theorem dv_L34 {n b E0 : Int} {γ0 : St} : ∀ (m : Nat) (γ : St) (x7 x8 : Int), (x7 ≠ 0 → NI γ ∧ DvI n b E0 γ0 γ (γ 4 10)) → pc (f_Nr_readBody_L34 ex1 m γ x7 x8) (fun z => z.1 ≠ 0 → NI z.2 ∧ DvI n b E0 γ0 z.2 (z.2 4 10)) := by
  intro m
  induction m with
  | zero => intro γ x7 x8 _; exact pc_n
  | succ m ih =>
    intro γ x7 x8 h
    have e : ∀ γ1, γ1 = γ → pc (ex1 γ1 x7) (fun z => z.1 ≠ 0 → NI z.2 ∧ DvI n b E0 γ0 z.2 (z.2 4 10)) := fun γ1 e1 => by rw [e1]; exact pc_s (fun q => h q)
    unfold f_Nr_readBody_L34
    refine pc_i (fun _ => e γ rfl) (fun q => pc_i (fun _ => e γ rfl) (fun _ => pc_b kind_pc (fun r γ1 w => ?_)))
    cases w
    refine pc_i (fun _ => e γ rfl) (fun _ => pc_b (dv_eqn (h q).1 (h q).2) (fun r3 γ3 w => pc_c (fun _ => ih γ3 r3 _ w)))
theorem cn_r {γ : St} : pc (f_Nr_closeNode γ) (fun z => ∀ j k, j ≠ 1 → j ≠ 3 → j ≠ 23 → (j < 30 ∨ 32 < j) → z.2 j k = γ j k) := by
  unfold f_Nr_closeNode
  refine pc_b (P := fun z => ∀ j k, j ≠ 3 → (j < 30 ∨ 32 < j) → z.2 j k = γ j k) ?_ (fun r γ' w => ?_)
  · unfold f_Nd_close
    refine pc_a ?_
    refine pc_c (fun _ => pc_c (fun _ => pc_c (fun _ => pc_a ?_)))
    generalize hg : setA γ 30 _ _ = γ1
    have s0 : ∀ (j : Nat) (k : Int), j ≠ 30 → γ1 j k = γ j k := fun j k q => by rw [← hg, stA, if_neg (by omega)]
    refine pc_c (fun _ => pc_c (fun _ => pc_a (pc_c (fun _ => pc_c (fun _ => pc_c (fun _ => pc_a (pc_c (fun _ => pc_a (L60_pc FU _ _ _ ?_)))))))))
    unfold f_Nd_close_b130
    refine pc_c (fun _ => pc_a (pc_c (fun _ => pc_a (pc_c (fun _ => pc_a (pc_s (fun j k q1 q2 => ?_)))))))
    show setA _ 3 9 _ j k = _
    rw [stA, if_neg (by omega), stA, if_neg (by omega), stA, if_neg (by omega)]
    exact s0 j k (by omega)
  · have w : ∀ j k, j ≠ 3 → (j < 30 ∨ 32 < j) → γ' j k = γ j k := w
    refine pc_c (fun _ => pc_c (fun _ => pc_c (fun _ => pc_a (pc_b step_r (fun r γ2 w2 => pc_s (fun j k q1 q2 q3 q4 => ?_))))))
    have w2 : ∀ j k, j ≠ 1 → γ2 j k = setA γ' 23 _ _ j k := w2
    show γ2 j k = _
    rw [w2 j k q1, stA, if_neg (by omega)]
    exact w j k q2 q4
/-- what a node's body leaves -/
def DvQ (b E0 : Int) (γ0 γ : St) : Prop := (∀ v, v < b → γ 37 v = γ0 37 v) ∧ (∀ k, k < E0 → γ 42 k = γ0 42 k) ∧ ∀ k i, E0 ≤ k → k < γ 4 10 → γ 45 k ≤ i → i < γ 45 k + γ 46 k → i < γ 4 12 → ∃ k' i', (E0 ≤ k' ∧ k' < γ 4 10) ∧ (γ 45 k' ≤ i' ∧ i' < γ 45 k' + γ 46 k' ∧ i' < γ 4 12) ∧ γ 47 i' = γ 47 i ∧ γ 37 (b + γ 47 i) = γ 42 k'
theorem DvI.q {n b E0 : Int} {γ0 γ γ' : St} (h : DvI n b E0 γ0 γ (γ 4 10)) (f : ∀ j k, (j = 37 ∨ j = 42 ∨ 45 ≤ j ∧ j ≤ 47 ∨ j = 4 ∧ (k = 10 ∨ k = 12)) → γ' j k = γ j k) : DvQ b E0 γ0 γ' := by
  obtain ⟨_, h2, h3, h4, h5⟩ := h
  refine ⟨fun v q => by rw [f 37 v (by omega)]; exact h2 v q, fun k q => by rw [f 42 k (by omega)]; exact h3 k q, fun k i q1 q2 q3 q4 q5 => ?_⟩
  rw [f 4 10 (by omega)] at q2
  rw [f 45 k (by omega)] at q3 q4
  rw [f 46 k (by omega)] at q4
  rw [f 4 12 (by omega)] at q5
  obtain ⟨k', i', a1, a2, a3, a4⟩ := h5 k i q1 q2 q3 q4 q5
  exact ⟨k', i', by rw [f 4 10 (by omega)]; exact a1, by rw [f 45 k' (by omega), f 46 k' (by omega), f 4 12 (by omega)]; exact a2, by rw [f 47 _ (by omega), f 47 _ (by omega)]; exact a3, by rw [f 47 _ (by omega), f 37 _ (by omega), f 42 _ (by omega)]; exact a4⟩
theorem dv_bdC {n b : Int} {γ : St} (h : NI γ) (h9 : γ 3 9 = n) (hb : γ 25 n = b) : pc (bdC γ) (fun z => z.1 ≠ 0 → DvQ b (γ 4 10) γ z.2) := by
  unfold bdC
  have we := (w_Tk_expect (γ := γ) (a0 := 23) h.1 (by omega)).pc
  refine pc_b we (fun r γ1 w => pc_i (fun _ => pc_s (fun w => absurd rfl w)) (fun q => ?_))
  obtain ⟨z1, z2, z3⟩ := w
  have z1 : TkR γ1 := z1
  have z2 : FrC γ γ1 := z2
  have z3 : r = 0 ∧ γ1 1 7 ≠ 0 ∧ γ1 1 6 = γ 1 6 ∨ r = 1 ∧ γ1 1 7 = γ 1 7 ∧ γ1 1 6 = γ 1 6 + 1 := z3
  have n1 : NI γ1 := h.fr z1 z2 (by omega)
  have d1 : DvI n b (γ 4 10) γ γ1 (γ1 4 10) := ⟨⟨by rw [z2 3 9 (by omega)]; exact h9, by rw [z2 25 n (by omega)]; exact hb⟩, fun v _ => z2 37 v (by omega), fun k _ => z2 42 k (by omega), by rw [z2 4 10 (by omega)]; omega, fun k i q1 q2 => by rw [z2 4 10 (by omega)] at q2; omega⟩
  refine pc_b (dv_eqn n1 d1) (fun r2 γ2 w => pc_i (fun _ => pc_s (fun w => absurd rfl w)) (fun q2 => ?_))
  refine pc_b (dv_L34 FU γ2 1 0 (fun _ => w q2)) (fun r3 γ3 w3 => ?_)
  unfold f_Nr_readBody_b72
  refine pc_i (fun _ => pc_s (fun w => absurd rfl w)) (fun q3 => ?_)
  obtain ⟨n3, d3⟩ := w3 q3
  refine pc_b (w_check n3).pc (fun r4 γ4 w4 => pc_i (fun _ => pc_s (fun w => absurd rfl w)) (fun q4 => ?_))
  have fz : FrZ γ3 γ4 := by
    rcases w4 with w | w
    · exact absurd w.1 q4
    · exact w.2.2.1
  refine pc_b cn_r (fun r5 γ5 w5 => pc_i (fun _ => pc_s (fun w => absurd rfl w)) (fun q5 => pc_s (fun _ => ?_)))
  have w5 : ∀ j k, j ≠ 1 → j ≠ 3 → j ≠ 23 → (j < 30 ∨ 32 < j) → γ5 j k = γ4 j k := w5
  show DvQ b (γ 4 10) γ γ5
  exact d3.q (fun j k q => by rw [w5 j k (by omega) (by omega) (by omega) (by omega)]; exact fz j k (by omega) (by omega) (by omega))
theorem hv_ni {γ : St} (h : TopI γ) : pc (hvC γ) (fun z => z.1 ≠ 0 → NI z.2) := by
  unfold hvC
  refine pc_b (w_readHead h).pc (fun r γ1 w => pc_i (fun _ => pc_s (fun w => absurd rfl w)) (fun q => ?_))
  rcases w with w | w
  · exact absurd w.1 q
  · exact pc_m (w_readVars w.2.1).pc (fun z hz _ => hz.1)
theorem df_node {N : Int} {γ δ : St} (h : PnR N γ δ) (ht : TopI γ) (t : TpW δ) : pq (rdN γ) (f_M_node δ) (fun y z => ∀ r, z.1 = .inr r → y.1 ≠ 0 → DvQ (δ 0 19) (δ 0 30) γ y.2) := by
  have ⟨pg, nt, eqt, pt, fl0, sz⟩ := h
  rw [rdN_s, show f_M_node δ = bndT (bndT (ndF δ) fun _ δ1 => vrs δ1) (fun _ δ2 => f_M_node_b242 δ2) by rw [node_s, bT_T]]
  refine pq_bb (pq_andl (pq_and (pq_hv pg) (h_node t).pc) (hv_ni ht)) (fun r γ' e δ' hh => fun y z _ e2 r2 w => by cases e2; cases w) (fun r γ1 x δ1 hh => ?_)
  obtain ⟨⟨h1, h2⟩, h3⟩ := hh
  obtain ⟨e1, hi⟩ := h1.go
  obtain ⟨ndd, f56, lt5⟩ := h2 x rfl
  have e1 : r = 1 := e1
  rw [if_neg (by rw [e1]; decide)]
  have ni : NI γ1 := h3 (by show r ≠ 0; rw [e1]; decide)
  have ⟨⟨dc1, hd1⟩, h29, fcn, fgn, le19, h26, h27⟩ := hi
  have ⟨_, _, _, ⟨v1, v2, v3, _⟩, _⟩ := dc1
  have e18 : δ1 0 18 = δ 0 18 := ndd.e18
  have a2 : δ1 4 (δ 0 18) = δ 0 19 := ndd.2.2.2.1.1
  rw [e18] at v1 v3
  have e10 : γ1 4 10 = δ 0 30 := by rw [fcn 4 10 (by omega) (by omega) (by omega) (by omega) (by omega) (by omega)]; exact eqt.1.1
  have bd := dv_bdC (b := δ 0 19) ni v1 (by rw [v3, a2])
  intro y z e2 e3 r2 w w2
  obtain ⟨b1, b2, b3⟩ := bd y e2 w2
  rw [e10] at b2 b3
  exact ⟨fun v q => by rw [b1 v q]; exact fcn 37 v (by omega) (by omega) (by omega) (by omega) (by omega) (by omega), fun k q => by rw [b2 k q]; exact fcn 42 k (by omega) (by omega) (by omega) (by omega) (by omega) (by omega), b3⟩
theorem NdX.lf {δ : St} {f v0 v1 a b l0 l P0 P k k' i i' : Int} (x : NdX δ f v0 v1 a b l0 l P0 P) (k1 : a ≤ k) (k2 : k < b) (k3 : a ≤ k') (k4 : k' < b) (i1 : δ 16 k ≤ i) (i2 : i < δ 16 (k + 1)) (i3 : δ 16 k' ≤ i') (i4 : i' < δ 16 (k' + 1)) (e : δ 18 i = δ 18 i') : i = i' ∧ k = k' := by
  have x2 := x.2.1
  have ⟨x1, _, x3, x4, x5, x6, x7, x8, x9, x10, x11, x12, x13, x14, x15⟩ := x.1
  have er := x4.1
  have mono : ∀ (n : Nat) (c d : Int), a ≤ c → d = c + 1 + n → d ≤ b → δ 16 (c + 1) ≤ δ 16 d := by
    intro n
    induction n with
    | zero => intro c d h1 h2 h3; rw [h2]; simp
    | succ n ih =>
      intro c d h1 h2 h3
      have := ih c (d - 1) h1 (by omega) (by omega)
      have r2 := (er (d - 1) (by omega) (by omega)).1.2.1
      rw [show d - 1 + 1 = d by omega] at r2
      omega
  have base : ∀ (n : Nat) (d : Int), d = a + n → d < b → l0 ≤ δ 16 d := by
    intro n
    induction n with
    | zero => intro d h1 h2; rw [show d = a by omega, x10]; omega
    | succ n ih =>
      intro d h1 h2
      have := ih (d - 1) (by omega) (by omega)
      have r2 := (er (d - 1) (by omega) (by omega)).1.2.1
      rw [show d - 1 + 1 = d by omega] at r2
      omega
  have b1 := base (k - a).toNat k (by omega) k2
  have b2 := base (k' - a).toNat k' (by omega) k4
  have u1 := (er k k1 k2).2.1
  have u2 := (er k' k3 k4).2.1
  have v1' := (er k k1 k2).1.2.2.1 i i1 i2
  have c1 := x2 (v0 + δ 18 i) (by omega) (by omega)
  rw [show v0 + δ 18 i - v0 = δ 18 i by omega] at c1
  have ei : i = i' := by
    by_cases q : i < i'
    · have := cntN_two (f := δ 18) (lo := l0) (w := δ 18 i) rfl e.symm q (n := (l - l0).toNat) (by omega) (by omega)
      omega
    · by_cases q2 : i' < i
      · have := cntN_two (f := δ 18) (lo := l0) (w := δ 18 i) e.symm rfl q2 (n := (l - l0).toNat) (by omega) (by omega)
        omega
      · omega
  refine ⟨ei, ?_⟩
  by_cases q : k < k'
  · have := mono (k' - k - 1).toNat k k' k1 (by omega) (by omega); omega
  · by_cases q2 : k' < k
    · have := mono (k - k' - 1).toNat k' k k3 (by omega) (by omega); omega
    · omega
/-- an earlier node's clocks stay -/
theorem ClE.fn {γ0 γ : St} {f k : Int} (t : TpW γ0) (fn : Fn γ0 γ) (h0 : 0 ≤ f) (h1 : f < γ0 0 18) (k1 : γ0 7 f ≤ k) (k2 : k < γ0 7 (f + 1)) (h : ClE γ0 (γ0 4 f) k) : ClE γ (γ0 4 f) k := by
  obtain ⟨n1, n2, n5, l0, l, P0, P, n3, n4, x⟩ := t.2.2.2.2.2.2.2.2 f h0 h1
  have xk := x.2.2.1
  have ⟨x1, xx, x3, x4, x5, x6, x7, x8, x9, x10, x11, x12, x13, x14, x15⟩ := x.1
  have er := x4.1 k k1 k2
  have ⟨r1, r2, r3, r4, r5, _⟩ := er.1
  have u1 := er.2.1
  have u2 := er.2.2
  have t30 := t.2.2.1.1
  have f15 : ∀ j q, (j = 17 ∨ j = 19) → q < γ0 0 30 → γ j q = γ0 j q := fun j q w1 w2 => fn j q (by omega) (by omega) (by omega) (by omega) (by omega) (by omega) (by omega) (by omega) (by omega)
  have f16 : ∀ q, q ≤ γ0 0 30 → γ 16 q = γ0 16 q := fun q w2 => fn 16 q (by omega) (by omega) (by omega) (by omega) (by omega) (by omega) (by omega) (by omega) (by omega)
  have f18 : ∀ q, q < γ0 0 31 → γ 18 q = γ0 18 q := fun q w2 => fn 18 q (by omega) (by omega) (by omega) (by omega) (by omega) (by omega) (by omega) (by omega) (by omega)
  have f20 : ∀ j q, 20 ≤ j → j ≤ 24 → q < γ0 0 40 → γ j q = γ0 j q := fun j q w1 w3 w2 => fn j q (by omega) (by omega) (by omega) (by omega) (by omega) (by omega) (by omega) (by omega) (by omega)
  have f12 : ∀ q, q < γ0 0 19 → γ 12 q = γ0 12 q := fun q w2 => fn 12 q (by omega) (by omega) (by omega) (by omega) (by omega) (by omega) (by omega) (by omega) (by omega)
  unfold ClE
  rw [f15 19 k (by omega) (by omega), f15 17 k (by omega) (by omega), f16 k (by omega), f16 (k + 1) (by omega), f20 24 _ (by omega) (by omega) (by omega)]
  refine ⟨fun e q1 q2 => ?_, fun i q1 q2 => ?_⟩
  · obtain ⟨ms, c1, c2, c3, p1, p2, p3, p4⟩ := h.1 e q1 q2
    obtain ⟨ks, g1, g2, g3, g4, g5, _⟩ := r5 e q1 q2
    have e20 := f20 20 e (by omega) (by omega) (by omega)
    have e21 := f20 21 e (by omega) (by omega) (by omega)
    have e22 := f20 22 e (by omega) (by omega) (by omega)
    have e24 := f20 24 e (by omega) (by omega) (by omega)
    have m24 : ∀ y ∈ ms, γ 24 y = γ0 24 y := fun y hy => f20 24 y (by omega) (by omega) (by have := c2 y hy; omega)
    refine ⟨ms, ?_, c2, by rw [e20, e22]; exact c3, ?_⟩
    · rw [e22]
      exact c1.agree (fun y hy => f20 23 y (by omega) (by omega) (by have := c2 y hy; omega))
    · unfold ClP
      rw [e20, e21, e22, e24]
      refine ⟨fun q => ?_, fun q => ?_, fun q => ?_, fun w1 w2 w3 y hy => by rw [m24 y hy]; exact p4 w1 w2 w3 y hy⟩
      · have := g5.2.1 q
        rw [f12 _ (by omega)]; exact p1 q
      · have := g5.2.2.2 q
        rw [f12 _ (by omega), m24 _ (c3 (Or.inr q))]; exact p2 q
      · have m := c2 _ (c3 (Or.inl q))
        have k24 := xk (γ0 22 e) (by have := r4; have ge := x4.ge (k - γ0 7 f).toNat k (by omega) k2; omega) (by omega)
        have p := p3 q
        unfold CkV at k24
        rw [m24 _ (c3 (Or.inl q)), f12 _ (by omega)]; exact p
  · have l1 := r3 i q1 q2
    have l2 := r3 (γ0 16 k) (Int.le_refl _) r2.2
    rw [f18 i (by omega), f18 (γ0 16 k) (by omega), f12 _ (by omega), f12 _ (by omega)]
    exact h.2 i q1 q2
def KeI (γ δ : St) : Prop := JcA δ ∧ DfN γ δ
theorem ke_node (N : Int) (γ δ : St) (h : PnR N γ δ) (ht : TopI γ) (t : TpW δ) (hi : KeI γ δ) : pq (rdN γ) (f_M_node δ) (fun y z => ∀ r, z.1 = .inr r → y.1 ≠ 0 → KeI y.2 z.2) := by
  intro y z e1 e2 r hr hy
  have pnd := pq_node h t y z e1 e2
  have dv := df_node h ht t y z e1 e2 r hr hy
  have ndq := (v_node hj_cl t).pc z e2
  obtain ⟨no, nq⟩ := ndq
  obtain ⟨t', e18, _⟩ := no.2 r hr
  obtain ⟨fn, ⟨q4, q7, q7'⟩, J⟩ := nq r hr
  have pn : PnR N y.2 z.2 := by
    obtain ⟨z1, z2⟩ := z
    have hr : z1 = .inr r := hr
    subst hr
    obtain ⟨y1, y2⟩ := y
    exact pnd.go.2
  have t' : TpW z.2 := t'
  have e18 : z.2 0 18 = δ 0 18 + 1 := e18
  obtain ⟨jc, df⟩ := hi
  have n0 := t.1.2.1
  have old4 : ∀ g, 0 < δ 0 18 → g ≤ δ 0 18 → z.2 4 g = δ 4 g ∧ z.2 7 g = δ 7 g := fun g w1 w2 => ⟨fn 4 g (by omega) (by omega) (by omega) (by omega) (by omega) (by omega) (by omega) (by omega) (by omega), fn 7 g (by omega) (by omega) (by omega) (by omega) (by omega) (by omega) (by omega) (by omega) (by omega)⟩
  refine ⟨fun f w1 w2 k v1 v2 => ?_, fun f w1 w2 k v1 v2 i u1 u2 => ?_⟩
  · by_cases q : f < δ 0 18
    · rw [(old4 f (by omega) (by omega)).2] at v1
      rw [(old4 (f + 1) (by omega) (by omega)).2] at v2
      rw [(old4 f (by omega) (by omega)).1]
      exact (jc f w1 q k v1 v2).fn t fn w1 q v1 v2
    · have ef : f = δ 0 18 := by omega
      subst ef
      rw [q7] at v1
      rw [q7'] at v2
      rw [q4]
      exact (J k v1 v2).2
  · obtain ⟨d1, d2, d3⟩ := dv
    by_cases q : f < δ 0 18
    · rw [(old4 f (by omega) (by omega)).2] at v1
      rw [(old4 (f + 1) (by omega) (by omega)).2] at v2
      obtain ⟨n1, n2, n5, l0, l, P0, P, n3, n4, x⟩ := t.2.2.2.2.2.2.2.2 f w1 q
      have er := x.1.2.2.2.1.1 k v1 v2
      have b16 := er.1.2.1
      have f16 : ∀ q, q ≤ δ 0 30 → z.2 16 q = δ 16 q := fun q w2 => fn 16 q (by omega) (by omega) (by omega) (by omega) (by omega) (by omega) (by omega) (by omega) (by omega)
      rw [f16 k (by omega)] at u1
      rw [f16 (k + 1) (by omega)] at u2
      have l3 := er.1.2.2.1 i u1 u2
      have e18' : z.2 18 i = δ 18 i := fn 18 i (by omega) (by omega) (by omega) (by omega) (by omega) (by omega) (by omega) (by have := er.2.1; omega) (by omega)
      rw [(old4 f (by omega) (by omega)).1, e18', d1 _ (by omega), d2 k (by omega)]
      exact df f w1 q k v1 v2 i u1 u2
    · have ef : f = δ 0 18 := by omega
      subst ef
      obtain ⟨_, _, ⟨⟨g1, g2⟩, g3, g4⟩, _⟩ := pn
      obtain ⟨⟨l0, l, x, _⟩, _⟩ := t'.nx w1 w2
      have t30 := t.2.2.1.1
      have l31 : z.2 16 (k + 1) ≤ z.2 0 31 := by
        obtain ⟨n1, n2, n5, l0', l', P0, P, n3, n4, x'⟩ := t'.2.2.2.2.2.2.2.2 (δ 0 18) w1 w2
        have := (x'.1.2.2.2.1.1 k v1 v2).2.1
        omega
      have b16 := (x.1.2.2.2.1.1 k v1 v2).1.2.1
      have v1' := v1
      have v2' := v2
      rw [q7] at v1
      rw [q7'] at v2
      obtain ⟨h1, h2, h3, h4, h5⟩ := g3 k (by omega) v2
      obtain ⟨k', i', a1, a2, a3, a4⟩ := d3 k i v1 (by omega) (by omega) (by omega) (by omega)
      obtain ⟨j1, j2, j3, j4, j5⟩ := g3 k' (by omega) (by omega)
      have b16' := (x.1.2.2.2.1.1 k' (by rw [q7]; omega) (by rw [q7']; omega)).1.2.1
      rw [g4 i (by omega) (by omega), g4 i' (by omega) (by omega)] at a3
      rw [g4 i (by omega) (by omega)] at a4
      have lf := x.lf (k := k) (k' := k') (i := i) (i' := i') v1' v2' (by rw [q7]; omega) (by rw [q7']; omega) u1 u2 (by omega) (by omega) a3.symm
      rw [q4, a4, ← lf.2]
theorem ke_pk (γ δ : St) (h : LX δ) (k : KeI γ δ) : KeI γ (pkS δ) := by
  have m := Mv.pk0 h
  have o : ∀ j q, (j ≠ 0 ∨ q < 5 ∨ 9 < q) → pkS δ j q = δ j q := fun j q w => m.2.1 j q (by omega)
  have r : ∀ j : Nat, 1 ≤ j → pkS δ j = δ j := fun j w => funext fun q => o j q (by omega)
  obtain ⟨jc, df⟩ := k
  refine ⟨fun f w1 w2 k v1 v2 => ?_, fun f w1 w2 k v1 v2 i u1 u2 => ?_⟩
  · rw [o 0 18 (by omega)] at w2
    rw [r 7 (by omega)] at v1 v2
    rw [r 4 (by omega)]
    exact (jc f w1 w2 k v1 v2).ro (fun j w _ => r j (by omega))
  · rw [o 0 18 (by omega)] at w2
    rw [r 7 (by omega)] at v1 v2
    rw [r 16 (by omega)] at u1 u2
    rw [r 4 (by omega), r 18 (by omega)]
    exact df f w1 w2 k v1 v2 i u1 u2
