/-! equality: sizes, and what lies around, for all nodes -/
def WtE (δ : St) (f : Int) : Prop := δ 34 f = min 100000 ((δ 7 (f + 1) - δ 7 f) + (peN δ f - psN δ f) + sumC δ (psN δ f) (peN δ f - psN δ f).toNat)
def ArN (δ : St) (f : Int) : Prop := ∀ k, δ 7 f ≤ k → k < δ 7 (f + 1) → ArE δ δ (δ 4 f) k
theorem ArE.own {γ0 δ δ' : St} {v0 k : Int} (h : ArE γ0 δ v0 k) (r : ∀ j i, j ≤ 28 → δ' j i = γ0 j i) (e29 : δ' 29 = δ 29) (e30 : δ' 30 = δ 30) : ArE δ' δ' v0 k := by
  have e : ∀ j : Nat, j ≤ 28 → δ' j = γ0 j := fun j q => funext fun i => r j i q
  simp only [ArE, KdA, faV, paV, e 12 (by omega), e 16 (by omega), e 17 (by omega), e 18 (by omega), e 19 (by omega), e 20 (by omega), e 21 (by omega), e 22 (by omega), e 23 (by omega), e 24 (by omega), e29, e30] at h ⊢
  exact h
theorem L115_s {x : St → Option (Int × St)} : ∀ (n : Nat) (γ : St) (k : Int), f_M_read_L115 x n γ k = bndN (f_M_read_L115 (fun γ => some (0, γ)) n γ k) (fun _ γ' => x γ') := by
  intro n
  induction n with
  | zero => intro γ k; rfl
  | succ n ih =>
    intro γ k
    unfold f_M_read_L115
    simp only [bN_I, bN_N, bN_C, bN_s, ← ih]
/-- calls go to nodes before -/
theorem TpW.calls {γ0 : St} (t : TpW γ0) {g e : Int} (r1 : 0 ≤ g) (r2 : g < γ0 0 18) (r3 : psN γ0 g ≤ e) (r4 : e < peN γ0 g) (r5 : γ0 20 e = 3) : 0 ≤ γ0 21 e ∧ γ0 21 e < g := by
  obtain ⟨⟨l0', l', x', _⟩, _⟩ := t.nx r1 r2
  have ⟨y1, y2, y3, y4, y5, y6, y7, y8, y9, y10, y11, y12, y13, y14, y15⟩ := x'.1
  obtain ⟨i, i1, i2, i3, i4⟩ := y4.loc y11 (e := e) (by omega) ((γ0 7 (g + 1) - γ0 7 g).toNat) (γ0 7 g) (Int.le_refl _) y3.2 (by omega) (by omega)
  obtain ⟨ks, _, _, _, _, c5, _⟩ := (y4.1 i i1 i2).1.2.2.2.2.1 e i3 i4
  exact c5.2.2.1 r5
theorem a2_L115 {c : Int} {γ0 : St} (hs : RsI c γ0) : ∀ (n : Nat) (γ : St) (k : Int), F34 γ0 γ → 0 ≤ k → k ≤ γ0 0 18 → (∀ f, 0 ≤ f → f < k → (0 ≤ γ 34 f ∧ γ 34 f ≤ 100000) ∧ WtE γ f ∧ ArN γ f) → pc (f_M_read_L115 (fun γ => some (0, γ)) n γ k) (fun z => F34 γ0 z.2 ∧ ∀ f, 0 ≤ f → f < γ0 0 18 → WtE z.2 f ∧ ArN z.2 f) := by
  have ⟨m, m49, t, z, n1⟩ := hs
  have t59 := t.1.2.1
  intro n
  induction n with
  | zero => intro γ k f q1 q2 q3; exact pc_n
  | succ n ih =>
    intro γ k f q1 q2 q3
    unfold f_M_read_L115
    rw [f 0 18 (by omega)]
    refine pc_i (fun q => pc_s ⟨f, fun g r1 r2 => (q3 g r1 (by omega)).2⟩) (fun q => ?_)
    obtain ⟨⟨l0, l, x0, b1, b2, b3, b4⟩, _⟩ := t.nx q1 (by omega)
    have x := f.nx x0
    have e4 := f 4 k (by omega)
    have wa := (w_around x e4 ⟨q1, by omega⟩ b1 b2 b3 b4 (f 7 k (by omega)) (f 7 (k + 1) (by omega))).pc
    have aa := a2_around x e4 (f 7 k (by omega)) (f 7 (k + 1) (by omega))
    refine pc_b (P := fun z => Fa (γ0 4 k) (γ0 4 (k + 1)) (psN γ0 k) (peN γ0 k) γ z.2 ∧ ∀ k', γ0 7 k ≤ k' → k' < γ0 7 (k + 1) → ArE γ z.2 (γ0 4 k) k') (fun y e => ⟨(wa y e).1, aa y e⟩) (fun r γ1 w => ?_)
    have fa : Fa (γ0 4 k) (γ0 4 (k + 1)) (psN γ0 k) (peN γ0 k) γ γ1 := w.1
    have ar : ∀ k', γ0 7 k ≤ k' → k' < γ0 7 (k + 1) → ArE γ γ1 (γ0 4 k) k' := w.2
    have f1 : F34 γ0 γ1 := fun j i r1 => by rw [fa j i (by omega) (by omega)]; exact f j i r1
    have x1 := f1.nx x0
    have e34 : ∀ g, γ1 34 g = γ 34 g := fun g => fa 34 g (by omega) (by omega)
    refine pc_b (c2_countParts x1 (fun g r1 r2 => by rw [e34]; exact (q3 g r1 r2).1) (f1 7 k (by omega)) (f1 7 (k + 1) (by omega))) (fun r γ2 w => ?_)
    generalize hv : min 100000 ((γ0 7 (k + 1) - γ0 7 k) + (peN γ0 k - psN γ0 k) + sumC γ1 (psN γ0 k) (peN γ0 k - psN γ0 k).toNat) = v at w
    have ev : γ2 = setA γ1 34 k v := by cases w; rfl
    have s0 : ∀ j i, (j = 34 → i ≠ k) → γ2 j i = γ1 j i := fun j i r1 => by rw [ev, stA, if_neg (by omega)]
    have sk : γ2 34 k = v := by rw [ev, stA, if_pos ⟨rfl, rfl⟩]
    have f2 : F34 γ0 γ2 := fun j i r1 => by rw [s0 j i (by omega)]; exact f1 j i r1
    have sum0 : 0 ≤ sumC γ1 (psN γ0 k) (peN γ0 k - psN γ0 k).toNat := sumC_nn _ _ (fun e r1 r2 r3 => by
      rw [f1 20 e (by omega)] at r3
      have := t.calls q1 (by omega) r1 (by omega) r3
      rw [f1 21 e (by omega), e34]
      exact (q3 _ this.1 this.2).1.1)
    have y3 := x0.1.2.2.1
    have y15 := x0.1.2.2.2.2.2.2.2.2.2.2.2.2.2.2
    refine pc_c (fun _ => ih γ2 (k + 1) f2 (by omega) (by omega) (fun g r1 r2 => ?_))
    by_cases q5 : g = k
    · subst q5
      refine ⟨by rw [sk, ← hv]; omega, ?_, fun k' r3 r4 => ?_⟩
      · unfold WtE
        rw [f2.ps, f2.pe, f2 7 _ (by omega), f2 7 _ (by omega), sk, ← hv, sumC_agree (γ' := γ2) (γ := γ1) (fun e r5 r6 => ⟨s0 20 e (by omega), s0 21 e (by omega), fun r7 => s0 34 _ (fun _ r8 => by
          rw [f1 20 e (by omega)] at r7
          have := t.calls q1 (by omega) r5 (by omega) r7
          rw [f1 21 e (by omega)] at r8
          omega)⟩)]
      · rw [f2 7 _ (by omega)] at r3 r4
        rw [f2 4 _ (by omega)]
        exact (ar k' r3 r4).own (fun j i r5 => by rw [f2 j i (by omega), f j i (by omega)]) (funext fun i => s0 29 i (by omega)) (funext fun i => s0 30 i (by omega))
    · have lt : g < k := by omega
      obtain ⟨u1, u2, u3⟩ := q3 g r1 lt
      have mo := t.mono (k - g - 1).toNat g k r1 (by omega) (by omega)
      have e34g : γ2 34 g = γ 34 g := by rw [s0 34 g (by omega)]; exact e34 g
      refine ⟨by rw [e34g]; exact u1, ?_, fun k' r3 r4 => ?_⟩
      · unfold WtE at u2 ⊢
        rw [f2.ps, f2.pe, f2 7 _ (by omega), f2 7 _ (by omega), e34g]
        rw [f.ps, f.pe, f 7 _ (by omega), f 7 _ (by omega)] at u2
        rw [u2, sumC_agree (γ' := γ2) (γ := γ) (fun e r5 r6 => ⟨by rw [f2 20 e (by omega), f 20 e (by omega)], by rw [f2 21 e (by omega), f 21 e (by omega)], fun r7 => by
          rw [f 20 e (by omega)] at r7
          have := t.calls r1 (by omega) r5 (by omega) r7
          rw [f 21 e (by omega), s0 34 _ (by omega)]
          exact e34 _⟩)]
      · obtain ⟨⟨l0', l', x', c1, c2, c3, c4⟩, _⟩ := t.nx r1 (show g < γ0 0 18 by omega)
        have y4 := x'.1.2.2.2.1
        rw [f2 7 _ (by omega)] at r3 r4
        rw [f2 4 _ (by omega)]
        have a0 := u3 k' (by rw [f 7 _ (by omega)]; exact r3) (by rw [f 7 _ (by omega)]; exact r4)
        rw [f 4 _ (by omega)] at a0
        have er := ((f.nx x').1.2.2.2.1).1 k' r3 r4
        have lt2 := er.2.2
        have a1 := a0.fr (γ' := γ2) er.1 (fun y y1 y2 => ⟨by rw [s0 29 y (by omega), fa 29 y (by omega) (by omega)], by rw [s0 30 y (by omega), fa 30 y (by omega) (by omega)]⟩)
        exact a1.own (fun j i r5 => by rw [f2 j i (by omega), f j i (by omega)]) rfl rfl
/-- the class's parts of a node are the reference's, up to its cap -/
theorem sz_eq {γ δ0 δ : St} (t : TpW δ0) (sz : SzR γ δ0) (f : F34 δ0 δ) (h : ∀ g, 0 ≤ g → g < δ0 0 18 → WtE δ g) : ∀ (n : Nat) (g : Int), 0 ≤ g → g < δ0 0 18 → g < n → δ 34 g = min 100000 (γ 31 g) ∧ 0 ≤ γ 31 g := by
  intro n
  induction n with
  | zero => intro g h1 h2 h3; exfalso; omega
  | succ n ih =>
    intro g h1 h2 h3
    obtain ⟨⟨l0, l, x, _⟩, _⟩ := t.nx h1 h2
    have y3 := x.1.2.2.1
    have y15 := x.1.2.2.2.2.2.2.2.2.2.2.2.2.2.2
    have s := (sz g h1 h2).1
    have e0 : nP0 δ0 g = psN δ0 g := rfl
    have e1 : nP1 δ0 g = peN δ0 g := rfl
    rw [e0, e1] at s
    rw [← rfo_agree (w' := γ 31) (δ' := δ) _ _ _ (fun k r1 r2 => ⟨f 20 k (by omega), f 21 k (by omega), fun _ => rfl⟩)] at s
    have r := rfo_sum (w := γ 31) (δ := δ) (peN δ0 g - psN δ0 g).toNat (psN δ0 g) (peN δ0 g - psN δ0 g + (δ0 7 (g + 1) - δ0 7 g)) (by omega) (fun k r1 r2 r3 => by
      rw [f 20 k (by omega)] at r3
      have c := t.calls h1 h2 r1 (by omega) r3
      rw [f 21 k (by omega)]
      have i := ih _ c.1 (by omega) (by omega)
      exact ⟨i.2, i.1⟩)
    rw [← s] at r
    refine ⟨?_, r.2⟩
    have w := h g h1 h2
    unfold WtE at w
    rw [f.ps, f.pe, f 7 _ (by omega), f 7 _ (by omega)] at w
    rw [r.1, w]
    congr 1
    omega
