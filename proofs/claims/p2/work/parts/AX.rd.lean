/-! the reference: read -/
theorem wp_bndH {o : Option Res} {h : St → Int → Int → Option (Int × St)} {k : Int → St → Option (Int × St)} {P : Res → Prop} {Q : Int × St → Prop} (w : wp o P) (kt : ∀ kd pl γ', P (.inl (kd, pl), γ') → wp (h γ' kd pl) Q) (kk : ∀ r γ', P (.inr r, γ') → wp (k r γ') Q) : wp (bndH o h k) Q := by
  match o, w with
  | some (.inl (kd, pl), γ'), w => exact kt kd pl γ' w
  | some (.inr r, γ'), w => exact kk r γ' w
def RdO (c : Int) (z : Int × St) : Prop := MoI (c + 1) z.2 ∧ z.2 0 1 = 0
theorem RdO.mk {c r : Int} {γ : St} (a : MoI (c + 1) γ) (b : γ 0 1 = 0) : RdO c (r, γ) := ⟨a, b⟩
theorem w_read_b292 {c : Int} {γ : St} (h : MoI c γ) (hc : c < 512) : wp (f_M_read_b292 γ) (RdO c) := by
  have ⟨h1, h2, h3, h4, h5, h6, h7, h8⟩ := h
  unfold f_M_read_b292
  refine wp_sub (wp_sub (wp_sub ?_))
  have g : ∀ j k, j ≠ 50 → j ≠ 52 → (j = 0 → k ≠ 1) → flA (flA (setA γ 0 1 0) 50 0 100 0) 52 0 6600 0 j k = γ j k := fun j k r1 r2 r3 => by
    show (if _ then _ else _) = _
    rw [if_neg (by omega)]
    show (if _ then _ else _) = _
    rw [if_neg (by omega), stA, if_neg (by omega)]
  have g1 : flA (flA (setA γ 0 1 0) 50 0 100 0) 52 0 6600 0 0 1 = 0 := by
    show (if _ then _ else _) = _
    rw [if_neg (by omega)]
    show (if _ then _ else _) = _
    rw [if_neg (by omega), stA, if_pos ⟨rfl, rfl⟩]
  generalize flA (flA (setA γ 0 1 0) 50 0 100 0) 52 0 6600 0 = γ2 at *
  have m : MoI (c + 1) γ2 := h.fr hc (by omega) (fun k => by rw [g 1 k (by omega) (by omega) (by omega)]; exact h3 k) (h5.fr (fun j k r => g j k (by omega) (by omega) (by omega))) (by rw [g 0 72 (by omega) (by omega) (by omega), g 0 82 (by omega) (by omega) (by omega)]; omega) (fun _ => g 0 83 (by omega) (by omega) (by omega)) (fun j k q4 q5 => g j k (by omega) (by omega) (by omega))
  exact wp_ite (fun _ => wp_some (RdO.mk m g1)) (fun _ => wp_some (RdO.mk m g1))
/-- all stays in order while there is no program -/
theorem MoI.rd {c : Int} {γ γ' : St} (h : MoI c γ) (h49 : γ 0 49 = -1) (f0 : ∀ k, k = 1 ∨ k = 49 ∨ k = 72 ∨ k = 82 ∨ k = 83 → γ' 0 k = γ 0 k) (e55 : 0 ≤ γ' 0 55 ∧ γ' 0 55 ≤ 30000) (f1 : ∀ k, γ' 1 k = γ 1 k) (b : Bo γ') (z : BoZ γ') : MoI c γ' ∧ γ' 0 49 = -1 := by
  have ⟨h1, h2, h3, h4, h5, h6, h7, h8⟩ := h
  have e49 := f0 49 (by omega)
  refine ⟨⟨h1, by rw [f0 1 (by omega)]; exact h2, fun k => by rw [f1]; exact h3 k, b, z, by rw [f0 72 (by omega), f0 82 (by omega)]; exact h6, e55, Or.inl ⟨by omega, ?_⟩⟩, by omega⟩
  rw [f0 83 (by omega)]
  rcases h8 with q | q
  · exact q.2
  · have := q.nd.2.1; exfalso; omega
theorem MoI.rf {c : Int} {γ γ' : St} (h : MoI c γ) (h49 : γ 0 49 = -1) (r : Rf γ γ') : MoI c γ' ∧ γ' 0 49 = -1 := h.rd h49 (fun k q => r.1 0 k (by omega) (by omega)) (by rw [r.1 0 55 (by omega) (by omega)]; exact h.2.2.2.2.2.2.1) (fun k => r.1 1 k (by omega) (by omega)) (r.2 h.2.2.2.1) (h.2.2.2.2.1.fr (fun j k q => r.1 j k (by omega) (by omega)))
theorem w_read_h {c kd pl : Int} {γ : St} (h : MoI c γ) (h49 : γ 0 49 = -1) (hc : c < 512) : wp (f_M_read_h γ kd pl) (RdO c) := by
  unfold f_M_read_h
  have g : ∀ j k, (j = 0 → k ≠ 3 ∧ k ≠ 4) → setA (setA γ 0 3 kd) 0 4 pl j k = γ j k := fun j k r => by rw [stA, if_neg (by omega), stA, if_neg (by omega)]
  exact w_read_b292 (h.rd h49 (fun k q => g 0 k (by omega)) (by rw [g 0 55 (by omega)]; exact h.2.2.2.2.2.2.1) (fun k => g 1 k (by omega)) (h.2.2.2.1.fr (fun k => g 14 k (by omega)) (fun k => g 28 k (by omega)) (fun k => g 25 k (by omega))) (h.2.2.2.2.1.fr (fun j k q => g j k (by omega)))).1 hc
theorem TpW.mv {γ γ' : St} (h : TpW γ) (m : Mv γ γ') : TpW γ' := by
  have ⟨⟨t1, t2, t3⟩, t4, t5, t6, t7, t8, t9, t10, t11⟩ := h
  have e := m.2.1
  have m5 := m.2.2
  have er : ∀ j : Nat, j ≠ 0 → ∀ k, γ' j k = γ j k := fun j q k => e j k (by omega)
  have fn : Fn γ γ' := fun j k q1 _ _ _ _ _ _ _ _ => e j k (by omega)
  unfold TpW
  rw [e 0 18 (by omega), e 0 19 (by omega), e 0 30 (by omega), e 0 31 (by omega), e 0 40 (by omega), er 16 (by omega), er 4 (by omega), er 7 (by omega)]
  exact ⟨⟨m.1, t2, fun v q1 q2 => by rw [er 2 (by omega), er 3 (by omega)]; exact t3 v q1 q2⟩, t4, by omega, by omega, by omega, t8, t9, m.re.2 t10, fun f q1 q2 => NdW.fn h fn q1 q2 (by rw [e 0 19 (by omega)]; omega) (by rw [e 0 30 (by omega)]; omega) (by rw [e 0 31 (by omega)]; omega) (by rw [e 0 40 (by omega)]; omega)⟩
/-- the counters of the instances stand at nothing -/
def Z0 (γ : St) : Prop := γ 0 50 = 0 ∧ γ 0 51 = 0 ∧ γ 0 52 = 0 ∧ γ 0 53 = 0 ∧ γ 0 54 = 0 ∧ γ 0 67 = 0
theorem Z0.fr {γ γ' : St} (h : Z0 γ) (f : ∀ k, 50 ≤ k → k ≤ 67 → k ≠ 55 → γ' 0 k = γ 0 k) : Z0 γ' := by
  unfold Z0
  rw [f 50 (by omega) (by omega) (by omega), f 51 (by omega) (by omega) (by omega), f 52 (by omega) (by omega) (by omega), f 53 (by omega) (by omega) (by omega), f 54 (by omega) (by omega) (by omega), f 67 (by omega) (by omega) (by omega)]
  exact h
/-- all nodes are read -/
def RsI (c : Int) (γ : St) : Prop := MoI c γ ∧ γ 0 49 = -1 ∧ TpW γ ∧ Z0 γ ∧ 1 ≤ γ 0 18
/-- what a read node is, with its numbers -/
theorem TpW.nx {γ : St} (t : TpW γ) {f : Int} (h0 : 0 ≤ f) (h1 : f < γ 0 18) : (∃ l0 l, NdX γ f (γ 4 f) (γ 4 (f + 1)) (γ 7 f) (γ 7 (f + 1)) l0 l (psN γ f) (peN γ f) ∧ γ 4 (f + 1) ≤ 6000 ∧ γ 7 (f + 1) ≤ 16000 ∧ l ≤ 65000 ∧ peN γ f ≤ 65000) ∧ (0 < f → peN γ (f - 1) ≤ psN γ f) := by
  obtain ⟨n1, n2, n5, l0, l, P0, P, n3, n4, x⟩ := t.2.2.2.2.2.2.2.2 f h0 h1
  have x9 := x.1.2.2.2.2.2.2.2.2.1
  have x11 := x.1.2.2.2.2.2.2.2.2.2.2.1
  have e0 : P0 = psN γ f := x9.symm
  have e1 : P = peN γ f := by unfold peN; omega
  rw [e0, e1] at x
  have ⟨⟨t1, t2, t3⟩, t4, t5, t6, t7, _⟩ := t
  have lx1 := t1.1
  have lx5 := t1.2.1
  refine ⟨⟨l0, l, x, by omega, by omega, by omega, by omega⟩, fun q => ?_⟩
  have := n5 q
  unfold peN psN
  rw [show f - 1 + 1 = f by omega]
  omega
theorem TpW.mono {γ : St} (t : TpW γ) : ∀ (n : Nat) (f g : Int), 0 ≤ f → g = f + 1 + n → g < γ 0 18 → γ 4 (f + 1) ≤ γ 4 g ∧ peN γ f ≤ psN γ g
  | 0, f, g, h0, e, h1 => by
    have k := (t.nx (f := g) (by omega) h1).2 (by omega)
    rw [show g = f + 1 by omega] at k ⊢
    rw [show f + 1 - 1 = f by omega] at k
    exact ⟨Int.le_refl _, k⟩
  | n + 1, f, g, h0, e, h1 => by
    have i := TpW.mono t n f (g - 1) h0 (by omega) (by omega)
    have k := (t.nx (f := g) (by omega) h1).2 (by omega)
    obtain ⟨⟨l0, l, x, _⟩, _⟩ := t.nx (f := g - 1) (by omega) (by omega)
    have x1 := x.1.1
    have x15 := x.1.2.2.2.2.2.2.2.2.2.2.2.2.2.2
    rw [show g - 1 + 1 = g by omega] at x1
    exact ⟨by omega, by omega⟩
/-- rows 29 to 34 are being filled -/
def F34 (γ0 γ : St) : Prop := ∀ j k, (j < 29 ∨ 34 < j) → γ j k = γ0 j k
theorem F34.nx {γ0 γ : St} (h : F34 γ0 γ) {f v0 v1 a b l0 l P0 P : Int} (x : NdX γ0 f v0 v1 a b l0 l P0 P) : NdX γ f v0 v1 a b l0 l P0 P := x.fr ⟨⟨fun k => h 1 k (by omega), fun k _ => ⟨h 15 k (by omega), h 17 k (by omega), h 19 k (by omega)⟩, fun k _ => h 16 k (by omega), fun k _ => h 18 k (by omega), fun j q1 q2 q3 k _ => h j k (by omega)⟩, fun g _ => ⟨h 5 g (by omega), h 6 g (by omega)⟩, ⟨h 8 _ (by omega), h 9 _ (by omega)⟩, fun v _ _ => h 12 v (by omega)⟩ (fun e _ => h 24 e (by omega))
theorem F34.ps {γ0 γ : St} (h : F34 γ0 γ) (f : Int) : psN γ f = psN γ0 f := by unfold psN; rw [h 7 _ (by omega), h 19 _ (by omega)]
theorem F34.pe {γ0 γ : St} (h : F34 γ0 γ) (f : Int) : peN γ f = peN γ0 f := by unfold peN; rw [h 7 _ (by omega), h 17 _ (by omega)]
theorem w_read_L115 {c : Int} {γ0 : St} (hs : RsI c γ0) {x139 : St → Option (Int × St)} {Q : Int × St → Prop} (hx : ∀ γ, F34 γ0 γ → SN γ (γ0 0 18) → wp (x139 γ) Q) : ∀ (n : Nat) (γ : St) (k : Int), F34 γ0 γ → (∀ f, 0 ≤ f → f < k → NdS0 γ f) → 0 ≤ k → k ≤ γ0 0 18 → γ0 0 18 - k < n → wp (f_M_read_L115 x139 n γ k) Q := by
  have ⟨m, m49, t, z, n1⟩ := hs
  have t59 := t.1.2.1
  intro n
  induction n with
  | zero => intro γ k f q1 q2 q3 q4; exfalso; omega
  | succ n ih =>
    intro γ k f q1 q2 q3 q4
    unfold f_M_read_L115
    rw [f 0 18 (by omega)]
    refine wp_ite (fun q => hx γ f (fun g r1 r2 => (q1 g r1 (by omega)).nd)) (fun q => ?_)
    obtain ⟨⟨l0, l, x0, b1, b2, b3, b4⟩, _⟩ := t.nx q2 (by omega)
    have x := f.nx x0
    have e4 := f 4 k (by omega)
    refine wp_bnd (w_around x e4 ⟨q2, by omega⟩ b1 b2 b3 b4 (f 7 k (by omega)) (f 7 (k + 1) (by omega))) (fun r γ1 w => ?_)
    have fa : Fa (γ0 4 k) (γ0 4 (k + 1)) (psN γ0 k) (peN γ0 k) γ γ1 := w.1
    have ak : AkX γ1 k (γ0 4 k) (γ0 4 (k + 1)) (γ0 7 k) (γ0 7 (k + 1)) (psN γ0 k) (peN γ0 k) := w.2
    have f1 : F34 γ0 γ1 := fun j i r1 => by rw [fa j i (by omega) (by omega)]; exact f j i r1
    have x1 := f1.nx x0
    have e34 : ∀ g, γ1 34 g = γ 34 g := fun g => fa 34 g (by omega) (by omega)
    refine wp_bnd (w_countParts x1 ⟨q2, by omega⟩ b2 b4 (fun g r1 r2 => by rw [e34]; exact (q1 g r1 r2).wt.1) (f1 7 k (by omega)) (f1 7 (k + 1) (by omega))) (fun r γ2 w => ?_)
    obtain ⟨v, ev, v1, v2⟩ := w
    have ev : γ2 = setA γ1 34 k v := by cases ev; rfl
    have s0 : ∀ j i, (j = 34 → i ≠ k) → γ2 j i = γ1 j i := fun j i r1 => by rw [ev, stA, if_neg (by omega)]
    have sk : γ2 34 k = v := by rw [ev, stA, if_pos ⟨rfl, rfl⟩]
    have f2 : F34 γ0 γ2 := fun j i r1 => by rw [s0 j i (by omega)]; exact f1 j i r1
    refine wp_chk (by omega) (ih γ2 (k + 1) f2 (fun g r1 r2 => ?_) (by omega) (by omega) (by omega))
    have calls : ∀ (γ' : St) (g e : Int), F34 γ0 γ' → 0 ≤ g → g < γ0 0 18 → psN γ0 g ≤ e → e < psN γ0 g + ((peN γ0 g - psN γ0 g).toNat : Int) → γ' 20 e = 3 → 0 ≤ γ' 21 e ∧ γ' 21 e < g := fun γ' g e f' r1 r2 r3 r4 r5 => by
      obtain ⟨⟨l0', l', x', _⟩, _⟩ := t.nx r1 r2
      have ⟨y1, y2, y3, y4, y5, y6, y7, y8, y9, y10, y11, y12, y13, y14, y15⟩ := x'.1
      obtain ⟨i, i1, i2, i3, i4⟩ := y4.loc y11 (e := e) (by omega) ((γ0 7 (g + 1) - γ0 7 g).toNat) (γ0 7 g) (Int.le_refl _) y3.2 (by omega) (by omega)
      obtain ⟨ks, _, _, _, _, c5, _⟩ := (y4.1 i i1 i2).1.2.2.2.2.1 e i3 i4
      rw [f' 20 e (by omega)] at r5
      rw [f' 21 e (by omega)]
      exact c5.2.2.1 r5
    by_cases q5 : g = k
    · subst q5
      unfold NdS0
      rw [f2.ps, f2.pe, f2 4 _ (by omega), f2 4 _ (by omega), f2 7 _ (by omega), f2 7 _ (by omega)]
      refine ⟨l0, l, f2.nx x0, ⟨fun e r3 r4 => ?_, fun u r3 r4 => ?_⟩, ⟨by rw [sk]; exact v1, fun r3 => ?_⟩, b1, b2, b3, b4⟩
      · rw [s0 29 e (by omega), s0 31 e (by omega), s0 26 e (by omega)]; exact ak.1 e r3 r4
      · rw [s0 5 _ (by omega)] at r3
        exact (ak.2 u r3 r4).fr (fun i => s0 16 i (by omega)) (fun i => s0 18 i (by omega)) (s0 32 _ (by omega)) (s0 33 _ (by omega))
      · rw [sk] at r3 ⊢
        rw [sumC_agree (γ := γ1) (fun e r5 r6 => ⟨s0 20 e (by omega), s0 21 e (by omega), fun r7 => s0 34 _ (fun _ r8 => by have := calls γ1 g e f1 r1 (by omega) r5 r6 r7; omega)⟩)]
        exact v2 r3
    · have lt : g < k := by omega
      obtain ⟨l0', l', y, ya, yw, c1, c2, c3, c4⟩ := q1 g r1 lt
      rw [f.ps, f.pe, f 4 _ (by omega), f 4 _ (by omega), f 7 _ (by omega), f 7 _ (by omega)] at y ya
      rw [f.ps, f.pe, f 7 _ (by omega), f 7 _ (by omega)] at yw
      rw [f.pe] at c4
      rw [f 4 _ (by omega)] at c1
      rw [f 7 _ (by omega)] at c2
      have mo := t.mono (k - g - 1).toNat g k r1 (by omega) (by omega)
      have y0 := (t.nx (f := g) r1 (by omega)).1
      obtain ⟨_, _, y0, _⟩ := y0
      have z1 := y0.1.1
      unfold NdS0
      rw [f2.ps, f2.pe, f2 4 _ (by omega), f2 4 _ (by omega), f2 7 _ (by omega), f2 7 _ (by omega)]
      have s1 : ∀ j i, (29 ≤ j → j ≤ 31 → i < psN γ0 k) → (j = 32 ∨ j = 33 → i < γ0 4 k) → (j = 34 → i ≠ k) → γ2 j i = γ j i := fun j i r3 r4 r5 => by rw [s0 j i r5]; exact fa j i (by omega) (by omega)
      refine ⟨l0', l', y.fr ⟨⟨fun i => s1 1 i (by omega) (by omega) (by omega), fun i _ => ⟨s1 15 i (by omega) (by omega) (by omega), s1 17 i (by omega) (by omega) (by omega), s1 19 i (by omega) (by omega) (by omega)⟩, fun i _ => s1 16 i (by omega) (by omega) (by omega), fun i _ => s1 18 i (by omega) (by omega) (by omega), fun j q1 q2 q3 i _ => s1 j i (by omega) (by omega) (by omega)⟩, fun i _ => ⟨s1 5 i (by omega) (by omega) (by omega), s1 6 i (by omega) (by omega) (by omega)⟩, ⟨s1 8 _ (by omega) (by omega) (by omega), s1 9 _ (by omega) (by omega) (by omega)⟩, fun u _ _ => s1 12 u (by omega) (by omega) (by omega)⟩ (fun e _ => s1 24 e (by omega) (by omega) (by omega)), ⟨fun e r3 r4 => ?_, fun u r3 r4 => ?_⟩, ?_, c1, c2, c3, c4⟩
      · rw [s1 29 e (by omega) (by omega) (by omega), s1 31 e (by omega) (by omega) (by omega), s1 26 e (by omega) (by omega) (by omega)]; exact ya.1 e r3 r4
      · rw [s1 5 _ (by omega) (by omega) (by omega)] at r3
        exact (ya.2 u r3 r4).fr (fun i => s1 16 i (by omega) (by omega) (by omega)) (fun i => s1 18 i (by omega) (by omega) (by omega)) (s1 32 _ (by omega) (by omega) (by omega)) (s1 33 _ (by omega) (by omega) (by omega))
      · unfold Wt
        rw [s1 34 g (by omega) (by omega) (by omega), sumC_agree (γ := γ) (fun e r5 r6 => ⟨s1 20 e (by omega) (by omega) (by omega), s1 21 e (by omega) (by omega) (by omega), fun r7 => s1 34 _ (by omega) (by omega) (fun _ r8 => by have := calls γ g e f r1 (by omega) r5 r6 r7; omega)⟩)]
        exact yw
