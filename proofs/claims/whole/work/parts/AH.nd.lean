/-! the reference's nodes: what a finished one is -/
theorem Ch.uniq {b : Int → Int} : ∀ {ks ms : List Int} {x : Int}, Ch b x ks → Ch b x ms → ks = ms
  | [], [], _, _, _ => rfl
  | [], y :: t, x, h, g => by have e : x = -1 := h; have := g.1; have := g.2.1; omega
  | y :: t, [], x, h, g => by have e : x = -1 := g; have := h.1; have := h.2.1; omega
  | y :: t, z :: s, x, h, g => by
    have e : y = z := h.1.symm.trans g.1
    subst e
    rw [Ch.uniq h.2.2 g.2.2]
/-- a parsed node f: variables from v0 to v1, equations from a to b, left sides from l0 to l, parts from P0 to P -/
def NdP (γ : St) (f v0 v1 a b l0 l P0 P : Int) : Prop := (0 ≤ v0 ∧ 1 ≤ γ 5 f ∧ 1 ≤ γ 6 f ∧ v0 + γ 5 f + γ 6 f ≤ v1 ∧ v1 ≤ v0 + 99) ∧ (∀ v, v0 ≤ v → v < v1 → ClO γ v0 v ∧ (v < v0 + γ 5 f + γ 6 f → γ 12 v = -1)) ∧ (0 ≤ a ∧ a < b) ∧ EqL (v1 - v0) f (γ 5 f) a b l P γ ∧ (0 ≤ γ 9 f ∧ γ 9 f + 2 * P0 ≤ 2 * P) ∧ (0 ≤ γ 8 f ∧ γ 8 f + P0 ≤ P) ∧ Odr γ stw P0 P 0 (γ 9 f) ∧ Odr γ clw P0 P 0 (γ 8 f) ∧ γ 19 a = P0 ∧ γ 16 a = l0 ∧ γ 17 (b - 1) = P - 1 ∧ 0 ≤ P0 ∧ 0 ≤ l0 ∧ l0 ≤ l ∧ P0 ≤ P
/-- a node that is judged -/
def NdX (γ : St) (f v0 v1 a b l0 l P0 P : Int) : Prop := NdP γ f v0 v1 a b l0 l P0 P ∧ (∀ v, v0 + γ 5 f ≤ v → v < v1 → cntN (γ 18) l0 (v - v0) (l - l0).toNat = 1) ∧ (∀ e, P0 ≤ e → e < P → CkV (v1 - v0) (γ 24 e)) ∧ ∀ k, a ≤ k → k < b → ∀ e, γ 19 k ≤ e → e ≤ γ 17 k → LoC e (if e = γ 17 k then γ 16 (k + 1) - γ 16 k else 1) γ
/-- what a node needs of the state -/
def FnX (f v0 v1 b l P : Int) (γ γ' : St) : Prop := FqE b l P γ γ' ∧ (∀ g, g ≤ f → γ' 5 g = γ 5 g ∧ γ' 6 g = γ 6 g) ∧ (γ' 8 f = γ 8 f ∧ γ' 9 f = γ 9 f) ∧ ∀ v, v0 ≤ v → v < v1 → γ' 12 v = γ 12 v
theorem NdP.fr {f v0 v1 a b l0 l P0 P : Int} {γ γ' : St} (h : NdP γ f v0 v1 a b l0 l P0 P) (x : FnX f v0 v1 b l P γ γ') : NdP γ' f v0 v1 a b l0 l P0 P := by
  have ⟨h1, h2, h3, h4, h5, h6, h7, h8, h9, h10, h11, h12, h13, h14, h15⟩ := h
  have ⟨⟨f1, f2, f3, f4, f5⟩, g5, g8, g12⟩ := x
  have g := g5 f (Int.le_refl _)
  unfold NdP
  rw [g.1, g.2, g8.1, g8.2, (f2 a (by omega)).2.2, f3 a (by omega), (f2 (b - 1) (by omega)).2.1]
  refine ⟨h1, fun v q1 q2 => ?_, h3, h4.fr x.1, h5, h6, h7.fr (fun k _ q => f5 20 (by omega) (by omega) (by omega) k q) (fun k _ q => f5 25 (by omega) (by omega) (by omega) k q), h8.fr (fun k _ q => f5 20 (by omega) (by omega) (by omega) k q) (fun k _ q => f5 25 (by omega) (by omega) (by omega) k q), h9, h10, h11, h12, h13, h14, h15⟩
  unfold ClO
  rw [g12 v q1 q2]
  exact h2 v q1 q2
theorem NdX.fr {f v0 v1 a b l0 l P0 P : Int} {γ γ' : St} (h : NdX γ f v0 v1 a b l0 l P0 P) (x : FnX f v0 v1 b l P γ γ') (x24 : ∀ e, e < P → γ' 24 e = γ 24 e) : NdX γ' f v0 v1 a b l0 l P0 P := by
  have ⟨hp, hc, hk, hl⟩ := h
  have ⟨h1, h2, h3, h4, h5, h6, h7, h8, h9, h10, h11, h12, h13, h14, h15⟩ := hp
  have ⟨⟨f1, f2, f3, f4, f5⟩, g5, g8, g12⟩ := x
  refine ⟨hp.fr x, fun v q1 q2 => ?_, fun e q1 q2 => by rw [x24 e q2]; exact hk e q1 q2, fun k q1 q2 e q3 q4 => ?_⟩
  · rw [(g5 f (Int.le_refl _)).1] at q1
    rw [cntN_agree (f := γ 18) (fun i r1 r2 => f4 i (by omega))]
    exact hc v q1 q2
  · have fk := f2 k q2
    rw [fk.2.2] at q3
    rw [fk.2.1] at q4
    rw [fk.2.1, f3 k (by omega), f3 (k + 1) (by omega)]
    have t := h4.1 k q1 q2
    have te : e < P := by have := t.2.2; omega
    obtain ⟨ks, c1, c2, c3, c4, c5, _⟩ := t.1.2.2.2.2.1 e q3 q4
    intro q
    rw [f5 20 (by omega) (by omega) (by omega) e te] at q
    obtain ⟨ms, d1, d2, d3⟩ := hl k q1 q2 e q3 q4 q
    have eq := Ch.uniq c1 d1
    subst eq
    have w := c5.2.2.1 q
    have gg := g5 (γ 21 e) (by omega)
    refine ⟨ks, ?_, ?_, ?_⟩
    · rw [f5 22 (by omega) (by omega) (by omega) e te]
      exact c1.agree (fun y hy => f5 23 (by omega) (by omega) (by omega) y (by have := c2.mem y hy; omega))
    · rw [f5 21 (by omega) (by omega) (by omega) e te, gg.1]; exact d2
    · rw [f5 21 (by omega) (by omega) (by omega) e te, gg.2]; exact d3
/-- a finished node -/
def NdW (γ : St) (f : Int) : Prop := γ 4 (f + 1) ≤ γ 0 19 ∧ γ 7 (f + 1) ≤ γ 0 30 ∧ (0 < f → γ 17 (γ 7 f - 1) < γ 19 (γ 7 f)) ∧ ∃ l0 l P0 P, l ≤ γ 0 31 ∧ P ≤ γ 0 40 ∧ NdX γ f (γ 4 f) (γ 4 (f + 1)) (γ 7 f) (γ 7 (f + 1)) l0 l P0 P
/-- between the nodes -/
def TpW (γ : St) : Prop := (LX γ ∧ (0 ≤ γ 0 18 ∧ γ 0 18 ≤ 59) ∧ WdO γ 2 3 0 (γ 0 18)) ∧ (0 ≤ γ 0 19 ∧ γ 0 19 ≤ 99 * γ 0 18) ∧ (0 ≤ γ 0 30 ∧ γ 0 30 ≤ γ 0 5) ∧ (0 ≤ γ 0 31 ∧ γ 0 31 ≤ γ 0 5) ∧ (0 ≤ γ 0 40 ∧ γ 0 40 ≤ γ 0 5) ∧ γ 16 (γ 0 30) = γ 0 31 ∧ (0 < γ 0 18 → γ 4 (γ 0 18) = γ 0 19 ∧ γ 7 (γ 0 18) = γ 0 30) ∧ Bo γ ∧ ∀ f, 0 ≤ f → f < γ 0 18 → NdW γ f
/-- what a node leaves as it was -/
def Fn (γ0 γ : St) : Prop := ∀ j k, (j = 0 → (k < 5 ∨ 9 < k) ∧ k ≠ 18 ∧ k ≠ 19 ∧ k ≠ 30 ∧ k ≠ 31 ∧ k ≠ 40 ∧ k ≠ 42) → j ≠ 13 ∧ j ≠ 28 → (j = 2 ∨ j = 3 ∨ j = 5 ∨ j = 6 ∨ j = 8 ∨ j = 9 → k < γ0 0 18) → (j = 4 ∨ j = 7 → 0 < γ0 0 18 ∧ k ≤ γ0 0 18) → (10 ≤ j → j ≤ 14 → k < γ0 0 19) → (j = 15 ∨ j = 17 ∨ j = 19 → k < γ0 0 30) → (j = 16 → k ≤ γ0 0 30) → (j = 18 → k < γ0 0 31) → (20 ≤ j → j ≤ 27 → k < γ0 0 40) → γ j k = γ0 j k
theorem Fn.fq {γ0 γ : St} (h : Fn γ0 γ) : FqE (γ0 0 30) (γ0 0 31) (γ0 0 40) γ0 γ := ⟨fun k => h 1 k (by omega) (by omega) (by omega) (by omega) (by omega) (by omega) (by omega) (by omega) (by omega), fun k q => ⟨h 15 k (by omega) (by omega) (by omega) (by omega) (by omega) (by omega) (by omega) (by omega) (by omega), h 17 k (by omega) (by omega) (by omega) (by omega) (by omega) (by omega) (by omega) (by omega) (by omega), h 19 k (by omega) (by omega) (by omega) (by omega) (by omega) (by omega) (by omega) (by omega) (by omega)⟩, fun k q => h 16 k (by omega) (by omega) (by omega) (by omega) (by omega) (by omega) (by omega) (by omega) (by omega), fun k q => h 18 k (by omega) (by omega) (by omega) (by omega) (by omega) (by omega) (by omega) (by omega) (by omega), fun j q1 q2 q3 k q => h j k (by omega) (by omega) (by omega) (by omega) (by omega) (by omega) (by omega) (by omega) (by omega)⟩
theorem FqE.le {b l P b' l' P' : Int} {γ γ' : St} (h : FqE b l P γ γ') (hb : b' ≤ b) (hl : l' ≤ l) (hP : P' ≤ P) : FqE b' l' P' γ γ' := ⟨h.1, fun k q => h.2.1 k (by omega), fun k q => h.2.2.1 k (by omega), fun k q => h.2.2.2.1 k (by omega), fun j q1 q2 q3 k q => h.2.2.2.2 j q1 q2 q3 k (by omega)⟩
/-- the finished nodes stay -/
theorem NdW.fn {γ0 γ : St} {f : Int} (t : TpW γ0) (h : Fn γ0 γ) (h0 : 0 ≤ f) (hf : f < γ0 0 18) (e19 : γ0 0 19 ≤ γ 0 19) (e30 : γ0 0 30 ≤ γ 0 30) (e31 : γ0 0 31 ≤ γ 0 31) (e40 : γ0 0 40 ≤ γ 0 40) : NdW γ f := by
  obtain ⟨n1, n2, n5, l0, l, P0, P, n3, n4, x⟩ := t.2.2.2.2.2.2.2.2 f h0 hf
  have x3 := x.1.2.2.1
  have g4 : ∀ k, k ≤ γ0 0 18 → γ 4 k = γ0 4 k := fun k q => h 4 k (by omega) (by omega) (by omega) (by omega) (by omega) (by omega) (by omega) (by omega) (by omega)
  have g7 : ∀ k, k ≤ γ0 0 18 → γ 7 k = γ0 7 k := fun k q => h 7 k (by omega) (by omega) (by omega) (by omega) (by omega) (by omega) (by omega) (by omega) (by omega)
  unfold NdW
  rw [g4 f (by omega), g4 (f + 1) (by omega), g7 f (by omega), g7 (f + 1) (by omega)]
  refine ⟨by omega, by omega, fun q => by rw [h 17 _ (by omega) (by omega) (by omega) (by omega) (by omega) (by omega) (by omega) (by omega) (by omega), h 19 _ (by omega) (by omega) (by omega) (by omega) (by omega) (by omega) (by omega) (by omega) (by omega)]; exact n5 q, l0, l, P0, P, by omega, by omega, x.fr ⟨h.fq.le n2 n3 n4, fun g q => ⟨h 5 g (by omega) (by omega) (by omega) (by omega) (by omega) (by omega) (by omega) (by omega) (by omega), h 6 g (by omega) (by omega) (by omega) (by omega) (by omega) (by omega) (by omega) (by omega) (by omega)⟩, ⟨h 8 f (by omega) (by omega) (by omega) (by omega) (by omega) (by omega) (by omega) (by omega) (by omega), h 9 f (by omega) (by omega) (by omega) (by omega) (by omega) (by omega) (by omega) (by omega) (by omega)⟩, fun v q1 q2 => h 12 v (by omega) (by omega) (by omega) (by omega) (by omega) (by omega) (by omega) (by omega) (by omega)⟩ (fun e q => h 24 e (by omega) (by omega) (by omega) (by omega) (by omega) (by omega) (by omega) (by omega) (by omega))⟩
/-- in a node's declarations -/
def Fdc (γ0 γ : St) : Prop := ∀ j k, (j = 0 → (k < 5 ∨ 9 < k) ∧ k ≠ 19) → (2 ≤ j → j ≤ 6 → k ≠ γ0 0 18) → (10 ≤ j → j ≤ 14 → k < γ0 0 19) → γ j k = γ0 j k
theorem Fdc.re {γ0 γ : St} (h : Fdc γ0 γ) (b : B14 γ) : Rf γ0 γ := ⟨fun j k q1 q2 => h j k (by omega) (by omega) (by omega), fun c => ⟨b, fun v => by rw [h 28 v (by omega) (by omega) (by omega)]; exact c.2.1 v, c.2.2.fr (fun k => h 25 k (by omega) (by omega) (by omega))⟩⟩
def NdD (γ0 γ : St) : Prop := DcI γ ∧ Fdc γ0 γ ∧ γ0 0 5 ≤ γ 0 5 ∧ (γ 4 (γ0 0 18) = γ0 0 19 ∧ γ0 0 19 ≤ γ 0 19) ∧ (∀ v, γ0 0 19 ≤ v → v < γ 0 19 → γ 13 v = 0) ∧ WdO γ 2 3 0 (γ0 0 18 + 1)
theorem NdD.lx {γ0 γ : St} (h : NdD γ0 γ) : LX γ := h.1.1
theorem NdD.re {γ0 γ : St} (h : NdD γ0 γ) : Rf γ0 γ := h.2.1.re h.1.2.2.2.2.2.2
theorem NdD.gi {γ0 γ γ' : St} (h : NdD γ0 γ) (g : GI γ γ') : NdD γ0 γ' := by
  have ⟨h1, h2, h3, h4, h5, h6⟩ := h
  have ⟨g1, g2, g3, g4, g5⟩ := g
  refine ⟨g1, fun j k q1 q2 q3 => (g2 j k q1 (by omega)).trans (h2 j k q1 q2 q3), by omega, ⟨by rw [g2 4 _ (by omega) (by omega)]; exact h4.1, by omega⟩, fun v q1 q2 => ?_, fun v q1 q2 => by rw [g2 2 v (by omega) (by omega), g2 3 v (by omega) (by omega)]; exact h6 v q1 q2⟩
  by_cases q : v < γ 0 19
  · rw [g2 13 v (by omega) (by omega)]; exact h5 v q1 q
  · exact g5 v (by omega) q2
theorem NdD.mv {γ0 γ γ' : St} (h : NdD γ0 γ) (m : Mv γ γ') : NdD γ0 γ' := h.gi ((GI.rf h.1).mv m)
theorem NdD.rg {γ0 γ γ' : St} (h : NdD γ0 γ) (f : Fg (γ 0 19) γ γ') (b : B14 γ') : Rf γ0 γ' := h.re.tr (f.re b)
/-- a number of the node at hand is set -/
theorem NdD.set {γ0 γ γ' : St} {A : Nat} {w : Int} (h : NdD γ0 γ) (hA : A = 5 ∨ A = 6) (e : γ' = setA γ A (γ0 0 18) w) : NdD γ0 γ' := by
  have ⟨h1, h2, h3, h4, h5, h6⟩ := h
  have s0 : ∀ j k, j ≠ A → γ' j k = γ j k := fun j k q => by rw [e, stA, if_neg (by omega)]
  have e19 := s0 0 19 (by omega)
  refine ⟨h1.fr (fun k _ => s0 0 k (by omega)) (fun j q k => s0 j k (by omega)), fun j k q1 q2 q3 => ?_, by rw [s0 0 5 (by omega)]; exact h3, ⟨by rw [s0 4 _ (by omega)]; exact h4.1, by omega⟩, fun v q1 q2 => by rw [s0 13 v (by omega)]; exact h5 v q1 (by omega), fun v q1 q2 => by rw [s0 2 v (by omega), s0 3 v (by omega)]; exact h6 v q1 q2⟩
  have s1 : γ' j k = γ j k := by rw [e, stA, if_neg (by omega)]
  rw [s1]
  exact h2 j k q1 q2 q3
/-- the inputs and the outputs of the node at hand -/
def F56 (γ0 γ : St) : Prop := (1 ≤ γ 5 (γ0 0 18) ∧ 1 ≤ γ 6 (γ0 0 18) ∧ γ0 0 19 + γ 5 (γ0 0 18) + γ 6 (γ0 0 18) ≤ γ 0 19) ∧ ∀ v, γ0 0 19 ≤ v → v < γ0 0 19 + γ 5 (γ0 0 18) + γ 6 (γ0 0 18) → γ 12 v = -1
theorem F56.fr {γ0 γ γ' : St} (h : F56 γ0 γ) (e5 : γ' 5 (γ0 0 18) = γ 5 (γ0 0 18)) (e6 : γ' 6 (γ0 0 18) = γ 6 (γ0 0 18)) (e19 : γ 0 19 ≤ γ' 0 19) (e12 : ∀ v, γ0 0 19 ≤ v → v < γ 0 19 → γ' 12 v = γ 12 v) : F56 γ0 γ' := by
  have ⟨⟨a, b, c⟩, d⟩ := h
  unfold F56
  rw [e5, e6]
  exact ⟨by omega, fun v q1 q2 => by rw [e12 v q1 (by omega)]; exact d v q1 q2⟩
/-- in a node's equations -/
def NdE (γ0 γ : St) : Prop := EqW (γ0 0 31) (γ0 0 40) γ ∧ Fn γ0 γ ∧ (γ 0 18 = γ0 0 18 ∧ γ 4 (γ0 0 18) = γ0 0 19 ∧ γ 4 (γ0 0 18 + 1) = γ 0 19 ∧ γ0 0 19 ≤ γ 0 19) ∧ F56 γ0 γ ∧ WdO γ 2 3 0 (γ0 0 18 + 1) ∧ Rf γ0 γ ∧ γ 7 (γ0 0 18) = γ0 0 30 ∧ γ0 0 5 < γ 0 5
theorem NdE.step {γ0 γ γ' : St} {r : Int} (h : NdE γ0 γ) (o : EqO (γ0 0 31) (γ0 0 40) γ (.inr r, γ')) : NdE γ0 γ' ∧ γ0 0 30 < γ' 0 30 ∧ γ 0 5 < γ' 0 5 := by
  have ⟨h1, h2, ⟨a1, a2, a3, a4⟩, h4, h5, h6, h7, h8⟩ := h
  have ⟨o1, o2⟩ := o
  have ⟨p1, p2, p3, p4, p5, p6⟩ := o2 r rfl
  have b := h1.2.1
  have c := h1.2.2.1
  have d := h1.2.2.2.1
  rw [a1, h7] at b
  have p2 : Fe (γ 0 18) (γ 0 30) (γ 0 31) (γ 0 40) γ γ' := p2
  have p3 : γ' 0 30 = γ 0 30 + 1 := p3
  have p4 : γ 0 5 < γ' 0 5 := p4
  have p5 : γ 0 31 ≤ γ' 0 31 := p5
  have p6 : γ 0 40 ≤ γ' 0 40 := p6
  rw [a1] at p2
  have e18 : γ' 0 18 = γ 0 18 := p2 0 18 (by omega) (by omega) (by omega) (by omega) (by omega) (by omega) (by omega)
  have e19 : γ' 0 19 = γ 0 19 := p2 0 19 (by omega) (by omega) (by omega) (by omega) (by omega) (by omega) (by omega)
  have e : ∀ j : Nat, 2 ≤ j → j ≤ 7 → ∀ k, γ' j k = γ j k := fun j q1 q2 k => p2 j k (by omega) (by omega) (by omega) (by omega) (by omega) (by omega) (by omega)
  refine ⟨⟨p1, fun j k q1 q2 q3 q4 q5 q6 q7 q8 q9 => (p2 j k (by omega) (by omega) (by omega) (by omega) (by omega) (by omega) (by omega)).trans (h2 j k q1 q2 q3 q4 q5 q6 q7 q8 q9), ⟨by omega, by rw [e 4 (by omega) (by omega)]; exact a2, by rw [e 4 (by omega) (by omega), e19]; exact a3, by omega⟩, h4.fr (e 5 (by omega) (by omega) _) (e 6 (by omega) (by omega) _) (by omega) (fun v _ _ => p2 12 v (by omega) (by omega) (by omega) (by omega) (by omega) (by omega) (by omega)), fun v q1 q2 => by rw [e 2 (by omega) (by omega), e 3 (by omega) (by omega)]; exact h5 v q1 q2, h6.tr o1, by rw [e 7 (by omega) (by omega)]; exact h7, by omega⟩, by omega, p4⟩
theorem NdE.mv {γ0 γ γ' : St} (h : NdE γ0 γ) (m : Mv γ γ') : NdE γ0 γ' := by
  have ⟨h1, h2, ⟨a1, a2, a3, a4⟩, h4, h5, h6, h7, h8⟩ := h
  have e := m.2.1
  have m5 := m.2.2
  have e18 := e 0 18 (by omega)
  have e19 := e 0 19 (by omega)
  have er : ∀ j : Nat, j ≠ 0 → ∀ k, γ' j k = γ j k := fun j q k => e j k (by omega)
  exact ⟨h1.mv m, fun j k q1 q2 q3 q4 q5 q6 q7 q8 q9 => (e j k (by omega)).trans (h2 j k q1 q2 q3 q4 q5 q6 q7 q8 q9), ⟨by omega, by rw [er 4 (by omega)]; exact a2, by rw [er 4 (by omega), e19]; exact a3, by omega⟩, h4.fr (er 5 (by omega) _) (er 6 (by omega) _) (by omega) (fun v _ _ => er 12 (by omega) v), fun v q1 q2 => by rw [er 2 (by omega), er 3 (by omega)]; exact h5 v q1 q2, h6.tr m.re, by rw [er 7 (by omega)]; exact h7, by omega⟩
/-- a node's equations are read, it is being judged -/
def NdJ (γ0 γ : St) : Prop := NdP γ (γ0 0 18) (γ0 0 19) (γ 0 19) (γ0 0 30) (γ 0 30) (γ0 0 31) (γ 0 31) (γ0 0 40) (γ 0 40) ∧ DcI γ ∧ Fn γ0 γ ∧ (γ 0 18 = γ0 0 18 ∧ γ 4 (γ0 0 18) = γ0 0 19 ∧ γ 4 (γ0 0 18 + 1) = γ 0 19 ∧ γ 7 (γ0 0 18) = γ0 0 30 ∧ γ 7 (γ0 0 18 + 1) = γ 0 30) ∧ WdO γ 2 3 0 (γ0 0 18 + 1) ∧ Rf γ0 γ ∧ (γ 0 30 ≤ γ 0 5 ∧ γ 0 31 ≤ γ 0 5 ∧ γ 0 40 ≤ γ 0 5 ∧ γ0 0 5 < γ 0 5)
theorem NdE.nj {γ0 γ γ' : St} (t0 : 0 ≤ γ0 0 30) (h : NdE γ0 γ) (lt : γ0 0 30 < γ 0 30) (e : γ' = setA γ 7 (γ0 0 18 + 1) (γ 0 30)) : NdJ γ0 γ' := by
  have ⟨h1, h2, ⟨a1, a2, a3, a4⟩, h4, h5, h6, h7, h8⟩ := h
  have ⟨⟨w1, w2, w3, w4⟩, ⟨b1, b2, b3⟩, ⟨c1, c2, c3⟩, ⟨d1, d2, d3⟩, n9, n8, cn, el, ⟨f1, f2⟩, o9, o8⟩ := h1
  have dc4 := w1.2.2.2.1
  have dc3 := w1.2.2.1
  have dc6 := w1.2.2.2.2.2.1
  rw [a1, a2] at dc4 dc3 dc6
  rw [a1, h7] at b1 b2 f1 f2
  rw [a1] at n9 n8 o9 o8
  rw [a1, a2, h7] at el
  have ff := f2 lt
  have np : NdP γ (γ0 0 18) (γ0 0 19) (γ 0 19) (γ0 0 30) (γ 0 30) (γ0 0 31) (γ 0 31) (γ0 0 40) (γ 0 40) := ⟨⟨dc3.1, h4.1.1, h4.1.2.1, h4.1.2.2, by omega⟩, fun v q1 q2 => ⟨dc6 v q1 q2, fun q => h4.2 v q1 q⟩, ⟨t0, lt⟩, el, n9, n8, o9, o8, ff.1, ff.2.1, ff.2.2, d1, c1, c2, d2⟩
  have s0 : ∀ j k, j ≠ 7 → γ' j k = γ j k := fun j k q => by rw [e, stA, if_neg (by omega)]
  have s7 : γ' 7 (γ0 0 18) = γ 7 (γ0 0 18) := by rw [e, stA, if_neg (by omega)]
  have s8 : γ' 7 (γ0 0 18 + 1) = γ 0 30 := by rw [e, stA, if_pos ⟨rfl, rfl⟩]
  have e18 := s0 0 18 (by omega)
  have e19 := s0 0 19 (by omega)
  have e30 := s0 0 30 (by omega)
  have e31 := s0 0 31 (by omega)
  have e40 := s0 0 40 (by omega)
  have e5 := s0 0 5 (by omega)
  unfold NdJ
  rw [e18, e19, e30, e31, e40, e5, s7, s8, s0 4 _ (by omega), s0 4 _ (by omega)]
  refine ⟨np.fr ⟨⟨fun k => s0 1 k (by omega), fun k _ => ⟨s0 15 k (by omega), s0 17 k (by omega), s0 19 k (by omega)⟩, fun k _ => s0 16 k (by omega), fun k _ => s0 18 k (by omega), fun j q1 q2 q3 k _ => s0 j k (by omega)⟩, fun g _ => ⟨s0 5 g (by omega), s0 6 g (by omega)⟩, ⟨s0 8 _ (by omega), s0 9 _ (by omega)⟩, fun v _ _ => s0 12 v (by omega)⟩, w1.fr (fun k _ => s0 0 k (by omega)) (fun j q k => s0 j k (by omega)), fun j k q1 q2 q3 q4 q5 q6 q7 q8 q9 => ?_, ⟨a1, a2, a3, h7, rfl⟩, fun v q1 q2 => by rw [s0 2 v (by omega), s0 3 v (by omega)]; exact h5 v q1 q2, h6.tr ⟨fun j k q1 q2 => s0 j k (by omega), fun b => b.fr (fun k => s0 14 k (by omega)) (fun k => s0 28 k (by omega)) (fun k => s0 25 k (by omega))⟩, b3, c3, d3, h8⟩
  rw [e, stA, if_neg (by omega)]
  exact h2 j k q1 q2 q3 q4 q5 q6 q7 q8 q9
theorem NdJ.mv {γ0 γ γ' : St} (h : NdJ γ0 γ) (m : Mv γ γ') : NdJ γ0 γ' := by
  have ⟨h1, h2, h3, h4, h5, h6, h7⟩ := h
  have e := m.2.1
  have m5 := m.2.2
  have er : ∀ j : Nat, j ≠ 0 → ∀ k, γ' j k = γ j k := fun j q k => e j k (by omega)
  unfold NdJ
  rw [e 0 18 (by omega), e 0 19 (by omega), e 0 30 (by omega), e 0 31 (by omega), e 0 40 (by omega), er 4 (by omega), er 4 (by omega), er 7 (by omega), er 7 (by omega)]
  exact ⟨h1.fr ⟨⟨fun k => e 1 k (by omega), fun k _ => ⟨e 15 k (by omega), e 17 k (by omega), e 19 k (by omega)⟩, fun k _ => e 16 k (by omega), fun k _ => e 18 k (by omega), fun j q1 q2 q3 k _ => e j k (by omega)⟩, fun g _ => ⟨e 5 g (by omega), e 6 g (by omega)⟩, ⟨e 8 _ (by omega), e 9 _ (by omega)⟩, fun v _ _ => e 12 v (by omega)⟩, h2.mv m, fun j k q1 q2 q3 q4 q5 q6 q7 q8 q9 => (e j k (by omega)).trans (h3 j k q1 q2 q3 q4 q5 q6 q7 q8 q9), h4, fun v q1 q2 => by rw [e 2 v (by omega), e 3 v (by omega)]; exact h5 v q1 q2, h6.tr m.re, by omega⟩
theorem NdJ.fk {γ0 γ γ' : St} {lo hi : Int} (h : NdJ γ0 γ) (f : Fk lo hi γ γ') (hlo : γ0 0 40 ≤ lo) (b : ∀ v, γ' 28 v = 0 ∨ γ' 28 v = 1) : NdJ γ0 γ' := by
  have ⟨h1, h2, h3, h4, h5, h6, h7⟩ := h
  have e0 : ∀ k, k ≠ 42 → γ' 0 k = γ 0 k := fun k q => f 0 k (by omega) (by omega) (by omega)
  have e : ∀ j k, j ≠ 0 → j ≠ 24 → j ≠ 28 → γ' j k = γ j k := fun j k q1 q2 q3 => f j k (by omega) (by omega) q3
  have rf : Rf γ γ' := ⟨fun j k q1 q2 => f j k (by omega) (by omega) (by omega), fun c => ⟨fun v => by rw [e 14 v (by omega) (by omega) (by omega)]; exact c.1 v, b, c.2.2.fr (fun k => e 25 k (by omega) (by omega) (by omega))⟩⟩
  unfold NdJ
  rw [e0 18 (by omega), e0 19 (by omega), e0 30 (by omega), e0 31 (by omega), e0 40 (by omega), e0 5 (by omega), e 4 _ (by omega) (by omega) (by omega), e 4 _ (by omega) (by omega) (by omega), e 7 _ (by omega) (by omega) (by omega), e 7 _ (by omega) (by omega) (by omega)]
  exact ⟨h1.fr ⟨⟨fun k => e 1 k (by omega) (by omega) (by omega), fun k _ => ⟨e 15 k (by omega) (by omega) (by omega), e 17 k (by omega) (by omega) (by omega), e 19 k (by omega) (by omega) (by omega)⟩, fun k _ => e 16 k (by omega) (by omega) (by omega), fun k _ => e 18 k (by omega) (by omega) (by omega), fun j q1 q2 q3 k _ => e j k (by omega) q3 (by omega)⟩, fun g _ => ⟨e 5 g (by omega) (by omega) (by omega), e 6 g (by omega) (by omega) (by omega)⟩, ⟨e 8 _ (by omega) (by omega) (by omega), e 9 _ (by omega) (by omega) (by omega)⟩, fun v _ _ => e 12 v (by omega) (by omega) (by omega)⟩, h2.fk f, fun j k q1 q2 q3 q4 q5 q6 q7 q8 q9 => (f j k (by omega) (by omega) (by omega)).trans (h3 j k q1 q2 q3 q4 q5 q6 q7 q8 q9), h4, fun v q1 q2 => by rw [e 2 v (by omega) (by omega) (by omega), e 3 v (by omega) (by omega) (by omega)]; exact h5 v q1 q2, h6.tr rf, h7⟩
