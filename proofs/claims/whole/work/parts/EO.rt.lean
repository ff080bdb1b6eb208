/-! equality: which part gives a variable -/
theorem NdS.at {δ : St} {f e : Int} (h : NdS δ f) (e1 : psN δ f ≤ e) (e2 : e < peN δ f) : ∃ k, (δ 7 f ≤ k ∧ k < δ 7 (f + 1)) ∧ δ 19 k ≤ e ∧ e ≤ δ 17 k := by
  obtain ⟨t, l0, l, x, _⟩ := h
  have ⟨y1, y2, y3, y4, y5, y6, y7, y8, y9, y10, y11, y12, y13, y14, y15⟩ := x.1
  obtain ⟨i, i1, i2, i3, i4⟩ := y4.loc y11 (e := e) (show e < peN δ f from e2) ((δ 7 (f + 1) - δ 7 f).toNat) (δ 7 f) (Int.le_refl _) y3.2 (show δ 7 (f + 1) - δ 7 f ≤ ((δ 7 (f + 1) - δ 7 f).toNat : Int) by omega) (show psN δ f ≤ e from e1)
  exact ⟨i, ⟨i1, i2⟩, i3, i4⟩
theorem NdS.mo {δ : St} {f : Int} (h : NdS δ f) : ∀ (n : Nat) (k k' : Int), δ 7 f ≤ k → k' = k + 1 + n → k' < δ 7 (f + 1) → δ 17 k < δ 19 k'
  | 0, k, k', h1, h2, h3 => by
    have e := (h.eq h1 (show k < δ 7 (f + 1) by omega)).2.2.2.2.2.2.1 (by omega)
    rw [show k' = k + 1 by omega, e]; omega
  | n + 1, k, k', h1, h2, h3 => by
    have i := NdS.mo h n k (k' - 1) h1 (by omega) (by omega)
    have e := (h.eq (show δ 7 f ≤ k' - 1 by omega) (show k' - 1 < δ 7 (f + 1) by omega))
    have e2 := e.2.2.2.2.2.2.1 (by omega)
    rw [show k' - 1 + 1 = k' by omega] at e2
    have := e.2.1
    omega
theorem NdS.at1 {δ : St} {f e k k' : Int} (h : NdS δ f) (a1 : δ 7 f ≤ k ∧ k < δ 7 (f + 1)) (a2 : δ 7 f ≤ k' ∧ k' < δ 7 (f + 1)) (b1 : δ 19 k ≤ e ∧ e ≤ δ 17 k) (b2 : δ 19 k' ≤ e ∧ e ≤ δ 17 k') : k = k' := by
  by_cases q : k < k'
  · have := h.mo (k' - k - 1).toNat k k' a1.1 (by omega) a2.2; omega
  · by_cases q2 : k' < k
    · have := h.mo (k - k' - 1).toNat k' k a2.1 (by omega) a1.2; omega
    · omega
theorem NdS.gn {δ : St} {f k : Int} (h : NdS δ f) (k1 : δ 7 f ≤ k) (k2 : k < δ 7 (f + 1)) : ∀ e, δ 19 k ≤ e → e ≤ δ 17 k → Gn (nvN δ f) f δ (δ 19 k) e := by
  obtain ⟨t, l0, l, x, _⟩ := h
  exact (x.1.2.2.2.1.1 k k1 k2).1.2.2.2.2.1
/-- the parts of a call have other roots -/
theorem call_root {δ : St} {f k : Int} (h : NdS δ f) (ar : ArN δ f) (k1 : δ 7 f ≤ k) (k2 : k < δ 7 (f + 1)) {r : Int} (r1 : δ 19 k ≤ r) (r2 : r ≤ δ 17 k) (r3 : δ 20 r = 3) : ∀ (n : Nat) (e : Int), r - e < n → r + 1 - δ 26 r ≤ e → e < r → δ 30 e ≠ r := by
  have g := h.gn k1 k2
  have gl := h.gl k1 k2 r1 r2
  intro n
  induction n with
  | zero => intro e h1 h2 h3; exfalso; omega
  | succ n ih =>
    intro e h1 h2 h3
    obtain ⟨p, p1, p2, ms, c1, m1⟩ := cover g ((r - δ 19 k).toNat + 1) r e r1 r2 (by omega) h2 h3
    obtain ⟨j, hj⟩ := List.getElem?_of_mem m1
    have kd := (ar k k1 k2).2.2 p (by omega) (by omega) ms c1 j e hj
    rw [kd.2]
    unfold paV
    by_cases q : δ 20 p = 24 ∨ δ 20 p = 3 ∨ δ 20 p = 6 ∧ (j : Int) = 1
    · rw [if_pos q]; omega
    · rw [if_neg q]
      by_cases q2 : p = r
      · exfalso; rw [q2] at q; exact q (Or.inr (Or.inl r3))
      · exact ih p (by omega) (by omega) (by omega)
/-- the root of what gives the variable v, the instance where it stands, and which of its outputs -/
def RtV (δ : St) (v x root o : Int) : Prop := (δ 5 (δ 35 (δ 42 v)) ≤ δ 43 v ∧ x = δ 42 v ∧ root = δ 17 (δ 32 (δ 4 (δ 35 x) + δ 43 v)) ∧ o = δ 33 (δ 4 (δ 35 x) + δ 43 v)) ∨ (δ 43 v < δ 5 (δ 35 (δ 42 v)) ∧ 0 ≤ δ 36 (δ 42 v) ∧ x = δ 36 (δ 42 v) ∧ o = 0 ∧ ∃ ms, Ch (δ 23) (δ 22 (δ 37 (δ 42 v))) ms ∧ ms[(δ 43 v).toNat]? = some root)
theorem Sg.inj {p : Int → Int} : ∀ {ks : List Int} {lo hi : Int}, Sg p lo ks hi → ∀ (i j : Nat) x, ks[i]? = some x → ks[j]? = some x → i = j
  | [], _, _, _, i, _, _, q, _ => by simp at q
  | y :: t, lo, hi, h, i, j, x, q1, q2 => by
    have tl : ∀ z ∈ t, y < z := fun z hz => by have := (Sg.mem h.2.2 z hz).1; omega
    cases i with
    | zero =>
      simp only [List.getElem?_cons_zero, Option.some.injEq] at q1
      cases j with
      | zero => rfl
      | succ j =>
        rw [List.getElem?_cons_succ] at q2
        have := tl x (List.mem_of_getElem? q2)
        omega
    | succ i =>
      rw [List.getElem?_cons_succ] at q1
      cases j with
      | zero =>
        simp only [List.getElem?_cons_zero, Option.some.injEq] at q2
        have := tl x (List.mem_of_getElem? q1)
        omega
      | succ j =>
        rw [List.getElem?_cons_succ] at q2
        rw [Sg.inj h.2.2 i j x q1 q2]
/-- an equation that is no call has one left -/
theorem NdS.one {δ : St} {f k : Int} (h : NdS δ f) (k1 : δ 7 f ≤ k) (k2 : k < δ 7 (f + 1)) (q : δ 20 (δ 17 k) ≠ 3) : δ 16 (k + 1) = δ 16 k + 1 := by
  obtain ⟨t, l0, l, x, _⟩ := h
  have er := (x.1.2.2.2.1.1 k k1 k2).1
  have ⟨_, _, _, _, _, e6, e7⟩ := er
  by_cases w : rT δ t 1 (rT δ t 15 k) = 40
  · exact absurd (e6 w) q
  · exact e7 w
/-- what defines a variable -/
theorem NdS.db {δ : St} {f w : Int} (h : NdS δ f) (h1 : δ 5 f ≤ w) (h2 : w < nvN δ f) : ∃ k i, (δ 7 f ≤ k ∧ k < δ 7 (f + 1)) ∧ (δ 16 k ≤ i ∧ i < δ 16 (k + 1)) ∧ δ 18 i = w ∧ δ 32 (δ 4 f + w) = k ∧ δ 33 (δ 4 f + w) = i - δ 16 k := by
  obtain ⟨t, l0, l, x, ak, _⟩ := h
  have nv : nvN δ f = δ 4 (f + 1) - δ 4 f := rfl
  obtain ⟨k, i, a1, a2, a3, a4, a5⟩ := ak.2 (δ 4 f + w) (by show δ 4 f + δ 5 f ≤ _; omega) (by show _ < δ 4 (f + 1); omega)
  have e : δ 4 f + w - δ 4 f = w := by omega
  refine ⟨k, i, a1, a2, ?_, ?_, ?_⟩
  · have a3 : δ 18 i = δ 4 f + w - δ 4 f := a3
    omega
  · have a4 : δ 32 (δ 4 f + (δ 4 f + w - δ 4 f)) = k := a4
    rw [e] at a4; exact a4
  · have a5 : δ 33 (δ 4 f + (δ 4 f + w - δ 4 f)) = i - δ 16 k := a5
    rw [e] at a5; exact a5
/-- where the root of v lies -/
theorem RtV.at {δ : St} (l : LkM δ) {v x root o : Int} (v0 : 0 ≤ v) (v1 : v < δ 0 51) (h : RtV δ v x root o) : (0 ≤ x ∧ x < δ 0 50) ∧ psN δ (δ 35 x) ≤ root ∧ root < peN δ (δ 35 x) := by
  have iv := l.2.2.2.2.2.2.2.2.2 v v0 v1
  have ⟨i1, i2, i3, i4⟩ := iv
  rcases h with ⟨a1, a2, a3, a4⟩ | ⟨a1, a2, a3, a4, ms, a5, a6⟩
  · subst a2
    have nd := l.nd i1.1 i1.2
    obtain ⟨k, i, b1, b2, b3, b4, b5⟩ := nd.db a1 i4
    rw [b4] at a3
    have eq := nd.eq b1.1 b1.2
    exact ⟨i1, by omega, by omega⟩
  · have x0 : 0 < δ 42 v := by
      by_cases q : δ 42 v = 0
      · rw [q, l.2.2.2.2.2.2.2.1.2.1] at a2; omega
      · omega
    have ⟨o1, o2, o3, o4⟩ := (l.2.2.2.2.2.2.2.2.1 (δ 42 v) i1.1 i1.2).2.2.1 x0
    subst a3
    have nd := l.nd (x := δ 36 (δ 42 v)) (by omega) (by omega)
    obtain ⟨ks, c1, c2, c3, _⟩ := nd.pt o2.1 o2.2
    rw [Ch.uniq a5 c1] at a6
    have := c2.mem root (List.mem_of_getElem? a6)
    exact ⟨by omega, by omega, by omega⟩
/-- a root that is no call gives one variable -/
theorem RtV.inj {D δ : St} {P : Int → Int} (l : LkM δ) (pp : PpI D δ 0 P) {v v' x root o o' : Int} (v0 : 0 ≤ v) (v1 : v < δ 0 51) (w0 : 0 ≤ v') (w1 : v' < δ 0 51) (h : RtV δ v x root o) (h' : RtV δ v' x root o') (n3 : δ 20 root ≠ 3) : v = v' := by
  have ⟨i1, i2, i3, i4⟩ := l.2.2.2.2.2.2.2.2.2 v v0 v1
  have ⟨j1, j2, j3, j4⟩ := l.2.2.2.2.2.2.2.2.2 v' w0 w1
  have pos : ∀ u, 0 ≤ u → u < δ 0 51 → 0 ≤ δ 36 (δ 42 u) → 0 < δ 42 u ∧ δ 42 u < δ 0 50 := fun u u0 u1 q => by
    have ⟨k1, _⟩ := l.2.2.2.2.2.2.2.2.2 u u0 u1
    by_cases q2 : δ 42 u = 0
    · rw [q2, l.2.2.2.2.2.2.2.1.2.1] at q; omega
    · omega
  -- a body and a side of a call differ
  have mix : ∀ u u' r q q', 0 ≤ u → u < δ 0 51 → 0 ≤ u' → u' < δ 0 51 → (δ 5 (δ 35 (δ 42 u)) ≤ δ 43 u ∧ q = δ 42 u ∧ r = δ 17 (δ 32 (δ 4 (δ 35 q) + δ 43 u))) → (0 ≤ δ 36 (δ 42 u') ∧ q' = δ 36 (δ 42 u') ∧ ∃ ms, Ch (δ 23) (δ 22 (δ 37 (δ 42 u'))) ms ∧ ms[(δ 43 u').toNat]? = some r) → q = q' → False := fun u u' r q q' u0 u1 z0 z1 a b e => by
    obtain ⟨a1, a2, a3⟩ := a
    obtain ⟨b1, b2, ms, b3, b4⟩ := b
    have ⟨k1, k2, k3, k4⟩ := l.2.2.2.2.2.2.2.2.2 u u0 u1
    have p := pos u' z0 z1 b1
    have ⟨o1, o2, o3, o4⟩ := (l.2.2.2.2.2.2.2.2.1 (δ 42 u') (by omega) p.2).2.2.1 p.1
    have nd := l.nd k1.1 k1.2
    rw [← b2, ← e, a2] at o2
    rw [a2] at a3
    obtain ⟨k, i, c1, c2, c3, c4, c5⟩ := nd.db a1 k4
    rw [c4] at a3
    have eq := nd.eq c1.1 c1.2
    obtain ⟨k', d1, d2, d3⟩ := nd.at o2.1 o2.2
    obtain ⟨ks, f1, f2, f3, _⟩ := nd.gn d1.1 d1.2 _ d2 d3
    rw [Ch.uniq b3 f1] at b4
    have m := f2.mem r (List.mem_of_getElem? b4)
    have := nd.at1 c1 d1 (e := r) (by omega) (by omega)
    rw [this] at a3
    omega
  rcases h with ⟨a1, a2, a3, a4⟩ | ⟨a1, a2, a3, a4, ms, a5, a6⟩
  · rcases h' with ⟨b1, b2, b3, b4⟩ | ⟨b1, b2, b3, b4, ms', b5, b6⟩
    · have nd := l.nd i1.1 i1.2
      rw [← a2] at nd i4 a1
      rw [← b2] at j4 b1
      obtain ⟨k, i, c1, c2, c3, c4, c5⟩ := nd.db a1 i4
      obtain ⟨k', i', d1, d2, d3, d4, d5⟩ := nd.db b1 j4
      rw [c4] at a3
      rw [d4] at b3
      have eq := nd.eq c1.1 c1.2
      have eq' := nd.eq d1.1 d1.2
      have ek := nd.at1 c1 d1 (e := root) (by omega) (by omega)
      subst ek
      rw [a3] at n3
      have one := nd.one c1.1 c1.2 n3
      have ei : i = i' := by omega
      rw [ei] at c3
      rw [← a2] at i2
      rw [← b2] at j2
      omega
    · exact (mix v v' root x x v0 v1 w0 w1 ⟨a1, a2, a3⟩ ⟨b2, b3, ms', b5, b6⟩ rfl).elim
  · rcases h' with ⟨b1, b2, b3, b4⟩ | ⟨b1, b2, b3, b4, ms', b5, b6⟩
    · exact (mix v' v root x x w0 w1 v0 v1 ⟨b1, b2, b3⟩ ⟨a2, a3, ms, a5, a6⟩ rfl).elim
    · have p := pos v v0 v1 a2
      have p' := pos v' w0 w1 b2
      have ⟨o1, o2, o3, o4⟩ := (l.2.2.2.2.2.2.2.2.1 (δ 42 v) (by omega) p.2).2.2.1 p.1
      have ⟨q1, q2, q3, q4⟩ := (l.2.2.2.2.2.2.2.2.1 (δ 42 v') (by omega) p'.2).2.2.1 p'.1
      have nd := l.nd (x := δ 36 (δ 42 v)) (by omega) (by omega)
      rw [← b3, a3] at q2
      obtain ⟨k, c1, c2, c3⟩ := nd.at o2.1 o2.2
      obtain ⟨k', d1, d2, d3⟩ := nd.at q2.1 q2.2
      obtain ⟨ks, f1, f2, f3, _⟩ := nd.gn c1.1 c1.2 _ c2 c3
      obtain ⟨ks', g1, g2, g3, _⟩ := nd.gn d1.1 d1.2 _ d2 d3
      rw [Ch.uniq a5 f1] at a6
      rw [Ch.uniq b5 g1] at b6
      have m := f2.mem root (List.mem_of_getElem? a6)
      have m' := g2.mem root (List.mem_of_getElem? b6)
      have ek := nd.at1 c1 d1 (e := root) (by omega) (by omega)
      subst ek
      have e37 : δ 37 (δ 42 v) = δ 37 (δ 42 v') := by
        by_cases w : δ 37 (δ 42 v) < δ 37 (δ 42 v')
        · exact (kid_one (nd.gn c1.1 c1.2) c2 d3 w f1 (List.mem_of_getElem? a6) g1 (List.mem_of_getElem? b6)).elim
        · by_cases w2 : δ 37 (δ 42 v') < δ 37 (δ 42 v)
          · exact (kid_one (nd.gn c1.1 c1.2) d2 c3 w2 g1 (List.mem_of_getElem? b6) f1 (List.mem_of_getElem? a6)).elim
          · omega
      have e42 : δ 42 v = δ 42 v' := by
        by_cases w : δ 42 v < δ 42 v'
        · exact absurd e37 ((pp _ _ (by omega) w p'.2).2.2 (by omega))
        · by_cases w2 : δ 42 v' < δ 42 v
          · exact absurd e37.symm ((pp _ _ (by omega) w2 p.2).2.2 (by omega))
          · omega
      rw [← e37] at g1
      have ek2 := Ch.uniq f1 g1
      rw [← ek2] at b6
      have := f2.inj _ _ root a6 b6
      rw [e42] at i2
      omega
