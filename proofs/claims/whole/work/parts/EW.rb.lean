/-! equality: causes in both: from the reference to the class -/
theorem vr_59 {V : Int} {γ δ : St} {σ : Int → Int → Int} {κ : Int → Int} (h : LB V γ δ σ κ) {u : Int} (u0 : 0 ≤ u) (u1 : u < δ 0 51) : γ 59 u = ccK (δ 38 (δ 42 u)) (κ (δ 42 u)) (δ 12 (δ 4 (δ 35 (δ 42 u)) + δ 43 u)) ∧ γ 56 u = slC (γ 59 u) ∧ γ 57 u = -1 ∧ FlV (nvN δ (δ 35 (δ 42 u))) (δ 12 (δ 4 (δ 35 (δ 42 u)) + δ 43 u)) := by
  obtain ⟨l, ar, tb, f41, g34, ⟨k0, _⟩, iy, _⟩ := h
  have ⟨i1, i2, i3, i4⟩ := l.2.2.2.2.2.2.2.2.2 u u0 u1
  have ix := (l.2.2.2.2.2.2.2.2.1 _ i1.1 i1.2).1.1
  have nt := tb.1 _ ix.1 ix.2
  have t5 := (tb.2.2.2.2 _ ix.1 ix.2).1
  have nd := l.nd i1.1 i1.2
  have sz := nd.sz
  have nv : nvN δ (δ 35 (δ 42 u)) = δ 4 (δ 35 (δ 42 u) + 1) - δ 4 (δ 35 (δ 42 u)) := rfl
  have v := (iy _ i1.1 i1.2).1.2.1 (δ 43 u) i3 (by rw [nt.2.1]; omega)
  obtain ⟨v1, v2, v3, v4, v5⟩ := v
  rw [i2] at v1 v2 v3 v4
  rw [nt.1.1, g34 _ (by omega) (by omega)] at v3
  exact ⟨v3, v4, v2, nd.ck (by omega) (by omega)⟩
theorem vr_55 {V : Int} {γ δ : St} {σ : Int → Int → Int} {κ : Int → Int} (h : LB V γ δ σ κ) {u x root o : Int} (u0 : 0 ≤ u) (u1 : u < δ 0 51) (rt : RtV δ u x root o) : γ 55 u = if δ 20 root = 3 then outV δ x root o else σ x root := by
  have at0 := rt.at h.1 u0 u1
  obtain ⟨l, ar, tb, f41, g34, ⟨k0, _⟩, iy, _⟩ := h
  have ⟨i1, i2, i3, i4⟩ := l.2.2.2.2.2.2.2.2.2 u u0 u1
  have ixx := (l.2.2.2.2.2.2.2.2.1 x at0.1.1 at0.1.2).1.1
  have kd := (tb.pt ixx.1 ixx.2 at0.2.1 at0.2.2).1.1
  have k43 : γ 38 root = 43 ↔ δ 20 root = 3 := by
    have w := fun (q : 0 ≤ δ 20 root) => kd_c kd q
    constructor
    · intro q; rw [← kd, q]; rfl
    · intro q
      have := w (by omega)
      omega
  rcases rt with ⟨a1, a2, a3, a4⟩ | ⟨a1, a2, a3, a4, ms, a5, a6⟩
  · subst a2
    have nd := l.nd i1.1 i1.2
    obtain ⟨k, i, b1, b2, b3, b4, b5⟩ := nd.db a1 i4
    rw [b4] at a3
    rw [b5] at a4
    have te := tb.eq ixx.1 ixx.2 b1.1 b1.2
    have df := (iy _ i1.1 i1.2).1.2.2 k b1.1 b1.2 (i - δ 16 k) (by omega) (by omega)
    rw [te.2.2.2.2.2 _ (by omega) (by omega), show δ 16 k + (i - δ 16 k) = i by omega, b3, i2, ← a3, ← a4] at df
    rw [df]
    by_cases q : δ 20 root = 3
    · rw [if_pos (k43.2 q), if_pos q]
    · rw [if_neg (fun w => q (k43.1 w)), if_neg q]
  · have x0 : 0 < δ 42 u := by
      by_cases q : δ 42 u = 0
      · rw [q, l.2.2.2.2.2.2.2.1.2.1] at a2; omega
      · omega
    obtain ⟨_, ms', k, c1, c2, c3, c4, c5⟩ := (iy _ i1.1 i1.2).2 x0
    rw [Ch.uniq a5 c1] at a6
    have w := (c5 _ root a6).1
    rw [show δ 38 (δ 42 u) + ((δ 43 u).toNat : Int) = u by omega, ← a3] at w
    rw [w]
    by_cases q : δ 20 root = 3
    · rw [if_pos q, a4]
      exact ((iy x at0.1.1 at0.1.2).1.1 root at0.2.1 at0.2.2).2.2.2.1 (k43.2 q)
    · rw [if_neg q]
/-- a slot is none below nought -/
theorem sg_nn {V : Int} {γ δ : St} {σ : Int → Int → Int} {κ : Int → Int} (h : LB V γ δ σ κ) {x : Int} (x0 : 0 ≤ x) (x1 : x < δ 0 50) : ∀ (n : Nat) (e : Int), e - psN δ (δ 35 x) < n → psN δ (δ 35 x) ≤ e → e < peN δ (δ 35 x) → 0 ≤ σ x e ∧ (σ x e < V ∨ V < σ x e) := by
  obtain ⟨l, ar, tb, f41, g34, ⟨k0, kV⟩, iy, _⟩ := h
  have ixx := (l.2.2.2.2.2.2.2.2.1 x x0 x1).1.1
  have m51 := l.2.2.2.1
  have nd := l.nd x0 x1
  intro n
  induction n with
  | zero => intro e h1 h2 h3; exfalso; omega
  | succ n ih =>
    intro e h1 h2 h3
    obtain ⟨⟨kd1, kd2⟩, ms, c1, c2, c3⟩ := tb.pt ixx.1 ixx.2 h2 h3
    obtain ⟨ks, d1, d2, d3, d4, d5, d6⟩ := nd.pt h2 h3
    have p := (iy x x0 x1).1.1 e h2 h3
    have pf := l.pf x0 x1 h2 h3
    have cs := kd_c kd1 d5.1.1
    by_cases q2 : γ 38 e = 2
    · have w := p.2.1 q2
      rw [w, kd2]
      have := pf.2.2.1 (by omega)
      omega
    · by_cases q27 : γ 38 e = 27
      · have w := p.2.2.1 q27
        have l1 : ks.length = 1 := d4.2.2.2.2 (by omega)
        match ks, d1, d2, l1 with
        | [y], d1, d2, _ =>
          have ey : δ 22 e = y := d1.1
          have m := d2.mem y List.mem_cons_self
          rw [w, ey]
          exact ih y (by omega) (by omega) (by omega)
      · by_cases q43 : γ 38 e = 43
        · have w := p.2.2.2.1 q43
          have w3 := d5.2.2.1 (by omega)
          have sg := (l.1 _ w3.1 (by omega)).sz
          have o := output_eq l x0 x1 h2 h3 (by omega) (i := 0) (by omega)
          rw [w]
          omega
        · by_cases qn : γ 38 e = 3 ∨ γ 38 e = 40 ∨ γ 38 e = 41
          · have := (p.1 qn).1
            omega
          · obtain ⟨_, _, w, _⟩ := p.2.2.2.2 ⟨q2, by omega, q27, by omega, by omega, q43⟩
            omega
theorem Rp.ed {E : Int → Int → Prop} {a b : Int} (h : E a b) : Rp E a b := ⟨b, h, Rc.rf⟩
theorem Rp.st {E : Int → Int → Prop} {a b c : Int} (h : Rp E a b) (e : E b c) : Rp E a c := by
  obtain ⟨d, h1, h2⟩ := h
  exact ⟨d, h1, h2.tr (Rc.ed e)⟩
/-- the parts of a variable's root are reached from it, and so are their clocks -/
theorem ra_ps {V : Int} {γ δ : St} {σ : Int → Int → Int} {κ : Int → Int} (h : LB V γ δ σ κ) {u x root o : Int} (u0 : 0 ≤ u) (u1 : u < δ 0 51) (rt : RtV δ u x root o) (n3 : δ 20 root ≠ 3) : ∀ (n : Nat) (e : Int), root - e < n → δ 31 root ≤ e → e ≤ root → δ 30 e = root → Rp (Ed γ) u (σ x e) ∧ (δ 29 e ≠ -1 → Rp (Ed γ) u (δ 38 x + δ 29 e / 2)) := by
  have at0 := rt.at h.1 u0 u1
  have v55 := vr_55 h u0 u1 rt
  have v59 := vr_59 h u0 u1
  have nn := sg_nn h at0.1.1 at0.1.2
  have hh := h
  obtain ⟨l, ar, tb, f41, g34, ⟨k0, kV⟩, iy, _⟩ := h
  rw [if_neg n3] at v55
  have ixa := (l.2.2.2.2.2.2.2.2.1 x at0.1.1 at0.1.2).1
  have ixx := ixa.1
  have b38 := ixa.2.1.1
  have nd := l.nd at0.1.1 at0.1.2
  have arn := (ar _ ixx.1 ixx.2).1
  obtain ⟨k, k1, k2, k3⟩ := nd.at at0.2.1 at0.2.2
  have cl := (ar _ ixx.1 ixx.2).2 k k1.1 k1.2
  obtain ⟨_, _, _, _, _, _, _, r31, _⟩ := nd.pt at0.2.1 at0.2.2
  have gl := nd.gl k1.1 k1.2 k2 k3
  have fv : ∀ e, psN δ (δ 35 x) ≤ e → e < peN δ (δ 35 x) → FlV (nvN δ (δ 35 x)) (δ 29 e) := fun e w1 w2 => by
    obtain ⟨_, _, _, _, _, _, w, _⟩ := nd.pt w1 w2
    exact w
  have eqk := nd.eq k1.1 k1.2
  -- the root
  have base : Rp (Ed γ) u (σ x root) ∧ (δ 29 root ≠ -1 → Rp (Ed γ) u (δ 38 x + δ 29 root / 2)) := by
    refine ⟨Rp.ed ⟨(nn ((root - psN δ (δ 35 x)).toNat + 1) root (by omega) at0.2.1 at0.2.2).1, Or.inl v55⟩, fun q => Rp.ed ⟨?_, Or.inr (Or.inl ?_)⟩⟩
    · have := fv root at0.2.1 at0.2.2
      unfold FlV at this
      omega
    · rw [v59.2.1, v59.1]
      rcases rt with ⟨a1, a2, a3, a4⟩ | ⟨a1, a2, a3, a4, ms, a5, a6⟩
      · have ⟨i1, i2, i3, i4⟩ := l.2.2.2.2.2.2.2.2.2 u u0 u1
        rw [← a2]
        rw [← a2] at a1 i4
        obtain ⟨k', i, b1, b2, b3, b4, b5⟩ := nd.db a1 i4
        rw [b4] at a3
        have ek := nd.at1 k1 b1 (e := root) ⟨k2, k3⟩ (by have := nd.eq b1.1 b1.2; omega)
        subst ek
        have fb := fl_body nd arn cl k1.1 k1.2 b2.1 b2.2
        rw [← a3, b3] at fb
        rw [← fb]
        have := fv root at0.2.1 at0.2.2
        unfold FlV at this
        unfold ccK
        rw [if_neg q, slC_cc b38 (by omega)]
      · have ⟨i1, i2, i3, i4⟩ := l.2.2.2.2.2.2.2.2.2 u u0 u1
        have x0 : 0 < δ 42 u := by
          by_cases w : δ 42 u = 0
          · rw [w, l.2.2.2.2.2.2.2.1.2.1] at a2; omega
          · omega
        have ⟨o1, o2, o3, o4⟩ := (l.2.2.2.2.2.2.2.2.1 (δ 42 u) i1.1 i1.2).2.2.1 x0
        have ndy := l.nd i1.1 i1.2
        have szy := ndy.sz
        have c0 := ndy.c0 (v := δ 4 (δ 35 (δ 42 u)) + δ 43 u) (by omega) (by omega)
        rw [c0]
        unfold ccK
        rw [if_pos rfl, ((iy _ i1.1 i1.2).2 x0).1, ← a3]
        rw [← a3] at o2
        have e41 := f41 _ (δ 37 (δ 42 u)) ixx.1 ixx.2 o2.1 o2.2
        rw [if_neg (by omega)] at e41
        obtain ⟨k', d1, d2, d3⟩ := nd.at o2.1 o2.2
        obtain ⟨ks, f1, f2, f3, _⟩ := nd.gn d1.1 d1.2 _ d2 d3
        have mr : root ∈ ms := List.mem_of_getElem? a6
        have fk := (fl_kid nd arn ((ar _ ixx.1 ixx.2).2 k' d1.1 d1.2) d1.1 d1.2 d2 d3 a5 mr).1 (by omega) (by omega)
        rw [e41, ← fk]
        have := fv root at0.2.1 at0.2.2
        unfold FlV at this
        unfold ccK
        rw [if_neg q, slC_cc b38 (by omega)]
  intro n
  induction n with
  | zero => intro e w1 w2 w3; exfalso; omega
  | succ n ih =>
    intro e w1 w2 w3 w4
    by_cases q : e = root
    · rw [q]; exact base
    · obtain ⟨p, ms, j, p1, p2, c1, hj, np⟩ := ps_up nd arn k1.1 k1.2 k2 k3 (by omega) (by omega) w4
      have ip := ih p (by omega) (by omega) p1.2 p2
      have me : e ∈ ms := List.mem_of_getElem? hj
      have pr : psN δ (δ 35 x) ≤ p ∧ p < peN δ (δ 35 x) := by omega
      have er : psN δ (δ 35 x) ≤ e ∧ e < peN δ (δ 35 x) := by omega
      have ne := nn ((e - psN δ (δ 35 x)).toNat + 1) e (by omega) er.1 er.2
      obtain ⟨⟨kd1, kd2⟩, ms', d1, d2, d3⟩ := tb.pt ixx.1 ixx.2 pr.1 pr.2
      obtain ⟨ks, g1, g2, g3, g4, g5, _⟩ := nd.pt pr.1 pr.2
      have cs := kd_c kd1 g5.1.1
      have lp := (iy x at0.1.1 at0.1.2).1.1 p pr.1 pr.2
      have fk := fl_kid nd arn cl k1.1 k1.2 (e := p) (by omega) (by omega) c1 me
      rw [Ch.uniq g1 c1] at g4
      have len : j < ms.length := by
        rcases Nat.lt_or_ge j ms.length with r | r
        · exact r
        · rw [List.getElem?_eq_none r] at hj; cases hj
      -- its slot
      have slot : Rp (Ed γ) u (σ x e) := by
        by_cases q27 : γ 38 p = 27
        · have w := lp.2.2.1 q27
          have l1 : ms.length = 1 := g4.2.2.2.2 (by omega)
          have j0 : j = 0 := by omega
          subst j0
          match ms, c1, hj with
          | y :: t, c1, hj =>
            have ey : δ 22 p = y := c1.1
            simp only [List.getElem?_cons_zero, Option.some.injEq] at hj
            rw [ey, hj] at w
            rw [← w]; exact ip.1
        · have k2' : 4 ≤ δ 20 p := by
            by_cases w : δ 20 p ≤ 2
            · have l0 := g4.1 w; omega
            · omega
          obtain ⟨ks', o1, o2, ⟨o3, o4, o5, o6⟩, _⟩ := lp.2.2.2.2 ⟨by omega, by omega, q27, by omega, by omega, by omega⟩
          rw [Ch.uniq o1 c1] at o4 o5 o6
          have sj : sdF (σ x) ms j = σ x e := by unfold sdF; rw [hj]
          refine ip.1.st ⟨ne.1, ?_⟩
          have l3 : ms.length ≤ 3 := by
            by_cases w4' : δ 20 p = 4
            · have := g4.2.2.1 w4'; omega
            · by_cases w5 : δ 20 p ≤ 21
              · have := g4.2.2.2.1 (by omega); omega
              · have := g4.2.2.2.2 (by omega); omega
          rcases (show j = 0 ∨ j = 1 ∨ j = 2 by omega) with r | r | r
          · rw [r] at sj; rw [if_neg (by omega)] at o4; exact Or.inl (by rw [o4, sj])
          · rw [r] at sj np len
            have n25 : δ 20 p ≠ 25 := fun w => by have := g4.2.2.2.2 (by omega); omega
            rw [if_neg (by omega), if_neg (by omega)] at o5; exact Or.inr (Or.inl (by rw [o5, sj]))
          · rw [r] at sj; exact Or.inr (Or.inr (by rw [o6, sj]))
      refine ⟨slot, fun q29 => ?_⟩
      have fe := fv e er.1 er.2
      unfold FlV at fe
      by_cases q26 : δ 20 p = 26
      · have f1 := fk.2.1 q26
        have f2 := fk.2.2.2 q26
        have w21 := g5.2.2.2 q26
        have rc := ip.2 (by omega)
        rw [f2] at rc
        -- from the variable of the clock on
        have iv := ixa.2.2.2.2 (δ 21 p / 2) (by omega) (by omega)
        have bd := ixa.2.1
        have vc := vr_59 hh (u := δ 38 x + δ 21 p / 2) (by omega) (by omega)
        rw [iv.1, iv.2, ← f1] at vc
        refine rc.st ⟨by omega, Or.inr (Or.inl ?_)⟩
        rw [vc.2.1, vc.1]
        unfold ccK
        rw [if_neg q29, slC_cc b38 (by omega)]
      · by_cases q25 : δ 20 p = 25
        · have k36 : γ 38 p = 36 := by omega
          obtain ⟨ks', o1, o2, ⟨o3, o4, o5, o6⟩, _⟩ := lp.2.2.2.2 ⟨by omega, by omega, by omega, by omega, by omega, by omega⟩
          have e41 := f41 _ p ixx.1 ixx.2 pr.1 pr.2
          rw [if_pos q25] at e41
          have l1 : ms.length = 1 := g4.2.2.2.2 (by omega)
          have e22 : δ 22 p = e := by
            have j0 : j = 0 := by omega
            subst j0
            match ms, c1, hj with
            | y :: t, c1, hj =>
              have ey : δ 22 p = y := c1.1
              simp only [List.getElem?_cons_zero, Option.some.injEq] at hj
              omega
          refine ip.1.st ⟨by omega, Or.inr (Or.inl ?_)⟩
          rw [o5, if_neg (by omega), if_pos k36, e41, e22]
          unfold ccK
          rw [if_neg q29, slC_cc b38 (by omega)]
        · have f1 := fk.1 q25 q26
          rw [f1] at q29 ⊢
          exact ip.2 q29
