/-! equality: causes in both -/
theorem rt_n3 {δ : St} (l : LkM δ) (ar : ∀ f, 0 ≤ f → f < δ 0 18 → ArN δ f) {u x root o e c : Int} (u0 : 0 ≤ u) (u1 : u < δ 0 51) (rt : RtV δ u x root o) (e1 : δ 31 root ≤ e) (e2 : e ≤ root) (w : PcE δ x root e c) : δ 20 root ≠ 3 := fun r3 => by
  have at0 := rt.at l u0 u1
  have ixx := (l.2.2.2.2.2.2.2.2.1 x at0.1.1 at0.1.2).1.1
  have nd := l.nd at0.1.1 at0.1.2
  obtain ⟨k, k1, k2, k3⟩ := nd.at at0.2.1 at0.2.2
  obtain ⟨_, _, _, _, _, _, _, r31, _⟩ := nd.pt at0.2.1 at0.2.2
  by_cases w2 : e = root
  · have w3 := w.2
    rw [w2, r3] at w3
    omega
  · exact call_root nd (ar _ ixx.1 ixx.2) k1.1 k1.2 k2 k3 r3 ((root - e).toNat + 1) e (by omega) (by omega) (by omega) w.1
theorem ou_nn {δ : St} (l : LkM δ) {u x root o : Int} (u0 : 0 ≤ u) (u1 : u < δ 0 51) (rt : RtV δ u x root o) (c3 : δ 20 root = 3) : 0 ≤ outV δ x root o ∧ outV δ x root o < δ 0 51 := by
  have at0 := rt.at l u0 u1
  have ⟨i1, i2, i3, i4⟩ := l.2.2.2.2.2.2.2.2.2 u u0 u1
  have nd := l.nd at0.1.1 at0.1.2
  have ixx := (l.2.2.2.2.2.2.2.2.1 x at0.1.1 at0.1.2).1.1
  have oo : 0 ≤ o ∧ o < δ 6 (δ 21 root) := by
    rcases rt with ⟨a1, a2, a3, a4⟩ | ⟨a1, a2, a3, a4, ms, a5, a6⟩
    · subst a2
      have nv : nvN δ (δ 35 (δ 42 u)) = δ 4 (δ 35 (δ 42 u) + 1) - δ 4 (δ 35 (δ 42 u)) := rfl
      have df := nd.df (v := δ 4 (δ 35 (δ 42 u)) + δ 43 u) (by omega) (by omega)
      rw [a4, a3]
      rw [a3] at c3
      exact ⟨df.2.1, df.2.2.2 c3⟩
    · obtain ⟨_, _, _, _, _, w, _⟩ := nd.pt at0.2.1 at0.2.2
      have w5 := w.2.2.1 c3
      have sg := (l.1 _ w5.1 (by omega)).sz
      omega
  exact (output_eq l at0.1.1 at0.1.2 at0.2.1 at0.2.2 c3 oo).2
theorem ra {V : Int} {γ δ : St} {σ : Int → Int → Int} {κ : Int → Int} (h : LB V γ δ σ κ) {u c : Int} (u0 : 0 ≤ u) (u1 : u < δ 0 51) (hc : CsS δ u c) : Rp (Ed γ) u c := by
  have hh := h
  obtain ⟨l, ar, tb, f41, g34, ⟨k0, kV⟩, iy, _⟩ := h
  have m50 := l.2.2.1
  have fu := FU_v
  rcases hc with ⟨c1, c2⟩ | ⟨x, root, o, rt, hc⟩
  · have v := vr_59 hh u0 u1
    have ⟨i1, _⟩ := l.2.2.2.2.2.2.2.2.2 u u0 u1
    have nd := l.nd i1.1 i1.2
    have sz := nd.sz
    have nv : nvN δ (δ 35 (δ 42 u)) = δ 4 (δ 35 (δ 42 u) + 1) - δ 4 (δ 35 (δ 42 u)) := rfl
    have w := v.2.2.2
    unfold FlV at w
    have cc := ck_cv hh FU (δ 42 u) (δ 12 (δ 4 (δ 35 (δ 42 u)) + δ 43 u)) i1.1 i1.2 (by omega) (by omega)
    refine Rp.ed ⟨c2, Or.inr (Or.inl ?_)⟩
    rw [v.2.1, v.1, cc, ← c1]
  · rcases hc with ⟨e, e1, e2, pe⟩ | ⟨c3, ce⟩
    · have n3 := rt_n3 l (fun f q1 q2 => (ar f q1 q2).1) u0 u1 rt e1 e2 pe
      have at0 := rt.at l u0 u1
      have ixa := (l.2.2.2.2.2.2.2.2.1 x at0.1.1 at0.1.2).1
      have ixx := ixa.1
      have nd := l.nd at0.1.1 at0.1.2
      obtain ⟨k, k1, k2, k3⟩ := nd.at at0.2.1 at0.2.2
      have cl := (ar _ ixx.1 ixx.2).2 k k1.1 k1.2
      have arn := (ar _ ixx.1 ixx.2).1
      obtain ⟨_, _, _, _, _, _, _, r31, _⟩ := nd.pt at0.2.1 at0.2.2
      have gl := nd.gl k1.1 k1.2 k2 k3
      have er : psN δ (δ 35 x) ≤ e ∧ e < peN δ (δ 35 x) := by have := nd.eq k1.1 k1.2; omega
      have ps := ra_ps hh u0 u1 rt n3 ((root - e).toNat + 1) e (by omega) e1 e2 pe.1
      have lp := (iy x at0.1.1 at0.1.2).1.1 e er.1 er.2
      obtain ⟨⟨kd1, kd2⟩, _⟩ := tb.pt ixx.1 ixx.2 er.1 er.2
      obtain ⟨ks, g1, g2, g3, g4, g5, _⟩ := nd.pt er.1 er.2
      have cs := kd_c kd1 g5.1.1
      rcases pe.2 with ⟨q, ce⟩ | ⟨q, _, ce⟩ | ⟨q, ce⟩ | ⟨q, ce⟩
      · have w := lp.2.1 (by omega)
        rw [kd2] at w
        rw [ce, ← w]; exact ps.1
      · have w := lp.2.2.2.1 (by omega)
        rw [ce, ← w]; exact ps.1
      · obtain ⟨ms, _, _, _, p1, p2, p3, p4⟩ := cl.1 e (by omega) (by omega)
        have w21 := g5.2.2.2 q
        have p24 := (p2 q).2
        have o := fl_own nd arn k1.1 k1.2 (e := e) (by omega) (by omega) (by omega)
        have := ps.2 (by omega)
        rw [o, p24] at this
        rw [ce, idiv_2 w21.1 (by have := nd.sz; have nv : nvN δ (δ 35 x) = δ 4 (δ 35 x + 1) - δ 4 (δ 35 x) := rfl; omega)]
        exact this
      · have l1 : ks.length = 1 := g4.2.2.2.2 (by omega)
        have pf := (l.pf at0.1.1 at0.1.2 er.1 er.2).2.2.2.2 (by omega)
        match ks, g1, l1 with
        | [y], g1, _ =>
          have ey : δ 22 e = y := g1.1
          have fk := (fl_kid nd arn cl k1.1 k1.2 (e := e) (by omega) (by omega) g1 List.mem_cons_self).2.2.1 q
          rw [← ey] at fk
          obtain ⟨_, _, _, _, _, _, fv, _⟩ := nd.pt (e := δ 22 e) pf.1.1 (by omega)
          unfold FlV at fv
          have sz := nd.sz
          have nv : nvN δ (δ 35 x) = δ 4 (δ 35 x + 1) - δ 4 (δ 35 x) := rfl
          rw [idiv_2 fk (by omega)] at ce pf
          obtain ⟨ks', o1, o2, ⟨o3, o4, o5, o6⟩, _⟩ := lp.2.2.2.2 ⟨by omega, by omega, by omega, by omega, by omega, by omega⟩
          have e41 := f41 _ e ixx.1 ixx.2 er.1 er.2
          rw [if_pos q] at e41
          refine ps.1.st ⟨by omega, Or.inr (Or.inl ?_)⟩
          rw [o5, if_neg (by omega), if_pos (by omega), e41, ce]
          unfold ccK
          rw [if_neg (by omega), slC_cc ixa.2.1.1 (by omega)]
    · have v := vr_55 hh u0 u1 rt
      rw [if_pos c3] at v
      have := ou_nn l u0 u1 rt c3
      exact Rp.ed ⟨by omega, Or.inl (by rw [v, ce])⟩
/-- the root of a root is itself -/
theorem RtV.rr {δ : St} (l : LkM δ) (ar : ∀ f, 0 ≤ f → f < δ 0 18 → ArN δ f) {u x root o : Int} (u0 : 0 ≤ u) (u1 : u < δ 0 51) (rt : RtV δ u x root o) : δ 30 root = root := by
  have at0 := rt.at l u0 u1
  have ⟨i1, i2, i3, i4⟩ := l.2.2.2.2.2.2.2.2.2 u u0 u1
  have ixx := (l.2.2.2.2.2.2.2.2.1 x at0.1.1 at0.1.2).1.1
  have nd := l.nd at0.1.1 at0.1.2
  have arn := ar _ ixx.1 ixx.2
  rcases rt with ⟨a1, a2, a3, a4⟩ | ⟨a1, a2, a3, a4, ms, a5, a6⟩
  · rw [← a2] at a1 i4
    obtain ⟨k, i, b1, b2, b3, b4, b5⟩ := nd.db a1 i4
    rw [b4] at a3
    rw [a3]
    exact (arn k b1.1 b1.2).2.1
  · have x0 : 0 < δ 42 u := by
      by_cases w : δ 42 u = 0
      · rw [w, l.2.2.2.2.2.2.2.1.2.1] at a2; omega
      · omega
    have ⟨o1, o2, o3, o4⟩ := (l.2.2.2.2.2.2.2.2.1 (δ 42 u) i1.1 i1.2).2.2.1 x0
    rw [← a3] at o2
    obtain ⟨k, k1, k2, k3⟩ := nd.at o2.1 o2.2
    have kd := ((arn k k1.1 k1.2).2.2 _ k2 k3 ms a5 _ root a6).2
    unfold paV at kd
    rw [if_pos (Or.inr (Or.inl o3))] at kd
    exact kd
theorem RtV.ex {δ : St} (l : LkM δ) {u : Int} (u0 : 0 ≤ u) (u1 : u < δ 0 51) (q : 0 < δ 42 u ∨ δ 5 (δ 35 (δ 42 u)) ≤ δ 43 u) : ∃ x root o, RtV δ u x root o := by
  have ⟨i1, i2, i3, i4⟩ := l.2.2.2.2.2.2.2.2.2 u u0 u1
  by_cases w : δ 5 (δ 35 (δ 42 u)) ≤ δ 43 u
  · exact ⟨_, _, _, Or.inl ⟨w, rfl, rfl, rfl⟩⟩
  · have ⟨o1, o2, o3, o4⟩ := (l.2.2.2.2.2.2.2.2.1 (δ 42 u) i1.1 i1.2).2.2.1 (by omega)
    have nd := l.nd (x := δ 36 (δ 42 u)) (by omega) (by omega)
    obtain ⟨ks, c1, c2, c3, c4, c5, c6, c7, c8⟩ := nd.pt o2.1 o2.2
    have c8 := c8 o3
    rw [o4] at c8
    have lt : (δ 43 u).toNat < ks.length := by omega
    exact ⟨_, ks[(δ 43 u).toNat], 0, Or.inr ⟨by omega, by omega, rfl, rfl, ks, c1, List.getElem?_eq_getElem lt⟩⟩
/-- a slot of a part of the variable u -/
def OwS (V : Int) (γ δ : St) (σ : Int → Int → Int) (u s : Int) : Prop := ∃ x root o e, RtV δ u x root o ∧ δ 20 root ≠ 3 ∧ (δ 31 root ≤ e ∧ e ≤ root ∧ δ 30 e = root) ∧ (γ 38 e ≠ 2 ∧ γ 38 e ≠ 27 ∧ γ 38 e ≠ 43) ∧ V < σ x e ∧ s = σ x e
theorem rb_src {V : Int} {γ δ : St} {σ : Int → Int → Int} {κ : Int → Int} (h : LB V γ δ σ κ) {u x root o : Int} (u0 : 0 ≤ u) (u1 : u < δ 0 51) (rt : RtV δ u x root o) (n3 : δ 20 root ≠ 3) : ∀ (n : Nat) (e : Int), e - δ 31 root < n → δ 31 root ≤ e → e ≤ root → δ 30 e = root → ((0 ≤ σ x e ∧ σ x e < V) ∧ CsS δ u (σ x e)) ∨ OwS V γ δ σ u (σ x e) := by
  have at0 := rt.at h.1 u0 u1
  have nn := sg_nn h at0.1.1 at0.1.2
  obtain ⟨l, ar, tb, f41, g34, ⟨k0, kV⟩, iy, _⟩ := h
  have ixx := (l.2.2.2.2.2.2.2.2.1 x at0.1.1 at0.1.2).1.1
  have nd := l.nd at0.1.1 at0.1.2
  obtain ⟨k, k1, k2, k3⟩ := nd.at at0.2.1 at0.2.2
  have arn := (ar _ ixx.1 ixx.2).1
  obtain ⟨_, _, _, _, _, _, _, r31, _⟩ := nd.pt at0.2.1 at0.2.2
  have gl := nd.gl k1.1 k1.2 k2 k3
  have eqk := nd.eq k1.1 k1.2
  intro n
  induction n with
  | zero => intro e w1 w2; exfalso; omega
  | succ n ih =>
    intro e w1 w2 w3 w4
    have er : psN δ (δ 35 x) ≤ e ∧ e < peN δ (δ 35 x) := by omega
    have lp := (iy x at0.1.1 at0.1.2).1.1 e er.1 er.2
    obtain ⟨⟨kd1, kd2⟩, _⟩ := tb.pt ixx.1 ixx.2 er.1 er.2
    obtain ⟨ks, g1, g2, g3, g4, g5, _⟩ := nd.pt er.1 er.2
    have cs := kd_c kd1 g5.1.1
    have ne := nn ((e - psN δ (δ 35 x)).toNat + 1) e (by omega) er.1 er.2
    have pf := l.pf at0.1.1 at0.1.2 er.1 er.2
    by_cases q2 : γ 38 e = 2
    · have w := lp.2.1 q2
      rw [kd2] at w
      have := pf.2.2.1 (by omega)
      refine Or.inl ⟨by rw [w]; omega, Or.inr ⟨x, root, o, rt, Or.inl ⟨e, w2, w3, w4, Or.inl ⟨by omega, w⟩⟩⟩⟩
    · by_cases q43 : γ 38 e = 43
      · have w := lp.2.2.2.1 q43
        have c3 : δ 20 e = 3 := by omega
        have w5 := g5.2.2.1 c3
        have sg := (l.1 _ w5.1 (by omega)).sz
        have oe := (output_eq l at0.1.1 at0.1.2 er.1 er.2 c3 (i := 0) (by omega)).2
        refine Or.inl ⟨by rw [w]; omega, Or.inr ⟨x, root, o, rt, Or.inl ⟨e, w2, w3, w4, Or.inr (Or.inl ⟨c3, fun q => n3 (by rw [← q]; exact c3), w⟩)⟩⟩⟩
      · by_cases q27 : γ 38 e = 27
        · have w := lp.2.2.1 q27
          have c26 : δ 20 e = 26 := by omega
          have l1 : ks.length = 1 := g4.2.2.2.2 (by omega)
          have ns := nestG (nd.gn k1.1 k1.2) ((root - δ 19 k).toNat + 1) root e (by omega) k3 (by omega) (by omega) w3
          match ks, g1, g2, l1 with
          | [y], g1, g2, _ =>
            have ey : δ 22 e = y := g1.1
            have m := g2.mem y List.mem_cons_self
            have kd := ((arn k k1.1 k1.2).2.2 e (by omega) (by omega) [y] g1 0 y rfl).2
            unfold paV at kd
            rw [if_neg (by omega)] at kd
            rw [w, ey]
            exact ih y (by omega) (by omega) (by omega) (by omega)
        · refine Or.inr ⟨x, root, o, e, rt, n3, ⟨w2, w3, w4⟩, ⟨q2, q27, q43⟩, ?_, rfl⟩
          by_cases qn : γ 38 e = 3 ∨ γ 38 e = 40 ∨ γ 38 e = 41
          · exact (lp.1 qn).1.1
          · obtain ⟨_, _, w, _⟩ := lp.2.2.2.2 ⟨q2, by omega, q27, by omega, by omega, q43⟩
            exact w.1
/-- from a slot of u on -/
theorem rb_ow {V : Int} {γ δ : St} {σ : Int → Int → Int} {κ : Int → Int} (h : LB V γ δ σ κ) {u s c : Int} (u0 : 0 ≤ u) (u1 : u < δ 0 51) (ow : OwS V γ δ σ u s) (ed : Ed γ s c) : ((0 ≤ c ∧ c < V) ∧ CsS δ u c) ∨ OwS V γ δ σ u c := by
  have hh := h
  obtain ⟨x, root, o, e, rt, n3, ⟨w2, w3, w4⟩, ⟨q2, q27, q43⟩, sV, es⟩ := ow
  have at0 := rt.at h.1 u0 u1
  have src := rb_src hh u0 u1 rt n3
  obtain ⟨l, ar, tb, f41, g34, ⟨k0, kV⟩, iy, _⟩ := h
  have ixa := (l.2.2.2.2.2.2.2.2.1 x at0.1.1 at0.1.2).1
  have ixx := ixa.1
  have nd := l.nd at0.1.1 at0.1.2
  obtain ⟨k, k1, k2, k3⟩ := nd.at at0.2.1 at0.2.2
  have arn := (ar _ ixx.1 ixx.2).1
  have cl := (ar _ ixx.1 ixx.2).2 k k1.1 k1.2
  obtain ⟨_, _, _, _, _, _, _, r31, _⟩ := nd.pt at0.2.1 at0.2.2
  have gl := nd.gl k1.1 k1.2 k2 k3
  have eqk := nd.eq k1.1 k1.2
  have er : psN δ (δ 35 x) ≤ e ∧ e < peN δ (δ 35 x) := by omega
  have lp := (iy x at0.1.1 at0.1.2).1.1 e er.1 er.2
  obtain ⟨⟨kd1, kd2⟩, _⟩ := tb.pt ixx.1 ixx.2 er.1 er.2
  obtain ⟨ks, g1, g2, g3, g4, g5, _⟩ := nd.pt er.1 er.2
  have cs := kd_c kd1 g5.1.1
  have ns := nestG (nd.gn k1.1 k1.2) ((root - δ 19 k).toNat + 1) root e (by omega) k3 (by omega) (by omega) w3
  obtain ⟨c0, ed⟩ := ed
  rw [es] at ed
  by_cases qn : γ 38 e = 3 ∨ γ 38 e = 40 ∨ γ 38 e = 41
  · obtain ⟨_, _, _, a1, a2, a3⟩ := lp.1 qn
    omega
  · obtain ⟨ks', o1, o2, ⟨o3, o4, o5, o6⟩, _⟩ := lp.2.2.2.2 ⟨q2, by omega, q27, by omega, by omega, q43⟩
    rw [Ch.uniq o1 g1] at o4 o5 o6
    -- a side with the same root
    have kid : ∀ j : Nat, c = sdF (σ x) ks j → ¬ (δ 20 e = 24 ∨ δ 20 e = 3 ∨ δ 20 e = 6 ∧ (j : Int) = 1) → ((0 ≤ c ∧ c < V) ∧ CsS δ u c) ∨ OwS V γ δ σ u c := fun j hc np => by
      unfold sdF at hc
      cases hj : ks[j]? with
      | none => rw [hj] at hc; have hc : c = -1 := hc; omega
      | some y =>
        rw [hj] at hc
        have hc : c = σ x y := hc
        have m := g2.mem y (List.mem_of_getElem? hj)
        have kd := ((arn k k1.1 k1.2).2.2 e (by omega) (by omega) ks g1 j y hj).2
        unfold paV at kd
        rw [if_neg np] at kd
        rw [hc]
        exact src ((y - δ 31 root).toNat + 1) y (by omega) (by omega) (by omega) (by omega)
    rcases ed with ed | ed | ed
    · by_cases q35 : γ 38 e = 35
      · rw [if_pos q35] at o4; omega
      · rw [if_neg q35] at o4
        exact kid 0 (by omega) (by omega)
    · by_cases q37 : γ 38 e = 37
      · rw [if_pos q37] at o5; omega
      · rw [if_neg q37] at o5
        by_cases q36 : γ 38 e = 36
        · rw [if_pos q36] at o5
          have c25 : δ 20 e = 25 := by omega
          have l1 : ks.length = 1 := g4.2.2.2.2 (by omega)
          have pf := (l.pf at0.1.1 at0.1.2 er.1 er.2).2.2.2.2 (by omega)
          match ks, g1, l1 with
          | [y], g1, _ =>
            have ey : δ 22 e = y := g1.1
            have fk := (fl_kid nd arn cl k1.1 k1.2 (e := e) (by omega) (by omega) g1 List.mem_cons_self).2.2.1 c25
            rw [← ey] at fk
            obtain ⟨_, _, _, _, _, _, fv, _⟩ := nd.pt (e := δ 22 e) pf.1.1 (by omega)
            unfold FlV at fv
            have sz := nd.sz
            have nv : nvN δ (δ 35 x) = δ 4 (δ 35 x + 1) - δ 4 (δ 35 x) := rfl
            have e41 := f41 _ e ixx.1 ixx.2 er.1 er.2
            rw [if_pos c25] at e41
            have id := idiv_2 fk (show δ 29 (δ 22 e) ≤ 2147483647 by omega)
            have ec : c = δ 38 x + idiv (δ 29 (δ 22 e)) 2 := by
              rw [← ed, o5, e41, id]
              unfold ccK
              rw [if_neg (by omega), slC_cc ixa.2.1.1 (by omega)]
            exact Or.inl ⟨by rw [ec]; omega, Or.inr ⟨x, root, o, rt, Or.inl ⟨e, w2, w3, w4, Or.inr (Or.inr (Or.inr ⟨c25, ec⟩))⟩⟩⟩
        · rw [if_neg q36] at o5
          by_cases q35 : γ 38 e = 35
          · have l1 : ks.length = 1 := g4.2.2.2.2 (by omega)
            have : sdF (σ x) ks 1 = -1 := by
              unfold sdF
              rw [List.getElem?_eq_none (by omega)]
            omega
          · exact kid 1 (by omega) (by omega)
    · by_cases q4 : δ 20 e = 4
      · exact kid 2 (by omega) (by omega)
      · have l2 : ks.length ≤ 2 := by
          by_cases w5 : δ 20 e ≤ 21
          · have := g4.2.2.2.1 (by omega); omega
          · have := g4.2.2.2.2 (by omega); omega
        have : sdF (σ x) ks 2 = -1 := by
          unfold sdF
          rw [List.getElem?_eq_none (by omega)]
        omega
/-- from a variable on -/
theorem rb_v {V : Int} {γ δ : St} {σ : Int → Int → Int} {κ : Int → Int} (h : LB V γ δ σ κ) {u c : Int} (u0 : 0 ≤ u) (u1 : u < δ 0 51) (ed : Ed γ u c) (cr : ∀ c, CsS δ u c → c < V) : ((0 ≤ c ∧ c < V) ∧ CsS δ u c) ∨ OwS V γ δ σ u c := by
  have hh := h
  obtain ⟨l, ar, tb, f41, g34, ⟨k0, kV⟩, iy, mi⟩ := h
  have m50 := l.2.2.1
  have fu := FU_v
  have ⟨i1, i2, i3, i4⟩ := l.2.2.2.2.2.2.2.2.2 u u0 u1
  obtain ⟨c0, ed⟩ := ed
  have v := vr_59 hh u0 u1
  rcases ed with ed | ed | ed
  · by_cases q : 0 < δ 42 u ∨ δ 5 (δ 35 (δ 42 u)) ≤ δ 43 u
    · obtain ⟨x, root, o, rt⟩ := RtV.ex l u0 u1 q
      have w := vr_55 hh u0 u1 rt
      by_cases c3 : δ 20 root = 3
      · rw [if_pos c3] at w
        have := ou_nn l u0 u1 rt c3
        exact Or.inl ⟨by omega, Or.inr ⟨x, root, o, rt, Or.inr ⟨c3, by omega⟩⟩⟩
      · rw [if_neg c3] at w
        have at0 := rt.at l u0 u1
        have nd := l.nd at0.1.1 at0.1.2
        obtain ⟨_, _, d2, _, _, _, _, r31, _⟩ := nd.pt at0.2.1 at0.2.2
        have le := d2.le
        have := rb_src hh u0 u1 rt c3 ((root - δ 31 root).toNat + 1) root (by omega) (by omega) (Int.le_refl _) (rt.rr l (fun f q1 q2 => (ar f q1 q2).1) u0 u1)
        rw [← w, ed] at this
        exact this
    · have e42 : δ 42 u = 0 := by omega
      have m0 := l.2.2.2.2.2.2.2.1
      have ix := (l.2.2.2.2.2.2.2.2.1 _ i1.1 i1.2).1.1
      have nt := tb.1 _ ix.1 ix.2
      rw [e42] at i2 nt q
      have := mi u u0 (by rw [nt.1.2.1]; omega)
      omega
  · have nd := l.nd i1.1 i1.2
    have sz := nd.sz
    have nv : nvN δ (δ 35 (δ 42 u)) = δ 4 (δ 35 (δ 42 u) + 1) - δ 4 (δ 35 (δ 42 u)) := rfl
    have w := v.2.2.2
    unfold FlV at w
    have cc := ck_cv hh FU (δ 42 u) (δ 12 (δ 4 (δ 35 (δ 42 u)) + δ 43 u)) i1.1 i1.2 (by omega) (by omega)
    have ec : c = clV δ FU (δ 42 u) (δ 12 (δ 4 (δ 35 (δ 42 u)) + δ 43 u)) := by rw [← cc, ← v.1, ← v.2.1, ed]
    have k : CsS δ u c := Or.inl ⟨ec, c0⟩
    exact Or.inl ⟨⟨c0, cr c k⟩, k⟩
  · omega
/-- both reach the same -/
theorem re_iff {V : Int} {γ δ : St} {σ : Int → Int → Int} {κ : Int → Int} (h : LB V γ δ σ κ) (cr : ∀ u c, 0 ≤ u → u < V → CsS δ u c → 0 ≤ c ∧ c < V) {v w : Int} (v0 : 0 ≤ v) (v1 : v < V) (w1 : w < V) : Rp (Ed γ) v w ↔ Rp (CsS δ) v w := by
  have kV : V = δ 0 51 := h.2.2.2.2.2.1.2
  refine ⟨fun ⟨c, e1, e2⟩ => ?_, fun ⟨c, e1, e2⟩ => ?_⟩
  · have rng : ∀ u, Rc (CsS δ) v u → 0 ≤ u ∧ u < V := fun u r => Rc.cl (P := fun u => 0 ≤ u ∧ u < V) (fun a b p q => cr a b p.1 p.2 q) r ⟨v0, v1⟩
    have T := Rc.cl (E := Ed γ) (P := fun s => ((0 ≤ s ∧ s < V) ∧ Rp (CsS δ) v s) ∨ ∃ u, Rc (CsS δ) v u ∧ OwS V γ δ σ u s) (fun a b p q => ?_) e2 ?_
    · rcases T with T | ⟨u, _, x, root, o, e, _, _, _, _, t1, t2⟩
      · exact T.2
      · exfalso; omega
    · rcases p with ⟨p1, p2⟩ | ⟨u, p1, p2⟩
      · rcases rb_v h p1.1 (by omega) q (fun c k => (cr a c p1.1 p1.2 k).2) with ⟨k1, k2⟩ | k
        · exact Or.inl ⟨k1, p2.st k2⟩
        · obtain ⟨d, d1, d2⟩ := p2
          exact Or.inr ⟨a, (Rc.ed d1).tr d2, k⟩
      · have ru := rng u p1
        rcases rb_ow h ru.1 (by omega) p2 q with ⟨k1, k2⟩ | k
        · exact Or.inl ⟨k1, Rp.mk p1 k2⟩
        · exact Or.inr ⟨u, p1, k⟩
    · rcases rb_v h v0 (by omega) e1 (fun c k => (cr v c v0 v1 k).2) with ⟨k1, k2⟩ | k
      · exact Or.inl ⟨k1, Rp.ed k2⟩
      · exact Or.inr ⟨v, Rc.rf, k⟩
  · have T := Rc.cl (E := CsS δ) (P := fun s => (0 ≤ s ∧ s < V) ∧ Rp (Ed γ) v s) (fun a b p q => ?_) e2 ⟨cr v c v0 v1 e1, ra h v0 (by omega) e1⟩
    · exact T.2
    · refine ⟨cr a b p.1.1 p.1.2 q, ?_⟩
      obtain ⟨d, d1, d2⟩ := p.2
      obtain ⟨f, f1, f2⟩ := ra h p.1.1 (by omega) q
      exact ⟨d, d1, d2.tr ((Rc.ed f1).tr f2)⟩
