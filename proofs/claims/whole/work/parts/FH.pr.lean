/-! the reference's run against what it means: presence and parts -/
def onV (D : St) (on : Int → Int → Prop) (v : Int) : Prop := on (D 42 v) (D 12 (D 4 (D 35 (D 42 v)) + D 43 v))
def tyV (D : St) (v : Int) : Int := D 14 (D 4 (D 35 (D 42 v)) + D 43 v)
/-- what an instant means -/
def RfS (D : St) (u : Int → Int) (w : Int → Int → Int) (on : Int → Int → Prop) (M : Int → Int) (τ : Int → Int → Int) : Prop := LkM D ∧ (∀ f, 0 ≤ f → f < D 0 18 → ArN D f ∧ ∀ k, D 7 f ≤ k → k < D 7 (f + 1) → ClE D (D 4 f) k) ∧ (∀ x e, 0 ≤ x → x < D 0 50 → psN D (D 35 x) ≤ e → e < peN D (D 35 x) → WkE D u w M x e) ∧ (∀ v x root o, 0 ≤ v → v < D 0 51 → RtV D v x root o → u v = if D 20 root = 3 then u (outV D x root o) else w x root) ∧ (on 0 (-1) ∧ (∀ x, 0 < x → x < D 0 50 → (on x (-1) ↔ on (D 36 x) (D 29 (D 37 x)))) ∧ ∀ x c, 0 ≤ x → x < D 0 50 → 0 ≤ c → c < 2 * nvN D (D 35 x) → (on x c ↔ u (D 38 x + c / 2) = c % 2 ∧ onV D on (D 38 x + c / 2))) ∧ (∀ f k, 0 ≤ f → f < D 0 18 → D 7 f ≤ k → k < D 7 (f + 1) → (∀ e, D 19 k ≤ e → e ≤ D 17 k → (D 20 e = 1 → Bl (D 21 e)) ∧ ∃ ms, Ch (D 23) (D 22 e) ms ∧ TyQ D (τ k) (D 4 f) e ms) ∧ ∀ i, D 16 k ≤ i → i < D 16 (k + 1) → D 14 (D 4 f + D 18 i) = if D 20 (D 17 k) = 3 then D 14 (D 4 (D 21 (D 17 k)) + D 5 (D 21 (D 17 k)) + (i - D 16 k)) else τ k (D 17 k)) ∧ ∀ x k e, 0 ≤ x → x < D 0 50 → D 7 (D 35 x) ≤ k → k < D 7 (D 35 x + 1) → D 19 k ≤ e → e ≤ D 17 k → τ k e = 1 → D 20 e = 6 ∨ D 20 e = 24 ∨ D 20 e = 25 → Bl (M (D 39 x + D 25 e))
/-- the variables of H are done with -/
def HdV (D δ : St) (u : Int → Int) (on : Int → Int → Prop) (H : Int → Prop) : Prop := ∀ v, 0 ≤ v → v < D 0 51 → (δ 55 v = 0 ∨ δ 55 v = 1) ∧ (H v → (δ 55 v = 1 ↔ onV D on v) ∧ (onV D on v → δ 51 v = u v ∧ (tyV D v = 1 → Bl (u v))))
section RF
variable {D δ : St} {u M : Int → Int} {w : Int → Int → Int} {on : Int → Int → Prop} {τ : Int → Int → Int} {H : Int → Prop}
theorem KM.fL (km : KM D δ) : FL D δ := fun j k q1 q2 => km j k (by omega) (by omega) (by omega) (by omega)
theorem KM.rk (km : KM D δ) : ∀ j k, 2 ≤ j → j ≤ 43 → δ j k = D j k := fun j k q1 q2 => km j k (by omega) (by omega) (by omega) (by omega)
theorem vx (l : LkM D) {x i : Int} (h0 : 0 ≤ x) (h1 : x < D 0 50) (i0 : 0 ≤ i) (i1 : i < nvN D (D 35 x)) : D 42 (D 38 x + i) = x ∧ D 43 (D 38 x + i) = i := (l.2.2.2.2.2.2.2.2.1 x h0 h1).1.2.2.2.2 i i0 i1
theorem onV_x (l : LkM D) {x i : Int} (h0 : 0 ≤ x) (h1 : x < D 0 50) (i0 : 0 ≤ i) (i1 : i < nvN D (D 35 x)) : (onV D on (D 38 x + i) ↔ on x (D 12 (D 4 (D 35 x) + i))) ∧ tyV D (D 38 x + i) = D 14 (D 4 (D 35 x) + i) := by
  have v := vx l h0 h1 i0 i1
  unfold onV tyV
  rw [v.1, v.2]
  exact ⟨Iff.rfl, rfl⟩
theorem pr_on (R : RfS D u w on M τ) (km : KM D δ) (hd : HdV D δ u on H) : ∀ (m : Nat) (x c : Int), 0 ≤ x → x < D 0 50 → x < m → FlV (nvN D (D 35 x)) c → (clV D m x c = -1 ∨ H (clV D m x c)) → ∀ n : Nat, 60 - D 35 x ≤ n → (prF n δ x c = 1 ↔ on x c) := by
  obtain ⟨l, ar, wk, vr, ⟨o0, o1, o2⟩, ty, mb⟩ := R
  have m0 := l.2.2.2.2.2.2.2.1
  have rk := km.rk
  intro m
  induction m with
  | zero => intro x c h0 h1 h2; exfalso; omega
  | succ m ih =>
    intro x c h0 h1 h2 hf hc n hn
    have n60 := l.n60 h0 h1
    have nd := l.nd h0 h1
    have sz := nd.sz
    have nv : nvN D (D 35 x) = D 4 (D 35 x + 1) - D 4 (D 35 x) := rfl
    have hc : (if c ≠ -1 then D 38 x + idiv c 2 else if D 36 x < 0 then -1 else clV D m (D 36 x) (D 29 (D 37 x))) = -1 ∨ H (if c ≠ -1 then D 38 x + idiv c 2 else if D 36 x < 0 then -1 else clV D m (D 36 x) (D 29 (D 37 x))) := hc
    cases n with
    | zero => exfalso; omega
    | succ n =>
      show (if c ≠ -1 then (if δ 55 (δ 38 x + idiv c 2) = 0 then 0 else if δ 51 (δ 38 x + idiv c 2) ≠ iand c 1 then 0 else 1) else if δ 36 x < 0 then 1 else prF n δ (δ 36 x) (δ 29 (δ 37 x)) : Int) = 1 ↔ on x c
      rw [rk 38 x (by omega) (by omega), rk 36 x (by omega) (by omega), rk 37 x (by omega) (by omega), rk 29 _ (by omega) (by omega)]
      by_cases q : c ≠ -1
      · rw [if_pos q] at hc ⊢
        have c0 : 0 ≤ c ∧ c < 2 * nvN D (D 35 x) := by unfold FlV at hf; omega
        rw [idiv_2 c0.1 (by omega)] at hc ⊢
        rw [iand_one c0.1 (by omega)]
        have vr := l.var h0 h1 (i := c / 2) (by omega) (by omega)
        have hv := hd _ vr.1 vr.2
        have hH : H (D 38 x + c / 2) := by
          rcases hc with hc | hc
          · omega
          · exact hc
        have h2 := hv.2 hH
        rw [o2 x c h0 h1 c0.1 c0.2]
        by_cases z : δ 55 (D 38 x + c / 2) = 0
        · rw [if_pos z]
          exact ⟨fun y => absurd y (by decide), fun y => by have := h2.1.2 y.2; omega⟩
        · rw [if_neg z]
          have z1 : δ 55 (D 38 x + c / 2) = 1 := by have := hv.1; omega
          have ov := h2.1.1 z1
          have uv := (h2.2 ov).1
          by_cases z2 : δ 51 (D 38 x + c / 2) ≠ c % 2
          · rw [if_pos z2]
            exact ⟨fun y => absurd y (by decide), fun y => absurd (uv.trans y.1) z2⟩
          · rw [if_neg z2]
            exact ⟨fun _ => ⟨by omega, ov⟩, fun _ => rfl⟩
      · rw [if_neg q] at hc ⊢
        have ec : c = -1 := by omega
        rw [ec]
        by_cases x0 : x = 0
        · rw [x0, m0.2.1, if_pos (by omega)]
          exact ⟨fun _ => o0, fun _ => rfl⟩
        · have ⟨p1, p2, p3, p4⟩ := (l.2.2.2.2.2.2.2.2.1 x h0 h1).2.2.1 (by omega)
          rw [if_neg (by omega)] at hc ⊢
          rw [o1 x (by omega) h1]
          have no := l.nd (x := D 36 x) (by omega) (by omega)
          obtain ⟨ks, _, _, _, _, w3, fl, _⟩ := no.pt p2.1 p2.2
          have w4 := w3.2.2.1 p3
          exact ih (D 36 x) _ (by omega) (by omega) (by omega) fl hc n (by omega)
theorem pr_on2 (R : RfS D u w on M τ) (km : KM D δ) (hd : HdV D δ u on H) {m : Nat} {x c : Int} (h0 : 0 ≤ x) (h1 : x < D 0 50) (h2 : x < m) (hf : FlV (nvN D (D 35 x)) c) (hc : clV D m x c = -1 ∨ H (clV D m x c)) : (prM δ x c ≠ 0 ↔ on x c) := by
  have n60 := R.1.n60 h0 h1
  have p := pr_on R km hd m x c h0 h1 h2 hf hc 100 (by omega)
  have b := prF_b 100 δ x c
  unfold prM
  rw [← p]
  omega
/-- clocks of the sides -/
theorem fl_25 {f k e : Int} (nd : NdS D f) (ar : ArN D f) (cl : ClE D (D 4 f) k) (k1 : D 7 f ≤ k) (k2 : k < D 7 (f + 1)) (e1 : D 19 k ≤ e) (e2 : e ≤ D 17 k) (q : D 20 e = 25) : 0 ≤ D 29 (D 22 e) ∧ D 29 e = D 12 (D 4 f + D 29 (D 22 e) / 2) := by
  obtain ⟨ms, d1, d2, d4, p1, p2, p3, p4⟩ := cl.1 e e1 e2
  have m := d2 _ (d4 (Or.inl q))
  have p := p3 q
  have o1 := fl_own nd ar k1 k2 (e := D 22 e) (by omega) (by omega) (by omega)
  have eq := nd.eq k1 k2
  obtain ⟨_, _, _, _, _, _, fv, _⟩ := nd.pt (e := D 22 e) (by omega) (by omega)
  rw [o1] at fv ⊢
  have nv : nvN D f = D 4 (f + 1) - D 4 f := rfl
  have ck := nd.ck (v := D 4 f + D 24 (D 22 e) / 2) (by omega) (by unfold FlV at fv; omega)
  have o2 := fl_own nd ar k1 k2 (e := e) e1 e2 (by unfold FlV at ck; omega)
  exact ⟨p.1, by rw [o2]; exact p.2⟩
theorem kid_on (R : RfS D u w on M τ) {x k e y : Int} {ms : List Int} (x0 : 0 ≤ x) (x1 : x < D 0 50) (k1 : D 7 (D 35 x) ≤ k) (k2 : k < D 7 (D 35 x + 1)) (e1 : D 19 k ≤ e) (e2 : e ≤ D 17 k) (c1 : Ch (D 23) (D 22 e) ms) (my : y ∈ ms) (q : D 20 e ≠ 25) (h : on x (D 29 e)) : on x (D 29 y) := by
  obtain ⟨l, ar, wk, vr, ⟨o0, o1, o2⟩, ty, mb⟩ := R
  have ixx := (l.2.2.2.2.2.2.2.2.1 x x0 x1).1.1
  have nd := l.nd x0 x1
  have an := ar _ ixx.1 ixx.2
  have fk := fl_kid nd an.1 (an.2 k k1 k2) k1 k2 e1 e2 c1 my
  by_cases q2 : D 20 e = 26
  · have eq := nd.eq k1 k2
    obtain ⟨_, _, _, _, _, w3, _⟩ := nd.pt (e := e) (by omega) (by omega)
    have w4 := w3.2.2.2 q2
    rw [fk.2.2.2 q2] at h
    have a := ((o2 x _ x0 x1 w4.1 w4.2).1 h).2
    rw [(onV_x (on := on) l x0 x1 (i := D 21 e / 2) (by omega) (by omega)).1] at a
    rw [fk.2.1 q2]; exact a
  · rw [fk.1 q q2]; exact h
/-- what a part looks at -/
def NdL (D : St) (x e c : Int) : Prop := (D 20 e = 2 ∧ c = D 38 x + D 21 e) ∨ (D 20 e = 3 ∧ c = outV D x e 0) ∨ (D 20 e = 25 ∧ c = D 38 x + D 29 (D 22 e) / 2)
/-- the outputs of a call are there where the call is -/
theorem out_on (R : RfS D u w on M τ) {x e o : Int} (x0 : 0 ≤ x) (x1 : x < D 0 50) (e1 : psN D (D 35 x) ≤ e) (e2 : e < peN D (D 35 x)) (q : D 20 e = 3) (o0 : 0 ≤ o) (o1 : o < D 6 (D 21 e)) : (onV D on (outV D x e o) ↔ on x (D 29 e)) ∧ tyV D (outV D x e o) = D 14 (D 4 (D 21 e) + D 5 (D 21 e) + o) ∧ 0 ≤ outV D x e o ∧ outV D x e o < D 0 51 := by
  obtain ⟨l, ar, wk, vr, ⟨p0, p1, p2⟩, ty, mb⟩ := R
  obtain ⟨z, z1, z2, z3, z4, z5⟩ := (l.2.2.2.2.2.2.2.2.1 x x0 x1).2.2.2 e e1 e2 q
  have nz := l.nd (x := z) (by omega) z2.2
  have n3 : nvN D (D 35 z) = nvN D (D 21 e) := by rw [z3]
  rw [z3] at nz
  have sz := nz.sz
  have nv : nvN D (D 21 e) = D 4 (D 21 e + 1) - D 4 (D 21 e) := rfl
  have ee : outV D x e o = D 38 z + (D 5 (D 21 e) + o) := by unfold outV; rw [z1]; omega
  have vv := l.var (x := z) (by omega) z2.2 (i := D 5 (D 21 e) + o) (by omega) (by omega)
  have ov := onV_x (on := on) l (x := z) (by omega) z2.2 (i := D 5 (D 21 e) + o) (by omega) (by omega)
  have c0 := nz.c0 (v := D 4 (D 21 e) + (D 5 (D 21 e) + o)) (by omega) (by omega)
  rw [z3, c0, p1 z (by omega) z2.2, z4, z5] at ov
  rw [ee]
  exact ⟨ov.1, by rw [ov.2, show D 4 (D 21 e) + (D 5 (D 21 e) + o) = D 4 (D 21 e) + D 5 (D 21 e) + o by omega], vv⟩
theorem wk_at (R : RfS D u w on M τ) (km : KM D δ) (hM : ∀ k, δ 52 k = M k) (hd : HdV D δ u on H) {x k e : Int} (x0 : 0 ≤ x) (x1 : x < D 0 50) (k1 : D 7 (D 35 x) ≤ k) (k2 : k < D 7 (D 35 x + 1)) (e1 : D 19 k ≤ e) (e2 : e ≤ D 17 k) (hon : on x (D 29 e)) (hc : ∀ c, NdL D x e c → H c) (hk : ∀ (ms : List Int) (j : Nat) y, Ch (D 23) (D 22 e) ms → ms[j]? = some y → ¬ (D 20 e = 24 ∨ D 20 e = 3 ∨ D 20 e = 6 ∧ (j : Int) = 1) → on x (D 29 y) → δ 54 y = w x y ∧ (τ k y = 1 → Bl (w x y))) : pc (f_M_work δ x e) (fun z => z.2 = setA δ 54 e (w x e)) ∧ (τ k e = 1 → Bl (w x e)) := by
  have R' := R
  obtain ⟨l, ar, wk, vr, ⟨p0, p1, p2⟩, ty, mb⟩ := R
  have fl := km.fL
  have rk := km.rk
  have ixx := (l.2.2.2.2.2.2.2.2.1 x x0 x1).1.1
  have nd := l.nd x0 x1
  have sz := nd.sz
  have nv : nvN D (D 35 x) = D 4 (D 35 x + 1) - D 4 (D 35 x) := rfl
  have an := ar _ ixx.1 ixx.2
  have cl := an.2 k k1 k2
  have eq := nd.eq k1 k2
  have er : psN D (D 35 x) ≤ e ∧ e < peN D (D 35 x) := by omega
  obtain ⟨ks, g1, g2, g3, g4, g5, gf, _⟩ := nd.pt er.1 er.2
  obtain ⟨ta, ms, tc, tb⟩ := (ty _ k ixx.1 ixx.2 k1 k2).1 e e1 e2
  rw [Ch.uniq tc g1] at tb
  have e50 : δ 0 50 = D 0 50 := km 0 50 (by omega) (by omega) (by omega) (by omega)
  have key := wk_ok (δ := δ) (u := u) (M := M) (w := w) (x := x) (τ := τ k) rk hM g5.1 g1 g4 (wk x e x0 x1 er.1 er.2) tb ta (mb x k e x0 x1 k1 k2 e1 e2) ?_ ?_ ?_ ?_
  · refine ⟨?_, key.2⟩
    have p := wk_pc (δ := δ) (x := x) (e := e) (l.fl fl) x0 (by omega) (by rw [rk 35 x (by omega) (by omega), fl.ps]; exact er.1) (by rw [rk 35 x (by omega) (by omega), fl.pe]; exact er.2)
    rw [key.1] at p
    exact p
  · intro q
    have w2 := g5.2.1 q
    have ov := onV_x (on := on) l x0 x1 (i := D 21 e) w2.1 w2.2
    obtain ⟨ms', _, _, _, c2, _⟩ := cl.1 e e1 e2
    have ck := nd.ck (v := D 4 (D 35 x) + D 21 e) (by omega) (by omega)
    have o := fl_own nd an.1 k1 k2 (e := e) e1 e2 (by rw [c2 q]; unfold FlV at ck; omega)
    rw [o, c2 q] at hon
    have vv := l.var x0 x1 w2.1 w2.2
    have h := ((hd _ vv.1 vv.2).2 (hc _ (Or.inl ⟨q, rfl⟩))).2 (ov.1.2 hon)
    exact ⟨h.1, fun z => h.2 (by rw [ov.2, ← tb.2.1 q]; exact z)⟩
  · intro q
    have w3 := g5.2.2.1 q
    have sg := (l.1 _ w3.1 (by omega)).sz
    have ov := out_on R' x0 x1 er.1 er.2 q (o := 0) (Int.le_refl _) (by omega)
    have h := ((hd _ ov.2.2.1 ov.2.2.2).2 (hc _ (Or.inr (Or.inl ⟨q, rfl⟩)))).2 (ov.1.2 hon)
    exact ⟨h.1, fun z => h.2 (by rw [ov.2.1, show D 4 (D 21 e) + D 5 (D 21 e) + 0 = D 4 (D 21 e) + D 5 (D 21 e) by omega, ← (tb.2.2.1 q).1]; exact z)⟩
  · intro j y hj hn h25
    exact hk ks j y g1 hj hn (kid_on R' x0 x1 k1 k2 e1 e2 g1 (List.mem_of_getElem? hj) h25 hon)
  · intro q
    have f25 := fl_25 nd an.1 cl k1 k2 e1 e2 q
    have pk := l.pf x0 x1 er.1 er.2
    have pk2 := pk.2.2.2.2 (by omega)
    obtain ⟨_, _, _, _, _, _, fv, _⟩ := nd.pt (e := D 22 e) pk2.1.1 (by omega)
    have cb : D 29 (D 22 e) < 2 * nvN D (D 35 x) := by unfold FlV at fv; omega
    have ov := onV_x (on := on) l x0 x1 (i := D 29 (D 22 e) / 2) (by omega) (by omega)
    have m50 := l.2.2.1
    have pr := pr_on2 R' km hd (m := FU) (c := D 29 (D 22 e)) x0 x1 (by have := FU_v; omega) fv (Or.inr ?_)
    · have o2 := p2 x _ x0 x1 f25.1 cb
      rw [f25.2] at hon
      have onC := ov.1.2 hon
      refine ⟨⟨fun z => (o2.1 (pr.1 z)).1, fun z => pr.2 (o2.2 ⟨z, onC⟩)⟩, fun z => ?_⟩
      have l1 : ks.length = 1 := g4.2.2.2.2 (by omega)
      exact hk ks 0 _ g1 ((ch_kd g1).1 (by omega)) (by omega) (pr.1 z)
    · have e0 : clV D FU x (D 29 (D 22 e)) = D 38 x + D 29 (D 22 e) / 2 := by
        show clV D (999999 + 1) x (D 29 (D 22 e)) = _
        show (if D 29 (D 22 e) ≠ -1 then D 38 x + idiv (D 29 (D 22 e)) 2 else _) = _
        rw [if_pos (by omega), idiv_2 f25.1 (by omega)]
      rw [e0]
      exact hc _ (Or.inr (Or.inr ⟨q, rfl⟩))
/-- a part's clock is known -/
theorem clV_b (l : LkM D) : ∀ (m : Nat) (x c : Int), 0 ≤ x → x < D 0 50 → FlV (nvN D (D 35 x)) c → clV D m x c = -1 ∨ 0 ≤ clV D m x c
  | 0, x, c, h0, h1, hf => Or.inl rfl
  | m + 1, x, c, h0, h1, hf => by
    show (if c ≠ -1 then D 38 x + idiv c 2 else if D 36 x < 0 then -1 else clV D m (D 36 x) (D 29 (D 37 x))) = -1 ∨ 0 ≤ (if c ≠ -1 then D 38 x + idiv c 2 else if D 36 x < 0 then -1 else clV D m (D 36 x) (D 29 (D 37 x)))
    have sz := (l.nd h0 h1).sz
    have nv : nvN D (D 35 x) = D 4 (D 35 x + 1) - D 4 (D 35 x) := rfl
    have ix := (l.2.2.2.2.2.2.2.2.1 x h0 h1).1.2.1
    by_cases q : c ≠ -1
    · rw [if_pos q]
      unfold FlV at hf
      rw [idiv_2 (by omega) (by omega)]
      exact Or.inr (by omega)
    · rw [if_neg q]
      by_cases x0 : x = 0
      · rw [x0, l.2.2.2.2.2.2.2.1.2.1, if_pos (by omega)]; exact Or.inl rfl
      · have ⟨p1, p2, p3, p4⟩ := (l.2.2.2.2.2.2.2.2.1 x h0 h1).2.2.1 (by omega)
        rw [if_neg (by omega)]
        obtain ⟨ks, _, _, _, _, w3, fl, _⟩ := (l.nd (x := D 36 x) (by omega) (by omega)).pt p2.1 p2.2
        exact clV_b l m (D 36 x) _ (by omega) (by omega) fl
theorem pa_ck (R : RfS D u w on M τ) {v x root o : Int} (v0 : 0 ≤ v) (v1 : v < D 0 51) (rt : RtV D v x root o) (hcs : ∀ c, CsS D v c → 0 ≤ c ∧ c < D 0 51 ∧ H c) (hcl : ∀ a c, 0 ≤ a → a < D 0 51 → H a → CsS D a c → H c) : ∀ (n : Nat) (e : Int), root - e < n → D 31 root ≤ e → e ≤ root → D 30 e = root → ∃ m : Nat, x < m ∧ (clV D m x (D 29 e) = -1 ∨ H (clV D m x (D 29 e))) := by
  have at0 := rt.at R.1 v0 v1
  obtain ⟨l, ar, wk, vr, ⟨p0, p1, p2⟩, ty, mb⟩ := R
  have fu := FU_v
  have m50 := l.2.2.1
  have ixx := (l.2.2.2.2.2.2.2.2.1 x at0.1.1 at0.1.2).1.1
  have nd := l.nd at0.1.1 at0.1.2
  have sz := nd.sz
  have nv : nvN D (D 35 x) = D 4 (D 35 x + 1) - D 4 (D 35 x) := rfl
  have an := ar _ ixx.1 ixx.2
  obtain ⟨k, k1, k2, k3⟩ := nd.at at0.2.1 at0.2.2
  have cl := an.2 k k1.1 k1.2
  have eq := nd.eq k1.1 k1.2
  obtain ⟨_, _, _, _, _, _, _, r31, _⟩ := nd.pt at0.2.1 at0.2.2
  have gl := nd.gl k1.1 k1.2 k2 k3
  have ⟨i1, i2, i3, i4⟩ := l.2.2.2.2.2.2.2.2.2 v v0 v1
  have ndv := l.nd i1.1 i1.2
  have szv := ndv.sz
  have nvv : nvN D (D 35 (D 42 v)) = D 4 (D 35 (D 42 v) + 1) - D 4 (D 35 (D 42 v)) := rfl
  intro n
  induction n with
  | zero => intro e h1 h2 h3; exfalso; omega
  | succ n ih =>
    intro e h1 h2 h3 h4
    by_cases q : e = root
    · rw [q]
      rcases rt with ⟨a1, a2, a3, a4⟩ | ⟨a1, a2, a3, a4, ms, a5, a6⟩
      · obtain ⟨k', i, b1, b2, b3, b4, b5⟩ := ndv.db a1 i4
        rw [a2, b4] at a3
        have anv := ar _ (l.2.2.2.2.2.2.2.2.1 _ i1.1 i1.2).1.1.1 (l.2.2.2.2.2.2.2.2.1 _ i1.1 i1.2).1.1.2
        have fb := fl_body ndv anv.1 (anv.2 k' b1.1 b1.2) b1.1 b1.2 b2.1 b2.2
        rw [← a3, b3] at fb
        refine ⟨FU, by omega, ?_⟩
        rw [fb, a2]
        rcases clV_b l FU (D 42 v) _ i1.1 i1.2 (ndv.ck (v := D 4 (D 35 (D 42 v)) + D 43 v) (by omega) (by omega)) with z | z
        · exact Or.inl z
        · exact Or.inr (hcs _ (Or.inl ⟨rfl, z⟩)).2.2
      · have x0 : 0 < D 42 v := by
          by_cases z : D 42 v = 0
          · rw [z, l.2.2.2.2.2.2.2.1.2.1] at a2; omega
          · omega
        have ⟨o1, o2, o3, o4⟩ := (l.2.2.2.2.2.2.2.2.1 (D 42 v) i1.1 i1.2).2.2.1 x0
        have c0 := ndv.c0 (v := D 4 (D 35 (D 42 v)) + D 43 v) (by omega) (by omega)
        rw [← a3] at o2
        obtain ⟨kc, kc1, kc2, kc3⟩ := nd.at o2.1 o2.2
        have fk := (fl_kid nd an.1 (an.2 kc kc1.1 kc1.2) kc1.1 kc1.2 kc2 kc3 a5 (List.mem_of_getElem? a6)).1 (by omega) (by omega)
        refine ⟨999999, by omega, ?_⟩
        have e0 : clV D FU (D 42 v) (-1) = clV D 999999 x (D 29 root) := by
          show clV D (999999 + 1) (D 42 v) (-1) = _
          show (if (-1 : Int) ≠ -1 then _ else if D 36 (D 42 v) < 0 then -1 else clV D 999999 (D 36 (D 42 v)) (D 29 (D 37 (D 42 v)))) = _
          rw [if_neg (by omega), if_neg (by omega), fk, a3]
        have cc := clV_b l FU (D 42 v) (-1) i1.1 i1.2 (Or.inl rfl)
        rw [e0] at cc
        rcases cc with z | z
        · exact Or.inl z
        · refine Or.inr (hcs _ (Or.inl ⟨?_, z⟩)).2.2
          rw [c0, e0]
    · obtain ⟨p, ms, j, pp1, pp2, c1, hj, np⟩ := ps_up nd an.1 k1.1 k1.2 k2 k3 (by omega) (by omega) h4
      have ihp := ih p (by omega) (by omega) pp1.2 pp2
      have fk := fl_kid nd an.1 cl k1.1 k1.2 (e := p) (by omega) (by omega) c1 (List.mem_of_getElem? hj)
      have pr : psN D (D 35 x) ≤ p ∧ p < peN D (D 35 x) := by omega
      by_cases q25 : D 20 p = 25
      · have f25 := fk.2.2.1 q25
        obtain ⟨ks, g1, g2, g3, g4, g5, _⟩ := nd.pt pr.1 pr.2
        have l1 : ks.length = 1 := g4.2.2.2.2 (by omega)
        rw [← Ch.uniq g1 c1] at hj
        have ej : e = D 22 p := by
          match ks, g1, l1, hj with
          | [z], g1, _, hj =>
            have ez : D 22 p = z := g1.1
            cases j with
            | zero => simp at hj; omega
            | succ j => simp at hj
        obtain ⟨_, _, _, _, _, _, fv, _⟩ := nd.pt (e := e) (by omega) (by omega)
        refine ⟨FU, by omega, Or.inr (hcs _ (Or.inr ⟨x, root, o, rt, Or.inl ⟨p, by omega, pp1.2, pp2, Or.inr (Or.inr (Or.inr ⟨q25, ?_⟩))⟩⟩)).2.2⟩
        rw [← ej]
        show clV D (999999 + 1) x (D 29 e) = _
        show (if D 29 e ≠ -1 then D 38 x + idiv (D 29 e) 2 else _) = _
        rw [if_pos (by omega)]
      · by_cases q26 : D 20 p = 26
        · have f26 := fk.2.1 q26
          obtain ⟨ks, g1, g2, g3, g4, g5, _⟩ := nd.pt pr.1 pr.2
          have w4 := g5.2.2.2 q26
          have hC := hcs (D 38 x + idiv (D 21 p) 2) (Or.inr ⟨x, root, o, rt, Or.inl ⟨p, by omega, pp1.2, pp2, Or.inr (Or.inr (Or.inl ⟨q26, rfl⟩))⟩⟩)
          rw [idiv_2 w4.1 (by omega)] at hC
          have vv := vx l at0.1.1 at0.1.2 (i := D 21 p / 2) (by omega) (by omega)
          refine ⟨FU, by omega, ?_⟩
          rw [f26]
          rcases clV_b l FU x _ at0.1.1 at0.1.2 (nd.ck (v := D 4 (D 35 x) + D 21 p / 2) (by omega) (by omega)) with z | z
          · exact Or.inl z
          · refine Or.inr (hcl _ _ hC.1 hC.2.1 hC.2.2 (Or.inl ⟨?_, z⟩))
            rw [vv.1, vv.2]
        · rw [fk.1 q25 q26]; exact ihp
theorem po_L7 (R : RfS D u w on M τ) {δ0 : St} (km : KM D δ0) (hM : ∀ k, δ0 52 k = M k) (hd : HdV D δ0 u on H) {v x root o k : Int} (v0 : 0 ≤ v) (v1 : v < D 0 51) (rt : RtV D v x root o) (ro : D 20 root = 3 → o = 0) (k1 : D 7 (D 35 x) ≤ k) (k2 : k < D 7 (D 35 x + 1)) (k3 : D 19 k ≤ root) (k4 : root ≤ D 17 k) (hcs : ∀ c, CsS D v c → 0 ≤ c ∧ c < D 0 51 ∧ H c) (hcl : ∀ a c, 0 ≤ a → a < D 0 51 → H a → CsS D a c → H c) (ron : on x (D 29 root)) : ∀ (n : Nat) (δ : St) (e : Int), (∀ j k, j ≠ 54 → δ j k = δ0 j k) → D 31 root ≤ e → (∀ e', D 31 root ≤ e' → e' < e → e' ≤ root → D 30 e' = root → on x (D 29 e') → δ 54 e' = w x e' ∧ (τ k e' = 1 → Bl (w x e'))) → pc (f_M_partOf_L7 n δ x root e) (fun z => (∀ j k, j ≠ 54 → z.2 j k = δ0 j k) ∧ z.1 = w x root ∧ (τ k root = 1 → Bl (w x root))) := by
  have R' := R
  obtain ⟨l, ar, wk, vr, ⟨p0, p1, p2⟩, ty, mb⟩ := R
  have at0 := rt.at l v0 v1
  have fu := FU_v
  have ixx := (l.2.2.2.2.2.2.2.2.1 x at0.1.1 at0.1.2).1.1
  have nd := l.nd at0.1.1 at0.1.2
  have sz := nd.sz
  have an := ar _ ixx.1 ixx.2
  have eq := nd.eq k1 k2
  obtain ⟨_, _, rd2, _, _, _, _, r31, _⟩ := nd.pt at0.2.1 at0.2.2
  have rle := rd2.le
  have gl := nd.gl k1 k2 k3 k4
  have rr := rt.rr l (fun f q1 q2 => (ar f q1 q2).1) v0 v1
  intro n
  induction n with
  | zero => intro δ e _ _ _; exact pc_n
  | succ n ih =>
    intro δ e f h1 h2
    have kmd : KM D δ := fun j k q1 q2 q3 q4 => by rw [f j k (by omega)]; exact km j k q1 q2 q3 q4
    have fl := kmd.fL
    have rk := kmd.rk
    have e50 : δ 0 50 = D 0 50 := kmd 0 50 (by omega) (by omega) (by omega) (by omega)
    have hdd : HdV D δ u on H := fun v q1 q2 => by rw [f 55 v (by omega), f 51 v (by omega)]; exact hd v q1 q2
    unfold f_M_partOf_L7
    refine pc_i (fun q => pc_c (fun _ => pc_s ⟨f, h2 root (by omega) q (Int.le_refl _) rr ron⟩)) (fun q => pc_c (fun _ => ?_))
    rw [rk 30 e (by omega) (by omega)]
    have nx : ∀ δ', (∀ j k, j ≠ 54 → δ' j k = δ0 j k) → (∀ e', D 31 root ≤ e' → e' < e + 1 → e' ≤ root → D 30 e' = root → on x (D 29 e') → δ' 54 e' = w x e' ∧ (τ k e' = 1 → Bl (w x e'))) → pc (f_M_partOf_b42 (f_M_partOf_L7 n) δ' x root e) (fun z => (∀ j k, j ≠ 54 → z.2 j k = δ0 j k) ∧ z.1 = w x root ∧ (τ k root = 1 → Bl (w x root))) := fun δ' g1 g2 => by
      unfold f_M_partOf_b42
      exact pc_c (fun _ => ih δ' (e + 1) g1 (by omega) g2)
    refine pc_i (fun q2 => nx δ f (fun e' w1 w2 w3 w4 w5 => ?_)) (fun q2 => pc_c (fun _ => ?_))
    · by_cases z : e' = e
      · rw [z] at w4; exact absurd w4 q2
      · exact h2 e' w1 (by omega) w3 w4 w5
    · have q2 : D 30 e = root := by omega
      have er : psN D (D 35 x) ≤ e ∧ e < peN D (D 35 x) := by omega
      obtain ⟨ks, g1, g2, g3, g4, g5, gf, _⟩ := nd.pt er.1 er.2
      obtain ⟨m, m1, m2⟩ := pa_ck R' v0 v1 rt hcs hcl ((root - e).toNat + 1) e (by omega) h1 (by omega) q2
      have pr := pr_on2 R' kmd hdd (c := D 29 e) at0.1.1 at0.1.2 m1 gf m2
      rw [rk 29 e (by omega) (by omega), bndN_eq (present_eq (l.fl fl) at0.1.1 (by omega) (by rw [rk 35 x (by omega) (by omega), fl.nv]; exact gf))]
      refine pc_i (fun q3 => nx δ f (fun e' w1 w2 w3 w4 w5 => ?_)) (fun q3 => ?_)
      · by_cases z : e' = e
        · rw [z] at w5; exact absurd q3 (pr.2 w5)
        · exact h2 e' w1 (by omega) w3 w4 w5
      · have hon := pr.1 q3
        have ns := nestG (nd.gn k1 k2) ((root - D 19 k).toNat + 1) root e k3 k4 (by omega) (by omega) (by omega)
        have wa := wk_at R' kmd (fun k => by rw [f 52 k (by omega)]; exact hM k) hdd at0.1.1 at0.1.2 k1 k2 (e := e) (by omega) (by omega) hon (fun c hc => ?_) (fun ms j y c1 hj np oy => ?_)
        · refine pc_b wa.1 (fun r δ' z => nx δ' (fun j t q => ?_) (fun e' w1 w2 w3 w4 w5 => ?_))
          · have z : δ' = setA δ 54 e (w x e) := z
            rw [z, stA, if_neg (by omega)]; exact f j t q
          · have z : δ' = setA δ 54 e (w x e) := z
            rw [z, stA]
            by_cases y : e' = e
            · rw [if_pos ⟨rfl, y⟩, y]; exact ⟨rfl, wa.2⟩
            · rw [if_neg (by omega)]; exact h2 e' w1 (by omega) w3 w4 w5
        · rcases hc with ⟨c1, c2⟩ | ⟨c1, c2⟩ | ⟨c1, c2⟩
          · exact (hcs c (Or.inr ⟨x, root, o, rt, Or.inl ⟨e, h1, by omega, q2, Or.inl ⟨c1, c2⟩⟩⟩)).2.2
          · by_cases z : e = root
            · refine (hcs c (Or.inr ⟨x, root, o, rt, Or.inr ⟨by rw [← z]; exact c1, ?_⟩⟩)).2.2
              rw [ro (by rw [← z]; exact c1), ← z]; exact c2
            · exact (hcs c (Or.inr ⟨x, root, o, rt, Or.inl ⟨e, h1, by omega, q2, Or.inr (Or.inl ⟨c1, z, c2⟩)⟩⟩)).2.2
          · refine (hcs c (Or.inr ⟨x, root, o, rt, Or.inl ⟨e, h1, by omega, q2, Or.inr (Or.inr (Or.inr ⟨c1, ?_⟩))⟩⟩)).2.2
            have f25 := fl_25 nd an.1 (an.2 k k1 k2) k1 k2 (e := e) (by omega) (by omega) c1
            have pk2 := (l.pf at0.1.1 at0.1.2 er.1 er.2).2.2.2.2 (by omega)
            obtain ⟨_, _, _, _, _, _, fv, _⟩ := nd.pt (e := D 22 e) pk2.1.1 (by omega)
            have nv : nvN D (D 35 x) = D 4 (D 35 x + 1) - D 4 (D 35 x) := rfl
            unfold FlV at fv
            rw [c2, idiv_2 f25.1 (by omega)]
        · have kd := ((an.1 k k1 k2).2.2 e (by omega) (by omega) ms c1 j y hj).2
          unfold paV at kd
          rw [if_neg np] at kd
          rw [Ch.uniq c1 g1] at hj
          have my := g2.mem y (List.mem_of_getElem? hj)
          exact h2 y (by omega) my.2 (by omega) (by omega) oy
theorem po_pc (R : RfS D u w on M τ) (km : KM D δ) (hM : ∀ k, δ 52 k = M k) (hd : HdV D δ u on H) {v x root o k : Int} (v0 : 0 ≤ v) (v1 : v < D 0 51) (rt : RtV D v x root o) (ro : D 20 root = 3 → o = 0) (k1 : D 7 (D 35 x) ≤ k) (k2 : k < D 7 (D 35 x + 1)) (k3 : D 19 k ≤ root) (k4 : root ≤ D 17 k) (hcs : ∀ c, CsS D v c → 0 ≤ c ∧ c < D 0 51 ∧ H c) (hcl : ∀ a c, 0 ≤ a → a < D 0 51 → H a → CsS D a c → H c) (ron : on x (D 29 root)) : pc (f_M_partOf δ x root) (fun z => (∀ j k, j ≠ 54 → z.2 j k = δ j k) ∧ z.1 = w x root ∧ (τ k root = 1 → Bl (w x root))) := by
  unfold f_M_partOf
  refine pc_c (fun _ => pc_a ?_)
  rw [km.rk 31 root (by omega) (by omega)]
  exact po_L7 R km hM hd v0 v1 rt ro k1 k2 k3 k4 hcs hcl ron FU δ _ (fun _ _ _ => rfl) (Int.le_refl _) (fun e' w1 w2 => by exfalso; omega)
end RF
