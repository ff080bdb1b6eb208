/-! equality: the level of expressions, and all levels -/
theorem gbS_o (γ : St) (c : Int) {j : Nat} {k : Int} (h6 : j = 6 → k ≠ 12 ∧ k ≠ 13) (h48 : j = 48 → k ≠ γ 6 8 - 1) : gbS γ c j k = γ j k := by
  show (if _ then _ else _) = _
  rw [if_neg (by omega), if_neg (by omega)]
theorem XpR.go {N d i c : Int} {γ δ : St} (h : XpR N d i γ δ) (k0 : tK δ ≠ 0) (k3 : tK δ ≠ 3) (hs : 0 < γ 6 8) : XpR N d (i + 1) (nxS (gbS γ c)) (tkS δ) ∧ (nxS (gbS γ c) 6 8 = γ 6 8 ∧ nxS (gbS γ c) 6 9 = γ 6 9 ∧ nxS (gbS γ c) 6 12 = 1 ∧ nxS (gbS γ c) 6 13 = 1) ∧ topK (nxS (gbS γ c)) = c ∧ (∀ j k, (j = 1 → k ≠ 6) → (j = 6 → k ≠ 12 ∧ k ≠ 13) → (j = 48 → k ≠ γ 6 8 - 1) → nxS (gbS γ c) j k = γ j k) := by
  have ⟨a, b, c1, ⟨d1, d2, d3, d4⟩, ⟨e1, e2, e3⟩⟩ := h
  have s := h.st (γ1 := gbS γ c) k0 k3 (fun j k q => gbS_o γ c (by omega) (by omega))
  have n : ∀ (j : Nat) (k : Int), (j = 1 → k ≠ 6) → (j = 6 → k ≠ 12 ∧ k ≠ 13) → (j = 48 → k ≠ γ 6 8 - 1) → nxS (gbS γ c) j k = γ j k := fun j k r1 r2 r3 => by rw [nxS_o _ (by omega), gbS_o γ c r2 r3]
  have n8 := n 6 8 (by omega) (by omega) (by omega)
  have n9 := n 6 9 (by omega) (by omega) (by omega)
  have n12 : ∀ k : Int, k = 12 ∨ k = 13 → nxS (gbS γ c) 6 k = 1 := fun k q => by
    rw [nxS_o _ (by omega)]
    show (if _ then _ else _) = _
    rw [if_pos ⟨rfl, q⟩]
  refine ⟨⟨s.1, b.tk (fun j k q => gbS_o γ c (by omega) (by omega)), s.2.1, ⟨by rw [n 6 14 (by omega) (by omega) (by omega)]; exact d1, by rw [n 6 10 (by omega) (by omega) (by omega)]; exact d2, by omega, by rw [s.2.2]; omega⟩, by omega, by omega, by rw [n 6 11 (by omega) (by omega) (by omega), n8]; exact e3⟩, ⟨n8, n9, n12 12 (by omega), n12 13 (by omega)⟩, ?_, n⟩
  unfold topK
  rw [n8, nxS_o _ (by omega)]
  show (if _ then _ else _) = _
  rw [if_neg (by omega), if_pos ⟨rfl, rfl⟩]
section EXP
variable {N d : Int} {E : Nat → St → Int → Int → Option Res}
/-- then, or else -/
theorem pq_mid {R : St → St → Prop} {K : Int → St → Option Res} {z : Bool} {f : Nat} {γ δ : St} {d i t c : Int} {w : Nat} (h : XpR N d i γ δ) (h12 : γ 6 12 = 0) (nx : NxT z 0 (γ 14 (γ 1 6))) (hs : 0 < γ 6 8) (ht : topK γ = t) (hc : t = 32 ∧ c = 33 ∧ w = 13 ∨ t = 33 ∧ c = 34 ∧ w = 14) (cont : ∀ n' : Nat, tK δ = 1 → pq (f_Er_readRightSide_L57 n' (nxS (gbS γ c)) 1 (i + 1)) (K 0 (tkS δ)) (OuR R)) : pq (Go z f γ i) (bndT (f_M_mustBe δ w) K) (OuR R) := by
  have lx : LexR N γ δ := h.1.1.1
  have rt : rankK (topK γ) < 1 := by rw [ht]; rcases hc with ⟨q, _⟩ | ⟨q, _⟩ <;> subst q <;> decide
  have kw := lx.kw (w := w) (by omega)
  have hfl : pq (some (0, flS γ 1)) (some ((.inl (1, sk δ), pkS δ) : Res)) (OuR R) := pq_some (OuR.no (flS_7 γ 1) (by rw [flS_8]; exact lx.2.2.2.2.symm) (by decide))
  have mb := w_mustBe lx.1 w
  intro y zz e1 e2
  match hm : f_M_mustBe δ w, mb, e2 with
  | some v, mb, e2 =>
    rcases mb with ⟨e, q⟩ | ⟨e, q⟩
    · have e : v = (.inr 0, tkS δ) := e
      subst e
      have e2 : K 0 (tkS δ) = some zz := e2
      have kc : γ 14 (γ 1 6) = c := by rw [kw.2 q]; omega
      have k1 : tK δ = 1 := q.1
      have c5 : rankK c ≠ 5 := by rcases hc with ⟨_, q, _⟩ | ⟨_, q, _⟩ <;> subst q <;> decide
      have zf := nx.f (by rw [kc]; exact c5)
      have g : pq (Go z f γ i) (K 0 (tkS δ)) (OuR R) := by
        refine pq_clo h h12 nx hs rt (fun q => by rw [zf] at q; cases q) (fun _ => by rw [kc]; exact clo_go (lx.lt (by omega) (by omega)) hs (by rw [ht]; omega)) (fun y hy => by rw [hy]; simp) (fun _ n' r' γ' e => ?_)
        cases e
        exact cont n' k1
      exact g y zz e1 e2
    · have e : v = (.inl (1, sk δ), pkS δ) := e
      subst e
      have g : pq (Go z f γ i) (some ((.inl (1, sk δ), pkS δ) : Res)) (OuR R) := by
        refine pq_clo h h12 nx hs rt (fun _ => hfl) (fun _ => clo_no h.1.1.2 hs (by rw [ht]; omega) (by
          rw [ht]
          have nn : γ 14 (γ 1 6) ≠ 20 + (w : Int) := fun r => q (kw.1 r)
          refine ⟨by omega, by omega, by omega, by omega⟩)) (fun y hy => by rw [hy]; simp) (fun _ n' r' γ' e => ?_)
        cases e
        intro y z e1 e2
        rw [lp_0 _ _ _ e1]
        exact hfl _ z rfl e2
      exact g y zz e1 e2
theorem ro_if {γ : St} (h10 : γ 6 10 ≤ 40) (h8 : γ 6 8 < 512) (hl : γ 1 6 + 1 < γ 1 5) (k : γ 14 (γ 1 6) = 32) (h13 : γ 6 13 ≠ 0) : pc (f_Er_readOperand γ) (fun z => z = (1, nxS (puS γ 32 1))) := by
  unfold f_Er_readOperand
  rw [if_pos h10]
  refine pc_b kind_pc (fun r γ' e => ?_)
  cases e
  rw [k, if_neg (show ¬ (32 : Int) = 2 by decide), if_neg (show ¬ (32 : Int) = 3 by decide), if_neg (show ¬ (32 : Int) = 4 by decide), if_neg (show ¬ (32 : Int) = 16 by decide), if_neg (show ¬ (32 : Int) = 28 by decide), if_pos (show (32 : Int) = 32 from rfl), if_neg h13]
  refine pc_b (push_pc h8 hl) (fun r γ' e => ?_)
  cases e
  exact pc_s rfl
theorem lst_1 {c : Int} (h : rankK c ≤ 0 ∨ rankK c = 8 ∨ c = 34) : lstK c = 1 := by
  have b := rankK_b c
  unfold lstK
  rw [if_neg (by omega)]
theorem pq_ifx {R : St → St → Prop} {K : Int → St → Option Res} {f : Nat} {γ δ : St} {i : Int} (hE : 0 ≤ d → d < 40 → LvE N E 0 (d + 1)) (h0 : XeI N 0 d i γ δ) (kd : γ 14 (γ 1 6) = 32) (cont : ∀ (z : Bool) (f' : Nat) (γ' : St) (i' r : Int) (δ' : St), XmR N d i' γ δ γ' δ' r → NxT z 0 (γ' 14 (γ' 1 6)) → pq (Go z f' γ' i') (K r δ') (OuR R)) : pq (f_Er_readRightSide_L57 f γ 1 i) (bndN (f_M_take δ) fun _ γ26 =>
  bndT (f_M_nest γ26 d) fun r27 γ28 =>
  bndT (E 0 γ28 r27 0) fun r29 γ30 =>
  bndT (f_M_mustBe γ30 13) fun _ γ32 =>
  bndT (f_M_nest γ32 d) fun r34 γ35 =>
  bndT (E 0 γ35 r34 0) fun r36 γ37 =>
  chk (inb r29 66000) (
  bndT (f_M_mustBe (setA γ37 23 r29 r36) 14) fun _ γ40 =>
  chk (inb r29 66000) (bndT (f_M_nest γ40 d) fun r44 γ45 =>
  bndT (E 0 γ45 r44 0) fun r46 γ47 =>
  chk (inb (γ40 23 r29) 66000) (
  bndT (f_M_make (setA γ47 23 (γ40 23 r29) r46) 4 0 r29 1) fun r49 γ50 =>
  K r49 γ50)))) (OuR R) := by
  have ⟨w1, w2, w3, w4, w5, w6, w7⟩ := h0
  have lx : LexR N γ δ := w1.1.1.1
  have tt := lx.k03 (by omega)
  have ⟨u1, u2, ⟨u3, u4, u5, u6⟩, u7, u8⟩ := w1.pu (c := 32) (w := 1) tt.1 tt.2
  have u1 : XpR N (d + 1) (i + 1) (nxS (puS γ 32 1)) (tkS δ) := u1
  have g8 := w1.2.2.2.2.1
  have g9 := w1.2.2.2.2.2.1
  have g11 := w1.2.2.2.2.2.2
  have g10 := w1.2.2.2.1.2.1
  refine pq_er (tkM_eq lx.1) ?_
  cases f with
  | zero => exact pq_nl
  | succ n =>
    rw [lp_or n γ i w1.lp (by omega)]
    refine pq_lps (ro_if (by omega) (by omega) (lx.lt tt.1 tt.2) kd (w3 rfl)) ?_
    refine pq_nest u1 (by rw [u5]; decide) w7 (fun hd2 => ?_)
    have ent : XeI N 0 (d + 1) (i + 1) (nxS (puS γ 32 1)) (tkS δ) := ⟨u1, u5, fun _ => by rw [u6]; decide, fun q => by omega, Or.inr (by rw [u7]; decide), by omega, by omega⟩
    refine hE w7.1 hd2 R _ n _ _ (i + 1) ent (fun z1 f1 γ1 i1 c δ1 m1 nx1 => ?_)
    have ⟨y1, y2, y3, ⟨y4, y5⟩, y6, y7⟩ := m1
    have t1 : topK γ1 = 32 := XpR.top (δ := δ) (N := N) (d := d) (i := i) u7 y3 y4 (by omega)
    refine pq_mid y1 y2 nx1 (by omega) t1 (Or.inl ⟨rfl, rfl, rfl⟩) (fun n1 k1 => ?_)
    have ⟨v1, ⟨v2, v3, v4, v5⟩, v6, v7⟩ := y1.go (c := 33) (by omega) (by omega) (by omega)
    refine pq_nest v1 (by rw [v4]; decide) w7 (fun _ => ?_)
    have ent2 : XeI N 0 (d + 1) (i1 + 1) (nxS (gbS γ1 33)) (tkS δ1) := ⟨v1, v4, fun _ => by rw [v5]; decide, fun q => by omega, Or.inr (by rw [v6]; decide), by omega, by omega⟩
    refine hE w7.1 hd2 R _ n1 _ _ (i1 + 1) ent2 (fun z2 f2 γ2 i2 b δ2 m2 nx2 => ?_)
    have ⟨x1, x2, x3, ⟨x4, x5⟩, x6, x7⟩ := m2
    have t2 : topK γ2 = 33 := by
      have := v6
      unfold topK at this ⊢
      rw [x4, x3 48 _ (by omega) (by omega) (by omega) (by omega) (by omega) (by omega)]
      exact this
    have s2 : ∀ (j : Nat) (q : Int), j ≠ 23 → setA δ2 23 c b j q = δ2 j q := fun j q r => by rw [stA, if_neg (by omega)]
    have A1 := y7.pre (Mv.tk0 lx.1)
    have A1t := A1.mv (Mv.tk0 y1.1.1.1.1)
    have A2 := XS.app (ks := []) A1t x7
    have e1c : XpR N (d + 1) i2 γ2 (setA δ2 23 c b) := by
      have ⟨g1, g2, g3, g4⟩ := x1
      have l : LxR N γ2 (setA δ2 23 c b) := g1.1.fr (fun _ _ _ => rfl) (fun _ _ _ => rfl) rfl (funext fun q => s2 1 q (by omega)) (fun q _ => s2 0 q (by omega))
      exact ⟨g1.xp l (fun _ _ _ => rfl) (fun j q r => s2 j q (by omega)), g2.fr (fun _ _ _ _ => rfl) rfl (fun j _ _ _ r _ q => s2 j q r) (s2 0 40 (by omega)), A2.1.1, g4⟩
    refine pq_cr (fun _ => pq_mid e1c x2 nx2 (by omega) t2 (Or.inr ⟨rfl, rfl, rfl⟩) (fun n2 k2 => pq_cr (fun _ => ?_)))
    generalize hδ : setA δ2 23 c b = δ3 at *
    have ⟨p1, ⟨p2, p3, p4, p5⟩, p6, p7⟩ := e1c.go (c := 34) (by omega) (by omega) (by omega)
    refine pq_nest p1 (by rw [p4]; decide) w7 (fun _ => ?_)
    have ent3 : XeI N 0 (d + 1) (i2 + 1) (nxS (gbS γ2 34)) (tkS δ3) := ⟨p1, p4, fun _ => by rw [p5]; decide, fun q => by omega, Or.inr (by rw [p6]; decide), by omega, by omega⟩
    refine hE w7.1 hd2 R _ n2 _ _ (i2 + 1) ent3 (fun z3 f3 γ4 i4 e δ4 m3 nx3 => pq_cr (fun _ => ?_))
    have ⟨q1, q2, q3, ⟨q4, q5⟩, q6, q7⟩ := m3
    have t4 : topK γ4 = 34 := by
      have := p6
      unfold topK at this ⊢
      rw [q4, q3 48 _ (by omega) (by omega) (by omega) (by omega) (by omega) (by omega)]
      exact this
    have b23 : tkS δ3 23 c = b := by rw [tkS_o δ3 23 c (by omega), ← hδ, stA, if_pos ⟨rfl, rfl⟩]
    rw [b23]
    have A2t := A2.mv (Mv.tk0 e1c.1.1.1.1)
    have A3 := XS.app (ks := [c]) A2t q7
    have s4 : ∀ (j : Nat) (q : Int), j ≠ 23 → setA δ4 23 b e j q = δ4 j q := fun j q r => by rw [stA, if_neg (by omega)]
    have e3c : XpR N (d + 1) i4 γ4 (setA δ4 23 b e) := by
      have ⟨g1, g2, g3, g4⟩ := q1
      have l : LxR N γ4 (setA δ4 23 b e) := g1.1.fr (fun _ _ _ => rfl) (fun _ _ _ => rfl) rfl (funext fun q => s4 1 q (by omega)) (fun q _ => s4 0 q (by omega))
      exact ⟨g1.xp l (fun _ _ _ => rfl) (fun j q r => s4 j q (by omega)), g2.fr (fun _ _ _ _ => rfl) rfl (fun j _ _ _ r _ q => s4 j q r) (s4 0 40 (by omega)), A3.1.1, g4⟩
    have d0 := tkS_o δ 0 40 (by omega)
    have d1 := tkS_o δ1 0 40 (by omega)
    have d3 := tkS_o δ3 0 40 (by omega)
    have d32 : δ3 0 40 = δ2 0 40 := s2 0 40 (by omega)
    have d35 : δ3 0 5 = δ2 0 5 := s2 0 5 (by omega)
    have lt := Mv.nz lx.1 tt.1
    have lt1 := (Mv.tk0 y1.1.1.1.1).2.2
    have lt3 := (Mv.tk0 e1c.1.1.1.1).2.2
    have sl1 := y7.1.2.2.2
    have sl2 := x7.1.2.2.2
    have sl3 := q7.1.2.2.2
    have n1' := y7.1.2.2.1
    have n2' := x7.1.2.2.1
    have n3' := q7.1.2.2.1
    have mc := y7.2.1.2.mem c List.mem_cons_self
    have mb := x7.2.1.2.mem b List.mem_cons_self
    have e44 : γ 4 4 = δ 0 40 := w1.2.1.1.1
    have f1 : γ1 4 4 = δ1 0 40 := y1.2.1.1.1
    have f2' : γ2 4 4 = δ2 0 40 := x1.2.1.1.1
    have f4 : γ4 4 4 = δ4 0 40 := q1.2.1.1.1
    have v44 := v7 4 4 (by omega) (by omega) (by omega)
    have p44 := p7 4 4 (by omega) (by omega) (by omega)
    have hc27 : δ4 27 c = δ1 27 c := by
      rw [q7.fx.1 27 c (by omega) (by omega) (by omega), tkS_o δ3 27 c (by omega), s2 27 c (by omega), x7.fx.1 27 c (by omega) (by omega) (by omega), tkS_o δ1 27 c (by omega)]
    have hb27 : δ4 27 b = δ2 27 b := by
      rw [q7.fx.1 27 b (by omega) (by omega) (by omega), tkS_o δ3 27 b (by omega), s2 27 b (by omega)]
    have o9 : γ4 6 9 = γ 6 9 + 3 := by omega
    have e11 : γ4 6 11 = γ 6 11 := by
      rw [q3 6 11 (by omega) (by omega) (by omega) (by omega) (by omega) (by omega), p7 6 11 (by omega) (by omega) (by omega), x3 6 11 (by omega) (by omega) (by omega) (by omega) (by omega) (by omega), v7 6 11 (by omega) (by omega) (by omega), y3 6 11 (by omega) (by omega) (by omega) (by omega) (by omega) (by omega), u2 6 11 (by omega) (by omega) (by omega) (by omega) (by omega) (by omega)]
    have h52c : γ4 52 (γ 6 9) = δ4 27 c := by
      rw [q3 52 _ (by omega) (by omega) (by omega) (by omega) (by omega) (by omega), p7 52 _ (by omega) (by omega) (by omega), x3 52 _ (by omega) (by omega) (by omega) (by omega) (by omega) (by omega), v7 52 _ (by omega) (by omega) (by omega), hc27, ← y6, u4]
    have h52b : γ4 52 (γ 6 9 + 1) = δ4 27 b := by
      rw [q3 52 _ (by omega) (by omega) (by omega) (by omega) (by omega) (by omega), p7 52 _ (by omega) (by omega) (by omega), hb27, ← x6, v3, y5, u4]
    have h52e : γ4 52 (γ 6 9 + 2) = δ4 27 e := by
      rw [← q6, p3, x5, v3, y5, u4, show γ 6 9 + 1 + 1 = γ 6 9 + 2 by omega]
    have sd : sidK (topK γ4) = 3 := by rw [t4]; rfl
    have hb1 := A3.hb c (by simp)
    have hb2 := A3.hb b (by simp)
    have hb3 := A3.hb e (by simp)
    rw [s4 27 _ (by omega)] at hb1 hb2 hb3
    have rm := rdM_3 sd
    rw [o9, show γ 6 9 + 3 - 3 = γ 6 9 by omega, show γ 6 9 + 3 - 2 = γ 6 9 + 1 by omega, show γ 6 9 + 3 - 1 = γ 6 9 + 2 by omega, h52c, h52b, h52e] at rm
    refine pq_op (ks := [c, b, e]) A3 (XS.p0 w1.2.2.1) (by rw [s4 0 5 (by omega), s4 0 40 (by omega)]; omega) e3c q2 (by omega) (by omega) (fun q => ⟨(nx3.2 q).1 (by omega), by rw [t4, lst_1 ((nx3.2 q).2 (by omega))]; decide⟩) (fun q => by rw [t4]; decide) (by rw [t4]; rfl) rfl ⟨fun q => by omega, fun q => by omega, fun q => rfl, fun q => by omega, fun q => by omega⟩ ⟨by omega, fun q => by omega, fun q => by omega, fun q => by omega⟩ (by rw [sd]; rfl) ?_ ⟨by rw [o9]; show ((3 : Nat) : Int) ≤ _; omega, by simp⟩ (fun δ' xs xr hh => ?_)
    · show max (setA δ4 23 b e 27 c + 1) (max (setA δ4 23 b e 27 b + 1) (max (setA δ4 23 b e 27 e + 1) 1)) = _
      rw [s4 27 c (by omega), s4 27 b (by omega), s4 27 e (by omega), rm]
      omega
    · have o : ∀ (j : Nat) (q : Int), j ≤ 3 ∨ 13 ≤ j ∧ j ≤ 37 ∨ j = 6 ∧ 10 < q → rdS γ4 j q = γ4 j q := fun j q r => rdS_o γ4 (by omega) (by omega) (by omega) (by omega)
      have et : rdS γ4 14 (rdS γ4 1 6) = γ4 14 (γ4 1 6) := by rw [o 1 6 (by omega), o 14 _ (by omega)]
      have hh2 : rdS γ4 52 (γ4 6 9 - 3) = δ' 27 (setA δ4 23 b e 0 40) := hh
      rw [t4] at xr
      have xr2 : XpR N (d + 1 - 1) i4 (rdS γ4) δ' := xr
      rw [show d + 1 - 1 = d by omega] at xr2
      have fr4 : FcX γ γ4 := by
        intro j q r1 r2 r3 r4 r5 r6
        have k4 : 38 ≤ j → j ≤ 41 → q < δ 0 40 := fun a b => by have := r4 a b; omega
        rw [q3 j q r1 r2 r3 (fun a b => by have := k4 a b; omega) (fun a b => by have := r5 a b; omega) (fun a => by have := r6 a; omega),
          p7 j q (by omega) (by omega) (fun a => by have := r5 (by omega) (by omega); omega),
          x3 j q r1 r2 r3 (fun a b => by have := k4 a b; omega) (fun a b => by have := r5 a b; omega) (fun a => by have := r6 a; omega),
          v7 j q (by omega) (by omega) (fun a => by have := r5 (by omega) (by omega); omega),
          y3 j q r1 r2 r3 (fun a b => by have := k4 a b; omega) (fun a b => by have := r5 a b; omega) (fun a => by have := r6 a; omega)]
        exact u2 j q r1 r2 r3 r4 r5 r6
      refine cont z3 f3 (rdS γ4) i4 _ δ' ⟨xr2, by rw [o 6 12 (by omega)]; exact q2, fr4.rd (by omega) (by omega), ⟨by rw [rdS_8]; omega, by rw [rdS_9, sd]; omega⟩, ?_, xs⟩ (by rw [et]; exact nx3)
      rw [← hh2, o9, show γ 6 9 + 3 - 3 = γ 6 9 by omega]
theorem pq_expr (hE : 0 ≤ d → d < 40 → LvE N E 0 (d + 1)) (h1 : LvE N E 1 d) : ∀ (R : St → St → Prop) (K : Int → St → Option Res) (f : Nat) (γ δ : St) (i : Int), XeI N 0 d i γ δ → (∀ (z : Bool) (f' : Nat) (γ' : St) (i' r : Int) (δ' : St), XmR N d i' γ δ γ' δ' r → NxT z 0 (γ' 14 (γ' 1 6)) → pq (Go z f' γ' i') (K r δ') (OuR R)) → pq (f_Er_readRightSide_L57 f γ 1 i) (bndT (f_M_expression E δ d) K) (OuR R) := fun R K f γ δ i h0 cont => by
  have l0 : LexR N γ δ := h0.1.1.1.1
  have mv := Mv.pk0 l0.1
  have cc : ∀ (z : Bool) (f' : Nat) (γ' : St) (i' r : Int) (δ' : St), XmR N d i' γ (pkS δ) γ' δ' r → NxT z 0 (γ' 14 (γ' 1 6)) → pq (Go z f' γ' i') (K r δ') (OuR R) := fun z f' γ' i' r δ' m nx => cont z f' γ' i' r δ' (m.mb mv) nx
  have hx := h0.pk
  unfold f_M_expression
  rw [bT_N]
  refine pq_yn (w_is l0.1 12) (fun q => ?_) (fun q => ?_)
  · rw [if_neg (show ¬ (1 : Int) = 0 by decide)]
    simp only [bT_N, bT_T, bT_C, bT_r, ap]
    exact pq_ifx hE hx ((l0.kw (by omega)).2 q) cc
  · rw [if_pos (show (0 : Int) = 0 from rfl), bT_T]
    refine h1 R _ f γ _ i (hx.up (fun _ r => q ((l0.kw (by omega)).1 r))) (fun z f' γ' i' r δ' m nx => ?_)
    rw [bT_N]
    refine pq_er (pkM_eq m.lx.1) ?_
    rw [bT_I]
    refine pq_ir (fun q1 => ?_) (fun q1 => ?_)
    · rw [bT_N]
      refine pq_yn (w_is m.pk.lx.1 17) (fun q2 => ?_) (fun q2 => ?_)
      · have kd : γ' 14 (γ' 1 6) = 37 := (m.pk.lx.kw (by omega)).2 q2
        have zf := nx.f (by rw [kd]; decide)
        subst zf
        rw [if_neg (show ¬ (1 : Int) = 0 by decide)]
        simp only [bT_N, bT_T, bT_r]
        exact pq_bopn (lv := 0) hx m.pk.pk kd rfl (by omega) (by decide) (by decide) ⟨rfl, by decide⟩ rfl (hE h0.2.2.2.2.2.2.1) cc
      · rw [if_pos (show (0 : Int) = 0 from rfl)]
        refine cc z f' γ' i' r _ m.pk.pk ⟨fun e => ⟨by omega, (nx.1 e).2⟩, fun e => ⟨fun _ => (nx.2 e).1 (by omega), fun _ => ?_⟩⟩
        have b := rankK_b (γ' 14 (γ' 1 6))
        have t := (nx.2 e).2 (by omega)
        by_cases r1 : rankK (γ' 14 (γ' 1 6)) = 1
        · rcases rk_1 r1 with r | r | r
          · exact absurd ((m.lx.sg (k := 303) (by decide)).1 r) q1
          · exact Or.inr (Or.inr r)
          · exact (q2 ((m.pk.lx.kw (by omega)).1 r)).elim
        · omega
    · have kd : γ' 14 (γ' 1 6) = 18 := (m.lx.sg (k := 303) (by decide)).2 (by omega)
      have zf := nx.f (by rw [kd]; decide)
      subst zf
      simp only [bT_N, bT_T, bT_r]
      exact pq_bopn (lv := 0) hx m.pk kd rfl (by omega) (by decide) (by decide) ⟨rfl, by decide⟩ rfl (hE h0.2.2.2.2.2.2.1) cc
end EXP
/-- all levels -/
theorem ME_e (N : Int) : ∀ (n : Nat) (d : Int), (∀ lv : Nat, lv ≤ 7 → LvE N (ME n) lv d) ∧ AtE N (ME n) d ∧ CaE N (ME n) d := by
  intro n
  induction n with
  | zero => exact fun d => ⟨fun lv _ R K f γ δ i _ _ => pq_nr, fun R K f γ δ i _ _ _ => pq_nr, fun R K f γ δ i k _ _ _ _ _ _ _ => pq_nr⟩
  | succ n ih =>
    intro d
    have i0 := ih d
    have i1 := ih (d + 1)
    refine ⟨fun lv hl => ?_, ?_, ?_⟩
    · match lv, hl with
      | 0, _ => exact pq_expr (fun _ _ => i1.1 0 (by omega)) (i0.1 1 (by omega))
      | 1, _ => exact pq_implied (fun _ _ => i1.1 1 (by omega)) (i0.1 2 (by omega))
      | 2, _ => exact pq_either (i0.1 3 (by omega))
      | 3, _ => exact pq_both (i0.1 4 (by omega))
      | 4, _ => exact pq_compared (i0.1 5 (by omega))
      | 5, _ => exact pq_sum (i0.1 6 (by omega))
      | 6, _ => exact pq_product (i0.1 7 (by omega))
      | 7, _ => exact pq_unary (fun _ _ => i1.1 7 (by omega)) i0.2.1
    · exact pq_atm (fun _ _ => i1.1 0 (by omega)) i0.2.2
    · exact pq_call (fun _ _ => i1.1 0 (by omega))
