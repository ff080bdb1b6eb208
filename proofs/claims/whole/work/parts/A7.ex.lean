/-! the reference's parser: expression, and all levels together -/
set_option maxHeartbeats 1000000 in
theorem w_expression {γ : St} {d : Int} {E : Nat → St → Int → Int → Option Res} (p : PxI γ) (hd : 0 ≤ d ∧ d ≤ 40) (h1 : EH E 1 d) (h0 : d < 40 → EH E 0 (d + 1)) : wp (f_M_expression E γ d) (Xo γ) := by
  have l0 := p.1.1
  have p0 := XS.p0 p
  have m1 := Mv.pk0 l0
  unfold f_M_expression
  refine wp_yn (w_is l0 12) (fun q => ?_) (fun q => ?_)
  · rw [if_neg (by decide)]
    have m2 := m1.tk
    have tq : tK (pkS γ) ≠ 0 := by rw [pk_tK l0, q.1]; decide
    have lt := Mv.nz m1.1 tq
    have l1 := m1.2.2
    have e40 := m2.2.1 0 40 (by omega)
    refine wp_bs (tkM_eq m1.1) (wp_nest m2.1 hd (fun q => Xo.er (Fx.mv m2.pk)) (fun q2 => ?_))
    refine wp_bndT (h0 q2 _ (p.mv m2)) (fun e γ' z => Xo.er (Fx.pre m2 z.1)) (fun a γ3 z => ?_)
    have x0 : XS (tkS (pkS γ)) γ3 [a] := z.2 a rfl
    have x : XS γ γ3 [a] := XS.pre m2 x0
    have sl0 := x0.1.2.2.2
    refine wp_mustBe x.lx (fun q3 => ?_) (fun q3 => Xo.er (x.mv (Mv.pk0 x.lx)).fx)
    have mx := Mv.tk0 x.lx
    have x2 := x.mv mx
    have mx40 := mx.2.1 0 40 (by omega)
    have mx5 := mx.2.2
    refine wp_nest x2.lx hd (fun q => Xo.er (x2.mv (Mv.pk0 x2.lx)).fx) (fun _ => ?_)
    refine wp_bndT (h0 q2 _ x2.1.1) (fun e γ' z => Xo.er (Fx.tr x2 z.1)) (fun b γ4 z => ?_)
    have g : XS (tkS γ3) γ4 [b] := z.2 b rfl
    have slg := g.1.2.2.2
    have ma := x2.2.1.2.mem a List.mem_cons_self
    have mb := g.2.1.2.mem b List.mem_cons_self
    have n4 := g.1.1.2.2.1
    have n5 := g.lx.2.1
    have n6 := g.lx.1
    have y := XS.app (ks := []) x2 g
    refine wp_chk (by omega) (wp_sub ?_)
    have s0 : ∀ j k, j ≠ 23 → setA γ4 23 a b j k = γ4 j k := fun j k r => by rw [stA, if_neg (by omega)]
    have sab : setA γ4 23 a b 23 a = b := by rw [stA, if_pos ⟨rfl, rfl⟩]
    have s40 := s0 0 40 (by omega)
    have s5 := s0 0 5 (by omega)
    generalize setA γ4 23 a b = γ5 at *
    refine wp_mustBe y.lx (fun q4 => ?_) (fun q4 => Xo.er (y.mv (Mv.pk0 y.lx)).fx)
    have my := Mv.tk0 y.lx
    have y2 := y.mv my
    have my40 := my.2.1 0 40 (by omega)
    have my5 := my.2.2
    have my23 : tkS γ5 23 a = b := by rw [my.2.1 23 a (by omega)]; exact sab
    refine wp_chk (by omega) (wp_nest y2.lx hd (fun q => Xo.er (y2.mv (Mv.pk0 y2.lx)).fx) (fun _ => ?_))
    refine wp_bndT (h0 q2 _ y2.1.1) (fun e γ' z => Xo.er (Fx.tr y2 z.1)) (fun c γ6 z => ?_)
    have g2 : XS (tkS γ5) γ6 [c] := z.2 c rfl
    have slg2 := g2.1.2.2.2
    have w3 := XS.app (ks := [a]) y2 g2
    rw [my23]
    refine wp_chk (by omega) (wp_sub ?_)
    have v0 : ∀ j k, j ≠ 23 → setA γ6 23 b c j k = γ6 j k := fun j k r => by rw [stA, if_neg (by omega)]
    have mk := w_mk (a0 := 4) (a1 := 0) w3 rfl ⟨fun q => by omega, fun q => by omega, fun q => rfl, fun q => by omega, fun q => by omega⟩ ⟨by omega, fun q => by omega, fun q => by omega, fun q => by omega⟩ (by rw [v0 0 5 (by omega), v0 0 40 (by omega)]; omega) p0
    exact wp_bndT mk (fun e γ' z => Xo.er z.1.1) (fun r γ' z => wp_some (Xo.ok (z.1.2 r rfl)))
  · rw [if_pos rfl]
    refine wp_bndT (h1 _ (p.mv m1)) (fun e γ' z => Xo.er (Fx.pre m1 z.1)) (fun r γ3 z => ?_)
    have x : XS γ γ3 [r] := XS.pre m1 (z.2 r rfl)
    have x1 := x.mv (Mv.pk0 x.lx)
    have t1 := pk_tK x.lx
    refine wp_bs (pkM_eq x.lx) (wp_ite (fun q2 => ?_) (fun q2 => ?_))
    · have x2 := x1.mv (Mv.pk0 x1.lx)
      have t2 := pk_tK x1.lx
      refine wp_yn (w_is x1.lx 17) (fun q3 => ?_) (fun q3 => wp_some (Xo.ok x2))
      rw [if_neg (by decide)]
      have := q3.1
      exact w_opn p x2 (by omega) hd h0 (by omega) (fun e γ' f => Xo.er f) (fun r γ' f => Xo.ok f)
    · exact w_opn p x1 (by omega) hd h0 (by omega) (fun e γ' f => Xo.er f) (fun r γ' f => Xo.ok f)
/-- every level is safe where the fuel is enough -/
theorem ME_w : ∀ (n : Nat) (d : Int), 0 ≤ d → d ≤ 40 → (∀ lv : Nat, lv ≤ 8 → (40 - d) * 12 + 10 - lv < n → EH (ME n) lv d) ∧ ((40 - d) * 12 + 1 < n → CH (ME n) d) := by
  intro n
  induction n with
  | zero => intro d h1 h2; exact ⟨fun lv a b => by exfalso; omega, fun b => by exfalso; omega⟩
  | succ n ih =>
    intro d h1 h2
    have i0 := ih d h1 h2
    have up : (40 - d) * 12 + 1 < (n : Int) + 1 → d < 40 → EH (ME n) 0 (d + 1) := fun q r => (ih (d + 1) (by omega) (by omega)).1 0 (by omega) (by omega)
    have up1 : ∀ lv : Nat, lv ≤ 8 → (40 - d) * 12 + 1 < (n : Int) + 1 → d < 40 → EH (ME n) lv (d + 1) := fun lv a q r => (ih (d + 1) (by omega) (by omega)).1 lv a (by omega)
    refine ⟨fun lv a b γ p => ?_, fun b γ k p k0 k1 => ?_⟩
    · have c : lv = 0 ∨ lv = 1 ∨ lv = 2 ∨ lv = 3 ∨ lv = 4 ∨ lv = 5 ∨ lv = 6 ∨ lv = 7 ∨ lv = 8 := by omega
      rcases c with c | c | c | c | c | c | c | c | c
      · subst c; exact w_expression p ⟨h1, h2⟩ (i0.1 1 (by omega) (by omega)) (up (by omega))
      · subst c; exact w_implied p ⟨h1, h2⟩ (i0.1 2 (by omega) (by omega)) (up1 1 (by omega) (by omega))
      · subst c; exact w_either p (i0.1 3 (by omega) (by omega))
      · subst c; exact w_both p (i0.1 4 (by omega) (by omega))
      · subst c; exact w_compared p (i0.1 5 (by omega) (by omega))
      · subst c; exact w_sum p (i0.1 6 (by omega) (by omega))
      · subst c; exact w_product p (i0.1 7 (by omega) (by omega))
      · subst c; exact w_unary p ⟨h1, h2⟩ (i0.1 8 (by omega) (by omega)) (up1 7 (by omega) (by omega))
      · subst c; exact w_atom p ⟨h1, h2⟩ (i0.2 (by omega)) (up (by omega))
    · exact w_callM p ⟨k0, k1⟩ ⟨h1, h2⟩ (up (by omega))
theorem w_Fexpression {γ : St} (p : PxI γ) : wp (F_M_expression γ 0) (Xo γ) := (ME_w 900 0 (by omega) (by omega)).1 0 (by omega) (by omega) γ p
theorem w_Fcall {γ : St} {k : Int} (p : PxI γ) (h0 : 0 ≤ k) (h1 : k < γ 0 18) : wp (F_M_call γ k 0) (Xc γ) := (ME_w 900 0 (by omega) (by omega)).2 (by omega) γ k p h0 h1
