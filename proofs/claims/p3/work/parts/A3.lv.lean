/-! the reference's parser: the levels from implied to product -/
def EH (E : Nat → St → Int → Int → Option Res) (lv : Nat) (d : Int) : Prop := ∀ γ, PxI γ → wp (E lv γ d 0) (Xo γ)
theorem wp_nest {γ : St} {d : Int} {k : Int → St → Option Res} {Q : Res → Prop} (h : LX γ) (hd : 0 ≤ d ∧ d ≤ 40) (t : 40 ≤ d → Q (.inl (3, sk γ), pkS γ)) (y : d < 40 → wp (k (d + 1) γ) Q) : wp (bndT (f_M_nest γ d) k) Q := by
  unfold f_M_nest
  by_cases q : 40 ≤ d
  · rw [if_pos q, bndN_eq (pkM_eq h), pk_7]
    exact t q
  · rw [if_neg q, chk_t (by omega)]
    exact y (by omega)
theorem XS.p0 {γ : St} (h : PxI γ) : 0 ≤ γ 0 40 ∧ γ 0 40 ≤ γ 0 5 := h.2.2.1
/-- a sign is taken, the right side read, and both put under one -/
theorem w_op {γ0 γ1 : St} {a k d : Int} {E : Nat → St → Int → Int → Option Res} {lv : Nat} {K : Int → St → Option Res} {Q : Res → Prop} (p : PxI γ0) (h : XS γ0 γ1 [a]) (tok : tK γ1 ≠ 0) (hE : EH E lv d) (hk : 5 ≤ k ∧ k ≤ 21) (kt : ∀ e γ', Fx (γ0 0 40) (γ0 0 18) γ0 γ' → Q (.inl e, γ')) (kk : ∀ r γ', XS γ0 γ' [r] → γ1 0 40 < γ' 0 40 → γ' 0 1 = γ0 0 1 → wp (K r γ') Q) : wp (bndT (E lv (tkS γ1) d 0) fun r6 γ7 => bndT (f_M_two γ7 k a r6) fun r8 γ9 => K r8 γ9) Q := by
  have l1 := h.lx
  have m := Mv.tk0 l1
  have h2 := h.mv m
  have lt := Mv.nz l1 tok
  have e40 := m.2.1 0 40 (by omega)
  have e1 := m.2.1 0 1 (by omega)
  refine wp_bndT (hE _ h2.1.1) (fun e γ' z => kt e γ' (Fx.tr h2 z.1)) (fun r γ' z => ?_)
  have g : XS (tkS γ1) γ' [r] := z.2 r rfl
  have sl := g.1.2.2.2
  have sl0 := h.1.2.2.2
  have n2 := g.1.2.2.1
  have f1 : γ' 0 1 = tkS γ1 0 1 := g.fx.1 0 1 (by omega) (by omega) (by omega)
  refine wp_bndT (w_two h2 g hk (by omega) (XS.p0 p)) (fun e γ2 z => kt e γ2 z.1.1) (fun r2 γ2 z => ?_)
  have z2 := z.2 r2 rfl
  have z40 : γ2 0 40 = γ' 0 40 + 1 := z2.2.1
  have x : XS γ0 γ2 [r2] := z.1.2 r2 rfl
  have f0 : γ2 0 1 = γ0 0 1 := x.fx.1 0 1 (by omega) (by omega) (by omega)
  exact kk r2 γ2 x (by omega) f0
/-- the same, one deeper -/
theorem w_opn {γ0 γ1 : St} {a k d : Int} {E : Nat → St → Int → Int → Option Res} {lv : Nat} {Q : Res → Prop} (p : PxI γ0) (h : XS γ0 γ1 [a]) (tok : tK γ1 ≠ 0) (hd : 0 ≤ d ∧ d ≤ 40) (hE : d < 40 → EH E lv (d + 1)) (hk : 5 ≤ k ∧ k ≤ 21) (kt : ∀ e γ', Fx (γ0 0 40) (γ0 0 18) γ0 γ' → Q (.inl e, γ')) (kk : ∀ r γ', XS γ0 γ' [r] → Q (.inr r, γ')) : wp (bndN (f_M_take γ1) fun _ γ5 => bndT (f_M_nest γ5 d) fun r γ6 => bndT (E lv γ6 r 0) fun r6 γ7 => bndT (f_M_two γ7 k a r6) fun r8 γ9 => some (.inr r8, γ9)) Q := by
  have l1 := h.lx
  refine wp_bs (tkM_eq l1) (wp_nest l1.tk hd (fun q => kt _ _ (h.mv (Mv.tk0 l1).pk).fx) (fun q => ?_))
  exact w_op (K := fun r8 γ9 => some (.inr r8, γ9)) p h tok (hE q) hk kt (fun r γ' x _ _ => wp_some (kk r γ' x))
theorem w_implied {γ : St} {d : Int} {E : Nat → St → Int → Int → Option Res} (p : PxI γ) (hd : 0 ≤ d ∧ d ≤ 40) (h2 : EH E 2 d) (h1 : d < 40 → EH E 1 (d + 1)) : wp (f_M_implied E γ d) (Xo γ) := by
  unfold f_M_implied
  refine wp_bndT (h2 γ p) (fun e γ' z => Xo.er z.1) (fun r γ' z => ?_)
  have x : XS γ γ' [r] := z.2 r rfl
  have x1 := x.mv (Mv.pk0 x.lx)
  refine wp_bs (pkM_eq x.lx) (wp_ite (fun q => ?_) (fun q => wp_some (Xo.ok x1)))
  exact w_opn p x1 (by rw [pk_tK x.lx, q]; decide) hd h1 (by omega) (fun e γ' f => Xo.er f) (fun r γ' f => Xo.ok f)
theorem w_both_L6 {γ0 : St} {d : Int} {E : Nat → St → Int → Int → Option Res} (p : PxI γ0) (h4 : EH E 4 d) : ∀ (n : Nat) (γ : St) (a : Int), XS γ0 γ [a] → γ0 0 1 - γ 0 40 < n → wp (f_M_both_L6 E n γ d a) (Xo γ0) := by
  intro n
  induction n with
  | zero =>
    intro γ a x h
    have := x.1.1.2.2.1
    have := x.lx.2.1
    have f0 : γ 0 1 = γ0 0 1 := x.fx.1 0 1 (by omega) (by omega) (by omega)
    exfalso; omega
  | succ n ih =>
    intro γ a x h
    have x1 := x.mv (Mv.pk0 x.lx)
    have e40 : pkS γ 0 40 = γ 0 40 := (Mv.pk0 x.lx).2.1 0 40 (by omega)
    unfold f_M_both_L6
    refine wp_yn (w_is x.lx 9) (fun q => ?_) (fun q => wp_some (Xo.ok x1))
    rw [if_neg (by decide)]
    refine wp_bs (tkM_eq x1.lx) ?_
    exact w_op (K := fun r8 γ9 => f_M_both_L6 E n γ9 d r8) p x1 (by rw [pk_tK x.lx, q.1]; decide) h4 (by omega) (fun e γ' f => Xo.er f) (fun r γ' f lt _ => ih γ' r f (by omega))
theorem XS.fuel {γ0 γ : St} {ks : List Int} (h : XS γ0 γ ks) : γ0 0 1 - γ 0 40 < FU := by
  have := FU_v
  have a := h.lx.1
  have b := h.1.1.2.2.1
  have f0 : γ 0 1 = γ0 0 1 := h.fx.1 0 1 (by omega) (by omega) (by omega)
  omega
theorem w_both {γ : St} {d : Int} {E : Nat → St → Int → Int → Option Res} (p : PxI γ) (h4 : EH E 4 d) : wp (f_M_both E γ d) (Xo γ) := by
  unfold f_M_both
  refine wp_bndT (h4 γ p) (fun e γ' z => Xo.er z.1) (fun r γ' z => ?_)
  have x : XS γ γ' [r] := z.2 r rfl
  exact w_both_L6 p h4 FU γ' r x x.fuel
