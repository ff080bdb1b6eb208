/-! the reference's parser: either, compared, sum, product -/
theorem XS.end0 {γ0 γ : St} {ks : List Int} {n : Nat} (x : XS γ0 γ ks) (h : γ0 0 1 - γ 0 40 < n) : 0 < n := by
  have := x.1.1.2.2.1
  have := x.lx.2.1
  have f0 : γ 0 1 = γ0 0 1 := x.fx.1 0 1 (by omega) (by omega) (by omega)
  omega
theorem pk_40 {γ : St} (h : LX γ) : pkS γ 0 40 = γ 0 40 := (Mv.pk0 h).2.1 0 40 (by omega)
theorem w_either_L6 {γ0 : St} {d : Int} {E : Nat → St → Int → Int → Option Res} (p : PxI γ0) (h3 : EH E 3 d) : ∀ (n : Nat) (γ : St) (a : Int), XS γ0 γ [a] → γ0 0 1 - γ 0 40 < n → wp (f_M_either_L6 E n γ d a) (Xo γ0) := by
  intro n
  induction n with
  | zero => intro γ a x h; exact absurd (x.end0 h) (by omega)
  | succ n ih =>
    intro γ a x h
    have b43 : ∀ (γ1 : St) (k : Int), XS γ0 γ1 [a] → tK γ1 = 1 → γ1 0 40 = γ 0 40 → (k = 8 ∨ k = 9) → wp (f_M_either_b43 E (f_M_either_L6 E n) γ1 d a k) (Xo γ0) := fun γ1 k y t e hk => by
      unfold f_M_either_b43
      refine wp_bs (tkM_eq y.lx) ?_
      exact w_op (K := fun r8 γ9 => f_M_either_L6 E n γ9 d r8) p y (by rw [t]; decide) h3 (by omega) (fun e γ' f => Xo.er f) (fun r γ' f lt _ => ih γ' r f (by omega))
    have b26 : ∀ (γ1 : St), XS γ0 γ1 [a] → tK γ1 = 1 → γ1 0 40 = γ 0 40 → wp (f_M_either_b26 E (f_M_either_L6 E n) γ1 d a) (Xo γ0) := fun γ1 y t e => by
      have y1 := y.mv (Mv.pk0 y.lx)
      have t1 : tK (pkS γ1) = 1 := by rw [pk_tK y.lx]; exact t
      have e1 := pk_40 y.lx
      unfold f_M_either_b26
      refine wp_yn (w_is y.lx 10) (fun q => ?_) (fun q => ?_)
      · rw [if_neg (by decide)]; exact b43 _ 8 y1 t1 (by omega) (Or.inl rfl)
      · rw [if_pos rfl]; exact b43 _ 9 y1 t1 (by omega) (Or.inr rfl)
    have x1 := x.mv (Mv.pk0 x.lx)
    have x2 := x1.mv (Mv.pk0 x1.lx)
    have e1 := pk_40 x.lx
    have e2 := pk_40 x1.lx
    unfold f_M_either_L6
    refine wp_yn (w_is x.lx 10) (fun q => ?_) (fun q => ?_)
    · rw [if_pos (by decide)]
      exact b26 _ x1 (by rw [pk_tK x.lx]; exact q.1) e1
    · rw [if_neg (by decide)]
      refine wp_yn (w_is x1.lx 11) (fun q2 => ?_) (fun q2 => wp_some (Xo.ok x2))
      rw [if_neg (by decide)]
      exact b26 _ x2 (by rw [pk_tK x1.lx]; exact q2.1) (by omega)
theorem w_either {γ : St} {d : Int} {E : Nat → St → Int → Int → Option Res} (p : PxI γ) (h3 : EH E 3 d) : wp (f_M_either E γ d) (Xo γ) := by
  unfold f_M_either
  refine wp_bndT (h3 γ p) (fun e γ' z => Xo.er z.1) (fun r γ' z => ?_)
  have x : XS γ γ' [r] := z.2 r rfl
  exact w_either_L6 p h3 FU γ' r x x.fuel
theorem w_compared {γ : St} {d : Int} {E : Nat → St → Int → Int → Option Res} (p : PxI γ) (h5 : EH E 5 d) : wp (f_M_compared E γ d) (Xo γ) := by
  unfold f_M_compared
  refine wp_bndT (h5 γ p) (fun e γ' z => Xo.er z.1) (fun r γ' z => ?_)
  have x : XS γ γ' [r] := z.2 r rfl
  have x1 := x.mv (Mv.pk0 x.lx)
  have b81 : ∀ k, (k = 0 ∨ tK γ' ≠ 0 ∧ 11 ≤ k ∧ k ≤ 16) → wp (f_M_compared_b81 E (pkS γ') d r k) (Xo γ) := fun k hk => by
    unfold f_M_compared_b81
    refine wp_ite (fun q => ?_) (fun q => wp_some (Xo.ok x1))
    refine wp_bs (tkM_eq x1.lx) ?_
    exact w_op (K := fun r8 γ9 => some (.inr r8, γ9)) p x1 (by rw [pk_tK x.lx]; omega) h5 (by omega) (fun e γ' f => Xo.er f) (fun r γ' f _ _ => wp_some (Xo.ok f))
  refine wp_bs (pkM_eq x.lx) (wp_ite (fun q1 => wp_ite (fun q2 => wp_ite (fun q3 => wp_ite (fun q4 => wp_ite (fun q5 => wp_ite (fun q6 => ?_) (fun q6 => ?_)) (fun q5 => ?_)) (fun q4 => ?_)) (fun q3 => ?_)) (fun q2 => ?_)) (fun q1 => ?_))
  · exact b81 0 (Or.inl rfl)
  · exact b81 16 (Or.inr (by omega))
  · exact b81 15 (Or.inr (by omega))
  · exact b81 14 (Or.inr (by omega))
  · exact b81 13 (Or.inr (by omega))
  · exact b81 12 (Or.inr (by omega))
  · exact b81 11 (Or.inr (by omega))
theorem w_sum_L6 {γ0 : St} {d : Int} {E : Nat → St → Int → Int → Option Res} (p : PxI γ0) (h6 : EH E 6 d) : ∀ (n : Nat) (γ : St) (a : Int), XS γ0 γ [a] → γ0 0 1 - γ 0 40 < n → wp (f_M_sum_L6 E n γ d a) (Xo γ0) := by
  intro n
  induction n with
  | zero => intro γ a x h; exact absurd (x.end0 h) (by omega)
  | succ n ih =>
    intro γ a x h
    have b40 : ∀ (γ1 : St) (k : Int), XS γ0 γ1 [a] → tK γ1 ≠ 0 → γ1 0 40 = γ 0 40 → (k = 17 ∨ k = 18) → wp (f_M_sum_b40 E (f_M_sum_L6 E n) γ1 d a k) (Xo γ0) := fun γ1 k y t e hk => by
      unfold f_M_sum_b40
      refine wp_bs (tkM_eq y.lx) ?_
      exact w_op (K := fun r8 γ9 => f_M_sum_L6 E n γ9 d r8) p y t h6 (by omega) (fun e γ' f => Xo.er f) (fun r γ' f lt _ => ih γ' r f (by omega))
    have b24 : ∀ (γ1 : St), XS γ0 γ1 [a] → tK γ1 ≠ 0 → γ1 0 40 = γ 0 40 → wp (f_M_sum_b24 E (f_M_sum_L6 E n) γ1 d a) (Xo γ0) := fun γ1 y t e => by
      have y1 := y.mv (Mv.pk0 y.lx)
      have t1 : tK (pkS γ1) ≠ 0 := by rw [pk_tK y.lx]; exact t
      have e1 := pk_40 y.lx
      unfold f_M_sum_b24
      refine wp_bs (pkM_eq y.lx) (wp_ite (fun q => ?_) (fun q => ?_))
      · exact b40 _ 18 y1 t1 (by omega) (Or.inr rfl)
      · exact b40 _ 17 y1 t1 (by omega) (Or.inl rfl)
    have x1 := x.mv (Mv.pk0 x.lx)
    have x2 := x1.mv (Mv.pk0 x1.lx)
    have e1 := pk_40 x.lx
    have e2 := pk_40 x1.lx
    have t1 := pk_tK x.lx
    have t2 := pk_tK x1.lx
    unfold f_M_sum_L6
    refine wp_bs (pkM_eq x.lx) (wp_ite (fun q => ?_) (fun q => ?_))
    · exact b24 _ x1 (by omega) e1
    · refine wp_bs (pkM_eq x1.lx) (wp_ite (fun q2 => wp_some (Xo.ok x2)) (fun q2 => ?_))
      exact b24 _ x2 (by omega) (by omega)
theorem w_sum {γ : St} {d : Int} {E : Nat → St → Int → Int → Option Res} (p : PxI γ) (h6 : EH E 6 d) : wp (f_M_sum E γ d) (Xo γ) := by
  unfold f_M_sum
  refine wp_bndT (h6 γ p) (fun e γ' z => Xo.er z.1) (fun r γ' z => ?_)
  have x : XS γ γ' [r] := z.2 r rfl
  exact w_sum_L6 p h6 FU γ' r x x.fuel
theorem w_product_L6 {γ0 : St} {d : Int} {E : Nat → St → Int → Int → Option Res} (p : PxI γ0) (h7 : EH E 7 d) : ∀ (n : Nat) (γ : St) (a : Int), XS γ0 γ [a] → γ0 0 1 - γ 0 40 < n → wp (f_M_product_L6 E n γ d a) (Xo γ0) := by
  intro n
  induction n with
  | zero => intro γ a x h; exact absurd (x.end0 h) (by omega)
  | succ n ih =>
    intro γ a x h
    have b66 : ∀ (γ1 : St) (k : Int), XS γ0 γ1 [a] → tK γ1 ≠ 0 → γ1 0 40 = γ 0 40 → (19 ≤ k ∧ k ≤ 21) → wp (f_M_product_b66 E (f_M_product_L6 E n) γ1 d a k) (Xo γ0) := fun γ1 k y t e hk => by
      unfold f_M_product_b66
      refine wp_bs (tkM_eq y.lx) ?_
      exact w_op (K := fun r8 γ9 => f_M_product_L6 E n γ9 d r8) p y t h7 (by omega) (fun e γ' f => Xo.er f) (fun r γ' f lt _ => ih γ' r f (by omega))
    have b35 : ∀ (γ1 : St), XS γ0 γ1 [a] → tK γ1 ≠ 0 → γ1 0 40 = γ 0 40 → wp (f_M_product_b35 E (f_M_product_L6 E n) γ1 d a) (Xo γ0) := fun γ1 y t e => by
      have y1 := y.mv (Mv.pk0 y.lx)
      have y2 := y1.mv (Mv.pk0 y1.lx)
      have t1 := pk_tK y.lx
      have t2 := pk_tK y1.lx
      have e1 := pk_40 y.lx
      have e2 := pk_40 y1.lx
      unfold f_M_product_b35
      refine wp_bs (pkM_eq y.lx) (wp_ite (fun q => ?_) (fun q => ?_))
      · refine wp_yn (w_is y1.lx 18) (fun q2 => ?_) (fun q2 => ?_)
        · rw [if_neg (by decide)]; exact b66 _ 20 y2 (by omega) (by omega) (by omega)
        · rw [if_pos rfl]; exact b66 _ 21 y2 (by omega) (by omega) (by omega)
      · exact b66 _ 19 y1 (by omega) (by omega) (by omega)
    have x1 := x.mv (Mv.pk0 x.lx)
    have x2 := x1.mv (Mv.pk0 x1.lx)
    have x3 := x2.mv (Mv.pk0 x2.lx)
    have e1 := pk_40 x.lx
    have e2 := pk_40 x1.lx
    have e3 := pk_40 x2.lx
    have t1 := pk_tK x.lx
    have t2 := pk_tK x1.lx
    have t3 := pk_tK x2.lx
    unfold f_M_product_L6
    refine wp_bs (pkM_eq x.lx) (wp_ite (fun q => ?_) (fun q => ?_))
    · exact b35 _ x1 (by omega) e1
    · refine wp_yn (w_is x1.lx 18) (fun q2 => ?_) (fun q2 => ?_)
      · rw [if_pos (by decide)]
        have := q2.1
        exact b35 _ x2 (by omega) (by omega)
      · rw [if_neg (by decide)]
        refine wp_yn (w_is x2.lx 19) (fun q3 => ?_) (fun q3 => wp_some (Xo.ok x3))
        rw [if_neg (by decide)]
        have := q3.1
        exact b35 _ x3 (by omega) (by omega)
theorem w_product {γ : St} {d : Int} {E : Nat → St → Int → Int → Option Res} (p : PxI γ) (h7 : EH E 7 d) : wp (f_M_product E γ d) (Xo γ) := by
  unfold f_M_product
  refine wp_bndT (h7 γ p) (fun e γ' z => Xo.er z.1) (fun r γ' z => ?_)
  have x : XS γ γ' [r] := z.2 r rfl
  exact w_product_L6 p h7 FU γ' r x x.fuel
