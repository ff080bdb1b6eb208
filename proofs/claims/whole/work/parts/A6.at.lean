/-! the reference's parser: atom, call -/
theorem deF_dg {b : Int → Int} {L : Int} : ∀ (n : Nat) (p k : Int), p ≤ k → k < deF b L n p → dgB (b k) ≠ 0 := by
  intro n
  induction n with
  | zero => intro p k h1 h2; have : k < p := h2; omega
  | succ n ih =>
    intro p k h1 h2
    unfold deF at h2
    by_cases q : L ≤ p
    · rw [if_pos q] at h2; omega
    · rw [if_neg q] at h2
      by_cases q2 : dgB (b p) ≠ 0
      · rw [if_pos q2] at h2
        by_cases q3 : k = p
        · rw [q3]; exact q2
        · exact ih (p + 1) k (by omega) h2
      · rw [if_neg q2] at h2; omega
theorem sgK_2 (c d : Int) : sgK c d ≠ 2 := by
  unfold sgK
  grind (splits := 40)
theorem num_ok {b : Int → Int} {L s : Int} (h : tkK b L s = 2) : tkE b L s - s ≤ 9 ∧ ∀ k, s ≤ k → k < tkE b L s → 48 ≤ b k ∧ b k ≤ 57 := by
  unfold tkK at h
  unfold tkE
  by_cases q : L ≤ s
  · rw [if_pos q] at h; exact absurd h (by decide)
  · rw [if_neg q] at h ⊢
    by_cases q2 : ltB (b s) ≠ 0
    · rw [if_pos q2] at h
      exfalso
      split at h <;> omega
    · rw [if_neg q2] at h ⊢
      by_cases q3 : dgB (b s) ≠ 0
      · rw [if_pos q3] at h ⊢
        by_cases q4 : deF b L FU s - s ≤ 9
        · refine ⟨q4, fun k a1 a2 => ?_⟩
          have := deF_dg FU s k a1 a2
          unfold dgB at this
          by_cases q5 : 48 ≤ b k ∧ b k ≤ 57
          · exact q5
          · rw [if_neg q5] at this; exact absurd rfl this
        · rw [if_neg q4] at h; exact absurd h (by decide)
      · rw [if_neg q3] at h; exact absurd h (sgK_2 _ _)
theorem w_atom_L15 {γ : St} {E : Nat → St → Int → Int → Option Res} {x44 : St → Int → Option Res} {Q : Res → Prop} (h7 : 0 ≤ γ 0 7) (h8 : γ 0 8 ≤ 10240) (h9 : γ 0 8 - γ 0 7 ≤ 9) (hN : ∀ k, γ 0 7 ≤ k → k < γ 0 8 → 48 ≤ γ 1 k ∧ γ 1 k ≤ 57) (hb : ∀ v, wp (x44 γ v) Q) : ∀ (n : Nat) (x k : Int) (i : Nat), k = γ 0 7 + i → 0 ≤ x → x < ((10 ^ i : Nat) : Int) → γ 0 8 - k < n → 0 < n → wp (f_M_atom_L15 E x44 n γ x k) Q := by
  intro n
  induction n with
  | zero => intro x k i h1 h2 h3 h4 h5; exact absurd h5 (by omega)
  | succ n ih =>
    intro x k i h1 h2 h3 h4 h5
    unfold f_M_atom_L15
    refine wp_ite (fun q => hb x) (fun q => ?_)
    have dg := hN k (by omega) (by omega)
    have pw : 10 ^ i ≤ 10 ^ 8 := Nat.pow_le_pow_right (by decide) (by omega)
    have p8 : (10 : Nat) ^ 8 = 100000000 := by decide
    have ps : 10 ^ (i + 1) = 10 ^ i * 10 := Nat.pow_succ 10 i
    refine wp_chk (by omega) (wp_chk (by omega) (wp_chk (by omega) (wp_chk (by omega) (wp_sub (wp_chk (by omega) ?_)))))
    exact ih _ (k + 1) (i + 1) (by omega) (by omega) (by omega) (by omega) (by omega)
/-- a call's answer: its root is a call -/
def Xc (γ0 : St) (z : Res) : Prop := Xo γ0 z ∧ ∀ r, z.1 = .inr r → z.2 20 r = 3
theorem Xc.er {γ0 γ : St} {e : Int × Int} (h : Fx (γ0 0 40) (γ0 0 18) γ0 γ) : Xc γ0 (.inl e, γ) := ⟨Xo.er h, fun r q => by cases q⟩
theorem Xc.ok {γ0 γ : St} {r : Int} (h : XS γ0 γ [r]) (q : γ 20 r = 3) : Xc γ0 (.inr r, γ) := ⟨Xo.ok h, fun r' e => by cases e; exact q⟩
def CH (E : Nat → St → Int → Int → Option Res) (d : Int) : Prop := ∀ γ k, PxI γ → 0 ≤ k → k < γ 0 18 → wp (E 9 γ k d) (Xc γ)
set_option maxHeartbeats 1000000 in
theorem w_atom {γ : St} {d : Int} {E : Nat → St → Int → Int → Option Res} (p : PxI γ) (hd : 0 ≤ d ∧ d ≤ 40) (h9 : CH E d) (h0 : d < 40 → EH E 0 (d + 1)) : wp (f_M_atom E γ d) (Xo γ) := by
  have := FU_v
  have l0 := p.1.1
  have m1 := Mv.pk0 l0
  have m2 := m1.pk
  have m3 := m2.pk
  have m4 := m3.pk
  have m5 := m4.pk
  have t1 := pk_tK l0
  have t2 := pk_tK m1.1
  have t3 := pk_tK m2.1
  have t4 := pk_tK m3.1
  have t5 := pk_tK m4.1
  have leaf : ∀ (γ1 : St) (k w : Int), Mv γ γ1 → tK γ1 ≠ 0 → (k = 0 ∨ k = 1) → wp (bndN (f_M_take γ1) fun _ γ3 => bndT (f_M_make γ3 k w (-1) 1) fun r4 γ5 => some (.inr r4, γ5)) (Xo γ) := fun γ1 k w m t hk => by
    have m' := m.tk
    have lt := Mv.nz m.1 t
    have e40 := m'.2.1 0 40 (by omega)
    have l := m.2.2
    refine wp_bs (tkM_eq m.1) ?_
    refine wp_bndT (w_mk0 ((XS.nil p).mv m') (by unfold clw; rw [if_neg (by omega)]) ⟨fun q => rfl, fun q => by omega, fun q => by omega, fun q => by omega, fun q => by omega⟩ ⟨by omega, fun q => by omega, fun q => by omega, fun q => by omega⟩ (by omega) (XS.p0 p)) (fun e γ5 z => Xo.er z.1.1) (fun r5 γ5 z => wp_some (Xo.ok (z.1.2 r5 rfl)))
  have b77 : ∀ (γ1 : St), Mv γ γ1 → tK γ1 ≠ 0 → wp (f_M_atom_b77 E γ1) (Xo γ) := fun γ1 m t => by
    have t' := pk_tK m.1
    unfold f_M_atom_b77
    refine wp_yn (w_is m.1 20) (fun q2 => ?_) (fun q2 => ?_)
    · rw [if_neg (by decide)]; exact leaf _ 1 1 m.pk (by omega) (Or.inr rfl)
    · rw [if_pos rfl]; exact leaf _ 1 0 m.pk (by omega) (Or.inr rfl)
  unfold f_M_atom
  refine wp_bs (pkM_eq l0) (wp_ite (fun q => ?_) (fun q => ?_))
  · refine wp_yn (w_is m1.1 20) (fun q2 => ?_) (fun q2 => ?_)
    · rw [if_pos (by decide)]
      have := q2.1
      exact b77 _ m2 (by omega)
    · rw [if_neg (by decide)]
      refine wp_yn (w_is m2.1 21) (fun q3 => ?_) (fun q3 => ?_)
      · rw [if_neg (by decide)]
        have := q3.1
        exact b77 _ m3 (by omega)
      · rw [if_pos rfl]
        refine wp_bs (pkM_eq m3.1) (wp_ite (fun q4 => ?_) (fun q4 => ?_))
        · refine wp_yn (w_nameHere m4.1) (fun q5 => ?_) (fun q5 => ?_)
          · rw [if_pos (by decide)]
            refine wp_sub ?_
            have p5 := p.mv m5
            have ⟨⟨c1, c2, c3, c4, c5, c6, c7⟩, c8, c9, c10, c11⟩ := p5
            have tq := q5.1
            generalize hγ : pkS (pkS (pkS (pkS (pkS γ)))) = γ5 at *
            have tko : TkO γ5 := by rw [← hγ]; exact m4.1.tko
            refine wp_bnd (w_variableHere (lo := γ5 4 (γ5 0 18)) tko c5 c3.1 (by omega) (by omega) rfl) (fun v γ6 hz => ?_)
            obtain ⟨r', e', f⟩ := hz
            cases e'
            refine wp_bnd (w_nodeHere tko c8 (by omega)) (fun u γ6 hz => ?_)
            obtain ⟨r', e', f2⟩ := hz
            cases e'
            have m6 := m5.tk
            have m7 := m6.pk
            have lt := Mv.nz m5.1 (by omega)
            have l5 := m5.2.2
            have l7 := (Mv.pk0 m6.1).2.2
            have g18 := (Mv.tk0 m5.1).pk.2.1 0 18 (by omega)
            have g4 := (Mv.tk0 m5.1).pk.2.1 4 (γ5 0 18) (by omega)
            have k18 := m5.2.1 0 18 (by omega)
            have k19 := m5.2.1 0 19 (by omega)
            have k4 := m5.2.1 4 (γ 0 18) (by omega)
            have e40 := m7.2.1 0 40 (by omega)
            rw [k18] at g4 f c3 c4
            rw [k4] at g4 f c3 c4
            refine wp_bs (tkM_eq m5.1) (wp_bs (pkM_eq m6.1) (wp_ite (fun q6 => wp_ite (fun q7 => ?_) (fun q7 => wp_some (Xo.er (Fx.mv m7)))) (fun q6 => wp_ite (fun q7 => ?_) (fun q7 => wp_some (Xo.er (Fx.mv m7))))))
            · rcases f with f | f
              · exfalso; omega
              · rw [g18, k18, g4]
                refine wp_chk (by omega) (wp_chk (by omega) ?_)
                refine wp_bndT (w_mk0 ((XS.nil p).mv m7) rfl ⟨fun q => rfl, fun q => by omega, fun q => by omega, fun q => by omega, fun q => by omega⟩ ⟨by omega, fun q => by omega, fun q => by omega, fun q => by omega⟩ (by omega) (XS.p0 p)) (fun e γ5 z => Xo.er z.1.1) (fun r5 γ5 z => wp_some (Xo.ok (z.1.2 r5 rfl)))
            · rcases f2 with f2 | f2
              · exfalso; omega
              · refine wp_bndT (h9 _ u (p.mv m7) q7 (by omega)) (fun e γ' z => Xo.er (Fx.pre m7 z.1.1)) (fun r γ' z => wp_some (Xo.ok (XS.pre m7 (z.1.2 r rfl))))
          · rw [if_neg (by decide)]
            exact wp_cant m5.1 (Xo.er (Fx.mv m5.pk))
        · have m6 := m4.tk
          refine wp_bs (tkM_eq m4.1) (wp_nest m6.1 hd (fun q => Xo.er (Fx.mv m6.pk)) (fun q2 => ?_))
          refine wp_bndT (h0 q2 _ (p.mv m6)) (fun e γ' z => Xo.er (Fx.pre m6 z.1)) (fun r γ' z => ?_)
          have x : XS γ γ' [r] := XS.pre m6 (z.2 r rfl)
          exact wp_must x.lx (fun q5 => wp_some (Xo.ok (x.mv (Mv.tk0 x.lx)))) (fun q5 => Xo.er (x.mv (Mv.pk0 x.lx)).fx)
  · refine wp_sub ?_
    have nk := num_ok (b := γ 1) (L := γ 0 1) (s := sk γ) (by have : tK γ = 2 := by omega
                                                              exact this)
    have te := l0.te2
    have lx := l0.1
    have lx5 := l0.2.1
    have e7 := pk_7 γ
    have e8 := pk_8 γ
    refine w_atom_L15 (by omega) (by omega) (by rw [e7, e8]; exact nk.1) (fun k a1 a2 => by rw [pkS_1]; exact nk.2 k (by omega) (by rw [e8] at a2; exact a2)) (fun v => leaf _ 0 v m1 (by omega) (Or.inl rfl)) FU 0 _ 0 (by simp) (by omega) (by decide) (by omega) (by omega)
theorem w_call_b60 {γ0 γ : St} {k : Int} {ks : List Int} {E : Nat → St → Int → Int → Option Res} (p : PxI γ0) (x : XS γ0 γ ks) (hne : 1 ≤ ks.length) (hk : 0 ≤ k ∧ k < γ0 0 18) : wp (f_M_call_b60 E γ k (ks.headD (-1))) (Xc γ0) := by
  unfold f_M_call_b60
  refine wp_must x.lx (fun q => ?_) (fun q => Xc.er (x.mv (Mv.pk0 x.lx)).fx)
  have y := x.mv (Mv.tk0 x.lx)
  have lt := Mv.nz x.lx (by omega)
  have e40 := (Mv.tk0 x.lx).2.1 0 40 (by omega)
  have sl := x.1.2.2.2
  have p0 := XS.p0 p
  have ⟨⟨b1, b2, b3, b4⟩, ⟨h1, h2⟩, c, ⟨d1, d2⟩, ⟨f1, f2⟩⟩ := y
  have ⟨k1, k2, k3, k4, k5⟩ := b1
  have lx := k1.1
  have m := h2.mem
  have x1 := lx.1
  have x5 := lx.2.1
  generalize tkS γ = γ1 at *
  have w := w_make (a0 := 3) (a1 := k) lx (by omega) k1.2.1 (by omega) p0.1 h1 h2 (fun y hy => by obtain ⟨_, _, _, _, _, _, _, k⟩ := c y (m y hy).1 (m y hy).2; exact k)
  refine wp_bndT w (fun e γ2 hz => ?_) (fun r γ2 hz => ?_)
  · rcases hz with ⟨_, γ', e, _⟩ | ⟨_, γ', e, fr⟩
    · cases e
    · cases e
      refine Xc.er ⟨fun j k q1 q2 q3 => ?_, fun b => (b2.2 b).fr (fun k => fr 25 k (by omega) (by omega))⟩
      rw [fr j k q1 (fun r1 r2 _ => by have := q2 r1 r2; omega)]
      exact b2.1 j k q1 q2 q3
  · rcases hz with ⟨hH, γ', e, fr, c40, c20, c21, c22, c23, c24, c26, c27, c9, s9, s25⟩ | ⟨_, γ', e, _⟩
    · cases e
      have g18 : γ2 0 18 = γ1 0 18 := fr 0 18 (by omega) (by omega) (by omega)
      have g8 : γ2 8 (γ1 0 18) = γ1 8 (γ1 0 18) := fr 8 _ (by omega) (by omega) (by omega)
      rw [g18, g8]
      have nd := k1.2.1
      refine wp_chk (by omega) (wp_chk (by omega) (wp_chk (by omega) (wp_sub (wp_chk (by omega) (wp_sub (wp_some ?_))))))
      generalize hg : setA _ 25 (γ1 0 40) _ = γ3
      have s : ∀ j k, γ3 j k = if j = 25 ∧ k = γ1 0 40 then γ1 8 (γ1 0 18) else if j = 8 ∧ k = γ1 0 18 then γ1 8 (γ1 0 18) + 1 else γ2 j k := fun j k => by rw [← hg, stA, stA]
      have s0 : ∀ j k, (j = 25 → k ≠ γ1 0 40) → (j = 8 → k ≠ γ1 0 18) → γ3 j k = γ2 j k := fun j k r1 r2 => by rw [s, if_neg (by omega), if_neg (by omega)]
      refine Xc.ok (y.mk (a0 := 3) (a1 := k) (fun j k q1 q2 q3 => by rw [s0 j k (by omega) (by omega)]; exact fr j k q1 q2 (by omega)) (by rw [s0 0 40 (by omega) (by omega)]; exact c40) (by rw [s0 20 _ (by omega) (by omega)]; exact c20) (by rw [s0 21 _ (by omega) (by omega)]; exact c21) (by rw [s0 22 _ (by omega) (by omega)]; exact c22) (by rw [s0 23 _ (by omega) (by omega)]; exact c23) (by rw [s0 26 _ (by omega) (by omega)]; exact c26) (by rw [s0 27 _ (by omega) (by omega)]; exact c27) hH (by rw [s0 9 _ (by omega) (by omega)]; exact c9) (by rw [s, if_neg (by omega), if_pos ⟨rfl, rfl⟩]; rfl) (fun q => absurd q (by decide)) (fun q => by rw [s, if_pos ⟨rfl, rfl⟩]) ⟨fun q => by omega, fun q => hne, fun q => by omega, fun q => by omega, fun q => by omega⟩ ⟨by omega, fun q => by omega, fun q => hk, fun q => by omega⟩ (by omega) p0 (Or.inr (by rw [s, if_pos ⟨rfl, rfl⟩]; omega))) (by rw [s0 20 _ (by omega) (by omega)]; exact c20)
    · cases e
theorem w_call_L19 {γ0 : St} {k d : Int} {E : Nat → St → Int → Int → Option Res} (p : PxI γ0) (hk : 0 ≤ k ∧ k < γ0 0 18) (hd : 0 ≤ d ∧ d ≤ 40) (h0 : d < 40 → EH E 0 (d + 1)) : ∀ (n : Nat) (γ : St) (ks : List Int) (a f : Int), XS γ0 γ (ks ++ [a]) → f = (ks ++ [a]).headD (-1) → γ0 0 1 - γ 0 40 < n → wp (f_M_call_L19 E (f_M_call_b60 E) n γ k d f a) (Xc γ0) := by
  intro n
  induction n with
  | zero => intro γ ks a f x e h; exact absurd (x.end0 h) (by omega)
  | succ n ih =>
    intro γ ks a f x e h
    have x1 := x.mv (Mv.pk0 x.lx)
    have x2 := x1.mv (Mv.tk0 x1.lx)
    unfold f_M_call_L19
    refine wp_bs (pkM_eq x.lx) (wp_ite (fun q => ?_) (fun q => ?_))
    · rw [e]; exact w_call_b60 p x1 (by rw [List.length_append]; simp) hk
    · have ma := x2.2.1.2.mem a (List.mem_append_right _ List.mem_cons_self)
      have n40 := x2.1.1.2.2.1
      have x5 := x2.lx.2.1
      have x6 := x2.lx.1
      have p0 := XS.p0 p
      have e1 := pk_40 x.lx
      have e2 := (Mv.tk0 x1.lx).2.1 0 40 (by omega)
      refine wp_bs (tkM_eq x1.lx) (wp_nest x2.lx hd (fun q => Xc.er (x2.mv (Mv.pk0 x2.lx)).fx) (fun q2 => ?_))
      refine wp_bndT (h0 q2 _ x2.1.1) (fun e γ' z => Xc.er (Fx.tr x2 z.1)) (fun r γ' z => ?_)
      have g : XS _ γ' [r] := z.2 r rfl
      have y := XS.app x2 g
      have mb := g.2.1.2.mem r List.mem_cons_self
      refine wp_chk (by omega) (wp_sub (wp_chk (by omega) (wp_sub ?_)))
      rw [show setA γ' 23 a r 23 a = r from by rw [stA, if_pos ⟨rfl, rfl⟩]]
      have s40 : setA γ' 23 a r 0 40 = γ' 0 40 := by rw [stA, if_neg (by omega)]
      exact ih _ (ks ++ [a]) r f y (by rw [head_app]; exact e) (by rw [s40]; omega)
theorem w_callM {γ : St} {k d : Int} {E : Nat → St → Int → Int → Option Res} (p : PxI γ) (hk : 0 ≤ k ∧ k < γ 0 18) (hd : 0 ≤ d ∧ d ≤ 40) (h0 : d < 40 → EH E 0 (d + 1)) : wp (f_M_call E γ k d) (Xc γ) := by
  have l0 := p.1.1
  have m := Mv.tk0 l0
  unfold f_M_call
  refine wp_must l0 (fun q => ?_) (fun q => Xc.er (Fx.mv (Mv.pk0 l0)))
  refine wp_nest m.1 hd (fun q => Xc.er (Fx.mv m.pk)) (fun q2 => ?_)
  refine wp_bndT (h0 q2 _ (p.mv m)) (fun e γ' z => Xc.er (Fx.pre m z.1)) (fun r γ' z => ?_)
  have x : XS γ γ' [r] := XS.pre m (z.2 r rfl)
  exact w_call_L19 p hk hd h0 FU γ' [] r r x rfl x.fuel
