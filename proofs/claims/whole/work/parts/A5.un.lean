/-! the reference's parser: unary -/
theorem XS.pre {γ0 γ1 γ : St} {ks : List Int} (m : Mv γ0 γ1) (h : XS γ1 γ ks) : XS γ0 γ ks := by
  have ⟨⟨a1, a2, a3, a4⟩, ⟨b1, b2⟩, c, ⟨d1, d2⟩, ⟨f1, f2⟩⟩ := h
  have e := m.2.1
  have e40 := e 0 40 (by omega)
  have e18 := e 0 18 (by omega)
  have e19 := e 0 19 (by omega)
  have e4 := e 4 (γ0 0 18) (by omega)
  have e9 := e 9 (γ0 0 18) (by omega)
  have e8 := e 8 (γ0 0 18) (by omega)
  have m3 := m.2.2
  rw [e40] at a3 a4 b2 c d2 f2
  rw [e18, e4, e19] at c
  rw [e18, e9] at d1 d2
  rw [e18, e8] at f1 f2
  refine ⟨⟨a1, ⟨fun j k q1 q2 q3 => ?_, fun b => a2.2 (b.fr (fun k => e 25 k (by omega)))⟩, a3, by omega⟩, ⟨b1, b2⟩, c, ⟨d1, d2⟩, ⟨f1, f2⟩⟩
  rw [a2.1 j k q1 (by rw [e40]; exact q2) (by rw [e18]; exact q3)]
  exact e j k (by omega)
theorem Fx.pre {γ0 γ1 γ : St} (m : Mv γ0 γ1) (h : Fx (γ1 0 40) (γ1 0 18) γ1 γ) : Fx (γ0 0 40) (γ0 0 18) γ0 γ := by
  refine ⟨fun j k q1 q2 q3 => ?_, fun b => h.2 (b.fr (fun k => m.2.1 25 k (by omega)))⟩
  have e := m.2.1
  rw [h.1 j k q1 (by rw [e 0 40 (by omega)]; exact q2) (by rw [e 0 18 (by omega)]; exact q3)]
  exact e j k (by omega)
theorem Fx.mv {γ γ' : St} (m : Mv γ γ') : Fx (γ 0 40) (γ 0 18) γ γ' := ⟨fun j k q1 q2 q3 => m.2.1 j k (by omega), fun b => b.fr (fun k => m.2.1 25 k (by omega))⟩
theorem w_mk0 {γ0 γ : St} {a0 a1 : Int} (h : XS γ0 γ []) (n3 : clw a0 = 0) (ar : aryK a0 0) (wh : whK (γ0 0 19 - γ0 4 (γ0 0 18)) (γ0 0 18) a0 a1) (sl : γ0 0 5 - γ0 0 40 + 1 ≤ γ 0 5 - γ 0 40) (p0 : 0 ≤ γ0 0 40 ∧ γ0 0 40 ≤ γ0 0 5) : wp (f_M_make γ a0 a1 (-1) 1) (XoM γ0 γ) := w_mk (ks := []) h n3 ar wh sl p0
theorem w_mk1 {γ0 γ : St} {a a0 a1 : Int} (h : XS γ0 γ [a]) (n3 : clw a0 = 0) (ar : aryK a0 1) (wh : whK (γ0 0 19 - γ0 4 (γ0 0 18)) (γ0 0 18) a0 a1) (sl : γ0 0 5 - γ0 0 40 + 1 ≤ γ 0 5 - γ 0 40) (p0 : 0 ≤ γ0 0 40 ∧ γ0 0 40 ≤ γ0 0 5) : wp (f_M_make γ a0 a1 a 1) (XoM γ0 γ) := w_mk (ks := [a]) h n3 ar wh sl p0
theorem w_unary_L92 {γ0 : St} {E : Nat → St → Int → Int → Option Res} (p : PxI γ0) : ∀ (n : Nat) (γ : St) (a : Int), XS γ0 γ [a] → γ0 0 1 - γ 0 40 < n → wp (f_M_unary_L92 E (f_M_unary_b131 E) (f_M_unary_b161 E) n γ a) (Xo γ0) := by
  intro n
  induction n with
  | zero => intro γ a x h; exact absurd (x.end0 h) (by omega)
  | succ n ih =>
    intro γ a x h
    have b124 : ∀ (γ1 : St) (w : Int), XS γ0 γ1 [a] → γ1 0 40 = γ 0 40 → wp (f_M_unary_b124 E (f_M_unary_L92 E (f_M_unary_b131 E) (f_M_unary_b161 E) n) (f_M_unary_b131 E) (f_M_unary_b161 E) γ1 a w) (Xo γ0) := fun γ1 w y e => by
      have l1 := y.lx
      have m1 := Mv.pk0 l1
      have y1 := y.mv m1
      have l2 := y1.lx
      have ⟨c1, c2, c3, c4, c5, c6, c7⟩ := y1.1.1.1
      have e40 := pk_40 l1
      have f18 : pkS γ1 0 18 = γ0 0 18 := y1.fx.1 0 18 (by omega) (by omega) (by omega)
      have f19 : pkS γ1 0 19 = γ0 0 19 := y1.fx.1 0 19 (by omega) (by omega) (by omega)
      have f4 : pkS γ1 4 (γ0 0 18) = γ0 4 (γ0 0 18) := y1.fx.1 4 (γ0 0 18) (by omega) (by omega) (by omega)
      unfold f_M_unary_b124
      refine wp_yn (w_nameHere l1) (fun q => ?_) (fun q => ?_)
      · rw [if_pos (by decide)]
        refine wp_bnd (w_variableHere (lo := pkS γ1 4 (pkS γ1 0 18)) l1.tko c5 c3.1 (by omega) (by omega) rfl) (fun c γ3 hz => ?_)
        obtain ⟨r', e', f⟩ := hz
        cases e'
        refine wp_ite (fun q2 => wp_some (Xo.er y1.fx)) (fun q2 => ?_)
        rcases f with f | f
        · exfalso; omega
        · refine wp_chk (by omega) (wp_ite (fun q3 => ?_) (fun q3 => wp_some (Xo.er y1.fx)))
          refine wp_bndT (w_shallow y1.1.1.1 f.1.1 (by omega)) (fun e γ4 hz => ?_) (fun r γ4 hz => ?_)
          · rcases hz with hz | hz
            · cases hz
            · cases hz; exact Xo.er y1.fx
          · rcases hz with hz | hz
            · cases hz
              have m2 := Mv.tk0 l2
              have y2 := y1.mv m2
              refine wp_bs (tkM_eq l2) ?_
              have g18 := m2.2.1 0 18 (by omega)
              have g4 := m2.2.1 4 (pkS γ1 0 18) (by omega)
              have g40 := m2.2.1 0 40 (by omega)
              have lt := Mv.nz l2 (by rw [pk_tK l1, q.1]; decide)
              have sl := y1.1.2.2.2
              rw [g18, g4]
              have k1 : ∀ b, (b = 0 ∨ b = 1) → wp (f_M_unary_b211 E (f_M_unary_L92 E (f_M_unary_b131 E) (f_M_unary_b161 E) n) (f_M_unary_b131 E) (f_M_unary_b161 E) (tkS (pkS γ1)) a b (2 * (c - pkS γ1 4 (pkS γ1 0 18))) 26) (Xo γ0) := fun b hb => by
                unfold f_M_unary_b211
                refine wp_chk (by omega) ?_
                have f1 := f.1
                rw [f18, f4] at f1 ⊢
                refine wp_bndT (w_mk1 (a0 := 26) (a1 := 2 * (c - γ0 4 (γ0 0 18)) + b) y2 rfl ⟨fun q => by omega, fun q => by omega, fun q => by omega, fun q => by omega, fun q => rfl⟩ ⟨by omega, fun q => by omega, fun q => by omega, fun q => by omega⟩ (by omega) (XS.p0 p)) (fun e γ5 z => Xo.er z.1.1) (fun r5 γ5 z => ?_)
                have z40 : γ5 0 40 = tkS (pkS γ1) 0 40 + 1 := (z.2 r5 rfl).2.1
                exact ih γ5 r5 (z.1.2 r5 rfl) (by omega)
              refine wp_chk (by omega) (wp_chk (by omega) (wp_chk (by omega) (wp_ite (fun q4 => ?_) (fun q4 => ?_))))
              · exact k1 1 (Or.inr rfl)
              · exact k1 0 (Or.inl rfl)
            · cases hz
      · rw [if_neg (by decide)]
        unfold f_M_unary_b131
        exact wp_cant l2 (Xo.er (y1.mv (Mv.pk0 l2)).fx)
    have x1 := x.mv (Mv.pk0 x.lx)
    have x2 := x1.mv (Mv.tk0 x1.lx)
    have x3 := x2.mv (Mv.pk0 x2.lx)
    have x4 := x3.mv (Mv.tk0 x3.lx)
    have e1 := pk_40 x.lx
    have e2 := (Mv.tk0 x1.lx).2.1 0 40 (by omega)
    have e3 := pk_40 x2.lx
    have e4 := (Mv.tk0 x3.lx).2.1 0 40 (by omega)
    unfold f_M_unary_L92
    refine wp_yn (w_is x.lx 7) (fun q => ?_) (fun q => wp_some (Xo.ok x1))
    rw [if_neg (by decide)]
    refine wp_bs (tkM_eq x1.lx) ?_
    refine wp_yn (w_is x2.lx 8) (fun q2 => ?_) (fun q2 => ?_)
    · rw [if_neg (by decide)]
      refine wp_bs (tkM_eq x3.lx) ?_
      exact b124 _ 1 x4 (by omega)
    · rw [if_pos rfl]
      exact b124 _ 0 x3 (by omega)
theorem w_unary {γ : St} {d : Int} {E : Nat → St → Int → Int → Option Res} (p : PxI γ) (hd : 0 ≤ d ∧ d ≤ 40) (h8 : EH E 8 d) (h7 : d < 40 → EH E 7 (d + 1)) : wp (f_M_unary E γ d) (Xo γ) := by
  have b60 : ∀ (γ1 : St) (k : Int), Mv γ γ1 → (k = 0 ∨ tK γ1 ≠ 0 ∧ 22 ≤ k ∧ k ≤ 25) → wp (f_M_unary_b60 E γ1 d k) (Xo γ) := fun γ1 k m hk => by
    have p1 := p.mv m
    unfold f_M_unary_b60
    refine wp_ite (fun q => ?_) (fun q => ?_)
    · refine wp_bndT (h8 γ1 p1) (fun e γ' z => Xo.er (Fx.pre m z.1)) (fun r γ' z => ?_)
      have x : XS γ γ' [r] := XS.pre m (z.2 r rfl)
      exact w_unary_L92 p FU γ' r x x.fuel
    · have l1 := m.1
      have m2 := m.tk
      have lt := Mv.nz l1 (by omega)
      have e40 := m2.2.1 0 40 (by omega)
      have m3 := m.2.2
      refine wp_bs (tkM_eq l1) (wp_nest m2.1 hd (fun q => Xo.er (Fx.mv m2.pk)) (fun q2 => ?_))
      refine wp_bndT (h7 q2 _ (p.mv m2)) (fun e γ' z => Xo.er (Fx.pre m2 z.1)) (fun r γ' z => ?_)
      have x0 : XS (tkS γ1) γ' [r] := z.2 r rfl
      have x : XS γ γ' [r] := XS.pre m2 x0
      have sl := x0.1.2.2.2
      refine wp_bndT (w_mk1 (a0 := k) (a1 := 0) x (by unfold clw; rw [if_neg (by omega)]) ⟨fun q => by omega, fun q => by omega, fun q => by omega, fun q => by omega, fun q => rfl⟩ ⟨by omega, fun q => by omega, fun q => by omega, fun q => by omega⟩ (by omega) (XS.p0 p)) (fun e γ5 z => Xo.er z.1.1) (fun r5 γ5 z => wp_some (Xo.ok (z.1.2 r5 rfl)))
  have l0 := p.1.1
  have m1 := Mv.pk0 l0
  have m2 := m1.pk
  have m3 := m2.pk
  have m4 := m3.pk
  have t1 := pk_tK l0
  have t2 := pk_tK m1.1
  have t3 := pk_tK m2.1
  have t4 := pk_tK m3.1
  unfold f_M_unary
  refine wp_bs (pkM_eq l0) (wp_ite (fun q => ?_) (fun q => ?_))
  · refine wp_yn (w_is m1.1 8) (fun q2 => ?_) (fun q2 => ?_)
    · have := q2.1
      rw [if_neg (by decide)]; exact b60 _ 23 m2 (Or.inr (by omega))
    · rw [if_pos rfl]
      refine wp_yn (w_is m2.1 15) (fun q3 => ?_) (fun q3 => ?_)
      · have := q3.1
        rw [if_neg (by decide)]; exact b60 _ 24 m3 (Or.inr (by omega))
      · rw [if_pos rfl]
        refine wp_yn (w_is m3.1 16) (fun q4 => ?_) (fun q4 => ?_)
        · have := q4.1
          rw [if_neg (by decide)]; exact b60 _ 25 m4 (Or.inr (by omega))
        · rw [if_pos rfl]; exact b60 _ 0 m4 (Or.inl rfl)
  · exact b60 _ 22 m1 (Or.inr (by omega))
