/-! the reference's equations: equation -/
theorem EM.rf {γ0 γ : St} (h : EM γ0 γ) : Rf γ0 γ := h.1.2.1.re
theorem w_equation_b156 {l0 P0 : Int} {γ0 γ : St} (i : EqW l0 P0 γ0) (h : EM γ0 γ) (hl : γ0 0 31 < γ 0 31) (h5 : γ0 0 5 < γ 0 5) (h15 : 0 ≤ γ 15 (γ0 0 30) ∧ γ 15 (γ0 0 30) ≤ 10240) (hc : γ0 1 (γ 15 (γ0 0 30)) = 40) : wp (f_M_equation_b156 γ) (EqO l0 P0 γ0) := by
  have m1 := Mv.tk0 h.lx
  have m2 := m1.tk
  have m3 := m2.pk
  have m4 := m3.tk
  have h1 := h.mv m1
  have h2 := h.mv m2
  have h3 := h.mv m3
  have h4 := h.mv m4
  unfold f_M_equation_b156
  refine wp_must h.lx (fun q => ?_) (fun q => EqO.er (h.mv (Mv.pk0 h.lx)).rf)
  refine wp_must h1.lx (fun q => ?_) (fun q => EqO.er (h1.mv (Mv.pk0 h1.lx)).rf)
  refine wp_yn (w_nameHere h2.lx) (fun q => ?_) (fun q => ?_)
  · rw [if_pos (by decide)]
    have p := EM.px i h3
    have nd := p.1.2.1
    refine wp_bnd (w_nodeHere h2.lx.tko p.2.1 (by omega)) (fun r γ' hz => ?_)
    obtain ⟨r', e', f⟩ := hz
    cases e'
    refine wp_ite (fun q2 => ?_) (fun q2 => wp_some (EqO.er h3.rf))
    refine wp_bs (tkM_eq h3.lx) ?_
    have p4 := EM.px i h4
    have lt : r < tkS (pkS (tkS (tkS γ))) 0 18 := by
      rw [tkS_o _ 0 18 (by omega)]
      rcases f with f | f
      · exfalso; omega
      · exact f.1.2
    have k30 : tkS (pkS (tkS (tkS γ))) 0 30 = γ0 0 30 := h4.1.2.1 0 30 (by omega) (by omega) (by omega) (by omega)
    have k31 := m4.2.1 0 31 (by omega)
    have k15 := m4.2.1 15 (γ0 0 30) (by omega)
    have k5 := m4.2.2
    generalize tkS (pkS (tkS (tkS γ))) = γ4 at *
    refine wp_bndT (w_Fcall p4 q2 lt) (fun e γ' z => EqO.er (h4.rf.tr (Fx.re z.1.1))) (fun r2 γ5 z => ?_)
    have b := i.2.1
    have i1 := i.1.1.1.1
    have i5 := i.1.1.1.2.1
    rw [k30]
    refine wp_chk (by omega) (wp_sub (w_equation_b221 i h4 (z.1.2 r2 rfl) (by omega) (by omega) (by rw [k15]; exact h15) (fun _ => z.2 r2 rfl) (fun q => ?_)))
    rw [k15] at q
    exact absurd hc q
  · rw [if_neg (by decide)]
    exact wp_cant h3.lx (EqO.er (h3.mv (Mv.pk0 h3.lx)).rf)
theorem w_equation_L120 {l0 P0 : Int} {γ0 : St} (i : EqW l0 P0 γ0) : ∀ (n : Nat) (γ : St), EM γ0 γ → γ0 0 31 < γ 0 31 → γ0 0 5 < γ 0 5 → 0 ≤ γ 15 (γ0 0 30) ∧ γ 15 (γ0 0 30) ≤ 10240 → γ0 1 (γ 15 (γ0 0 30)) = 40 → γ 0 1 - γ 0 5 < n → wp (f_M_equation_L120 f_M_equation_b156 n γ) (EqO l0 P0 γ0) := by
  intro n
  induction n with
  | zero => intro γ h h1 h2 h3 h4 h5; have := h.lx.2.1; exfalso; omega
  | succ n ih =>
    intro γ h h1 h2 h3 h4 h5
    have m1 := Mv.pk0 h.lx
    have m2 := m1.tk
    unfold f_M_equation_L120
    refine wp_bs (pkM_eq h.lx) (wp_ite (fun q => ?_) (fun q => ?_))
    · have k5 := m1.2.2
      exact w_equation_b156 i (h.mv m1) (by rw [m1.2.1 0 31 (by omega)]; exact h1) (by omega) (by rw [m1.2.1 15 _ (by omega)]; exact h3) (by rw [m1.2.1 15 _ (by omega)]; exact h4)
    · have k5 := m2.2.2
      have k31 := m2.2.1 0 31 (by omega)
      have k1 := m2.2.1 0 1 (by omega)
      have k15 := m2.2.1 15 (γ0 0 30) (by omega)
      refine wp_bs (tkM_eq m1.1) (EM.left (K := fun γ38 => f_M_equation_L120 f_M_equation_b156 n γ38) (h.mv m2) (by have := i.2.2.1; omega) i.1.2.2 (fun e γ' r => EqO.er r) (fun γ' e g31 g5 g1 _ g15 => ?_))
      exact ih γ' e (by omega) (by omega) (by rw [g15, k15]; exact h3) (by rw [g15, k15]; exact h4) (by omega)
theorem w_equation {l0 P0 : Int} {γ : St} (i : EqW l0 P0 γ) : wp (f_M_equation γ) (EqO l0 P0 γ) := by
  have := FU_v
  have ⟨⟨a1, a2, a3, a4⟩, ⟨b1, b2, b3⟩, ⟨c1, c2, c3⟩, ⟨d1, d2, d3⟩, n9, n8, cn, el, ⟨f1, f2⟩, o9, o8⟩ := i
  have l0x := a1.1
  have x1 := l0x.1
  have x5 := l0x.2.1
  have te := l0x.te2
  have m := Mv.pk0 l0x
  have e := m.2.1
  have m5 := m.2.2
  have r30 := e 0 30 (by omega)
  have r31 := e 0 31 (by omega)
  have r40 := e 0 40 (by omega)
  unfold f_M_equation
  refine wp_bs (pkM_eq l0x) ?_
  rw [r30, pk_7]
  refine wp_chk (by omega) (wp_sub ?_)
  have u30 : setA (pkS γ) 15 (γ 0 30) (sk γ) 0 30 = γ 0 30 := by rw [stA, if_neg (by omega)]; exact r30
  have u31 : setA (pkS γ) 15 (γ 0 30) (sk γ) 0 31 = γ 0 31 := by rw [stA, if_neg (by omega)]; exact r31
  rw [u30, u31]
  refine wp_chk (by omega) (wp_sub ?_)
  have v30 : setA (setA (pkS γ) 15 (γ 0 30) (sk γ)) 16 (γ 0 30) (γ 0 31) 0 30 = γ 0 30 := by rw [stA, if_neg (by omega)]; exact u30
  have v40 : setA (setA (pkS γ) 15 (γ 0 30) (sk γ)) 16 (γ 0 30) (γ 0 31) 0 40 = γ 0 40 := by rw [stA, if_neg (by omega), stA, if_neg (by omega)]; exact r40
  rw [v30, v40]
  refine wp_chk (by omega) (wp_sub ?_)
  generalize hg : setA (setA (setA (pkS γ) 15 (γ 0 30) (sk γ)) 16 (γ 0 30) (γ 0 31)) 19 (γ 0 30) (γ 0 40) = γ1
  have s : ∀ j k, γ1 j k = if j = 19 ∧ k = γ 0 30 then γ 0 40 else if j = 16 ∧ k = γ 0 30 then γ 0 31 else if j = 15 ∧ k = γ 0 30 then sk γ else pkS γ j k := fun j k => by rw [← hg, stA, stA, stA]
  have s0 : ∀ j k, (j = 15 ∨ j = 16 ∨ j = 19 → k ≠ γ 0 30) → γ1 j k = pkS γ j k := fun j k q => by rw [s, if_neg (by omega), if_neg (by omega), if_neg (by omega)]
  have s1 : ∀ j k, (j = 0 → k < 5 ∨ 9 < k) → (j = 15 ∨ j = 16 ∨ j = 19 → k ≠ γ 0 30) → γ1 j k = γ j k := fun j k q1 q2 => by rw [s0 j k q2]; exact e j k (by omega)
  have w5 := s0 0 5 (by omega)
  have w31 := s1 0 31 (by omega) (by omega)
  have em : EM γ γ1 := by
    refine ⟨⟨(a1.mv m).fr (fun k _ => s0 0 k (by omega)) (fun j q k => s0 j k (by omega)), fun j k q1 q2 q3 q4 => s1 j k (by omega) q3, by omega⟩, ⟨by rw [s, if_neg (by omega), if_pos ⟨rfl, rfl⟩], by rw [s, if_pos ⟨rfl, rfl⟩]⟩, by omega, fun t q1 q2 => by omega, fun v q1 q2 => ?_, fun v q1 q2 => ?_⟩
    · rw [s1 13 v (by omega) (by omega), cn v q1 q2]
      have := cntN_b (γ 18) l0 (v - γ 4 (γ 0 18)) (γ 0 31 - l0).toNat
      omega
    · rw [s1 13 v (by omega) (by omega), w31, show (γ 0 31 - γ 0 31).toNat = 0 by omega]
      show γ 13 v = γ 13 v + 0
      omega
  have g15 : γ1 15 (γ 0 30) = sk γ := by rw [s, if_neg (by omega), if_neg (by omega), if_pos ⟨rfl, rfl⟩]
  have e1 : γ1 1 = γ 1 := funext fun k => s1 1 k (by omega) (by omega)
  have e01 : γ1 0 1 = γ 0 1 := s1 0 1 (by omega) (by omega)
  have es : sk γ1 = sk γ := by
    rw [← pkS_sk l0x]
    show skpF (γ1 1) (γ1 0 1) FU (γ1 0 5) = skpF (pkS γ 1) (pkS γ 0 1) FU (pkS γ 0 5)
    rw [e1, e01, w5, pkS_1, e 0 1 (by omega)]
  have et : tK γ1 = tkK (γ 1) (γ 0 1) (sk γ) := by
    show tkK (γ1 1) (γ1 0 1) (sk γ1) = _
    rw [e1, e01, es]
  have q1 := Mv.pk0 em.lx
  have em1 := em.mv q1
  have t1 := pk_tK em.lx
  have b15 : 0 ≤ sk γ ∧ sk γ ≤ 10240 := by omega
  refine wp_bs (pkM_eq em.lx) (wp_ite (fun q => ?_) (fun q => ?_))
  · have q2 := q1.tk
    have k15 := q2.2.1 15 (γ 0 30) (by omega)
    have k31 := q2.2.1 0 31 (by omega)
    have k1 := q2.2.1 0 1 (by omega)
    have k5 := q2.2.2
    have hc : γ 1 (sk γ) = 40 := tkK_40 (by rw [← et]; exact q)
    refine wp_bs (tkM_eq em1.lx) (EM.left (K := fun γ63 => f_M_equation_L120 f_M_equation_b156 FU γ63) (em.mv q2) (by omega) ⟨a3, a4⟩ (fun e γ' r => EqO.er r) (fun γ' e' g31 g5 g1 _ g15' => ?_))
    refine w_equation_L120 i FU γ' e' (by omega) (by omega) (by rw [g15', k15, g15]; exact b15) (by rw [g15', k15, g15]; exact hc) ?_
    have z1 := e'.lx.1
    have z2 := e'.lx.2.1
    omega
  · have k15 := q1.2.1 15 (γ 0 30) (by omega)
    have k31 := q1.2.1 0 31 (by omega)
    have k5 := q1.2.2
    refine EM.left (K := fun γ70 => bndT (f_M_must γ70 61) fun _ γ72 => bndT (F_M_expression γ72 0) fun r75 γ76 => chk (inb (γ72 0 30) 17000) (ap (setA γ76 17 (γ72 0 30) r75) fun γ77 => f_M_equation_b221 γ77)) em1 (by omega) ⟨a3, a4⟩ (fun e γ' r => EqO.er r) (fun γ' e' g31 g5 g1 tk g15' => ?_)
    have hc : γ 1 (sk γ) ≠ 40 := tkK_1 (by rw [← et, ← t1]; exact tk)
    refine wp_must e'.lx (fun q => ?_) (fun q => EqO.er (e'.mv (Mv.pk0 e'.lx)).rf)
    have m3 := Mv.tk0 e'.lx
    have h3 := e'.mv m3
    have p := EM.px i h3
    have k30 : tkS γ' 0 30 = γ 0 30 := h3.1.2.1 0 30 (by omega) (by omega) (by omega) (by omega)
    have j31 := m3.2.1 0 31 (by omega)
    have j15 := m3.2.1 15 (γ 0 30) (by omega)
    have j5 := m3.2.2
    have v15 : tkS γ' 15 (γ 0 30) = sk γ := by rw [j15, g15', k15, g15]
    refine wp_bndT (w_Fexpression p) (fun e γ' z => EqO.er (h3.rf.tr (Fx.re z.1))) (fun r2 γ5 z => ?_)
    rw [k30]
    refine wp_chk (by omega) (wp_sub (w_equation_b221 i h3 (z.2 r2 rfl) (by omega) (by omega) (by rw [v15]; exact b15) (fun q => ?_) (fun q => by omega)))
    rw [v15] at q
    exact absurd q hc
