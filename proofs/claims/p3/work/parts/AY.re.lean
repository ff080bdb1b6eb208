/-! the reference: read, all of it -/
/-- while the causes are listed -/
def LsI (c : Int) (γ : St) (v : Int) : Prop := MoI c γ ∧ γ 0 49 = -1 ∧ LkM γ ∧ CsM γ ∧ (∀ u, 0 ≤ u → u < v → 0 ≤ γ 44 u ∧ γ 44 u ≤ γ 0 67) ∧ (∀ u, 0 ≤ u → u + 1 < v → u < γ 5 (γ 0 18 - 1) → γ 44 u = γ 44 (u + 1)) ∧ (0 < v → v - 1 < γ 5 (γ 0 18 - 1) → γ 44 (v - 1) = γ 0 67)
theorem w_read_b245 {c : Int} {γ : St} (hc : c < 512) (h : LsI c γ (γ 0 51)) : wp (f_M_read_b245 γ) (RdO c) := by
  have ⟨m, m49, l, cs, h1, h2, h3⟩ := h
  have m51 := l.2.2.2.1
  have m18 := l.2.1
  unfold f_M_read_b245
  refine wp_chk (by omega) (wp_sub ?_)
  have s : ∀ j k, setA γ 44 (γ 0 51) (γ 0 67) j k = if j = 44 ∧ k = γ 0 51 then γ 0 67 else γ j k := fun j k => by rw [stA]
  generalize setA γ 44 (γ 0 51) (γ 0 67) = γ1 at *
  have s0 : ∀ j k, (j = 44 → k ≠ γ 0 51) → γ1 j k = γ j k := fun j k q => by rw [s, if_neg (by omega)]
  have s44 : γ1 44 (γ 0 51) = γ 0 67 := by rw [s, if_pos ⟨rfl, rfl⟩]
  have fl : FL γ γ1 := fun j k q1 q2 => s0 j k (by omega)
  have l1 := l.fl fl
  have mm := m.rd m49 (γ' := γ1) (fun k q => s0 0 k (by omega)) (by rw [s0 0 55 (by omega)]; exact m.2.2.2.2.2.2.1) (fun k => s0 1 k (by omega)) (m.2.2.2.1.fr (fun k => s0 14 k (by omega)) (fun k => s0 28 k (by omega)) (fun k => s0 25 k (by omega))) (m.2.2.2.2.1.fr (fun j k q => s0 j k (by omega)))
  have e51 := s0 0 51 (by omega)
  have e67 := s0 0 67 (by omega)
  have e18 := s0 0 18 (by omega)
  have cg : CgI γ1 := by
    refine ⟨by omega, ⟨by rw [e67]; exact cs.1, fun i q1 q2 => by rw [s0 45 i (by omega), e51]; exact cs.2 i q1 (by omega)⟩, fun v q1 q2 => ?_⟩
    rw [e67]
    by_cases q : v = γ 0 51
    · rw [q, s44]; have := cs.1; omega
    · rw [s0 44 v (fun _ => q)]; exact h1 v q1 (by omega)
  have mi : MiI γ1 := fun v q1 q2 => by
    rw [e18, s0 5 _ (by omega)] at q2
    have x := (l.2.2.2.2.2.2.2.2.1 0 (by omega) (by have := l.2.2.1; omega)).1.2.1
    have m0 := l.2.2.2.2.2.2.2.1
    rw [m0.1] at x
    have nv : nvN γ (γ 0 18 - 1) = γ 4 (γ 0 18 - 1 + 1) - γ 4 (γ 0 18 - 1) := rfl
    have sz := (l.1 (γ 0 18 - 1) (by omega) (by omega)).sz
    by_cases q : v + 1 = γ 0 51
    · rw [s0 44 v (by omega), q, s44]
      have k := h3 (by omega) (by omega)
      rw [show γ 0 51 - 1 = v by omega] at k
      exact k
    · rw [s0 44 v (by omega), s0 44 (v + 1) (by omega)]; exact h2 v q1 (by omega) q2
  refine wp_bndH (w_ordered cg l1 mi mm.1.2.2.2.2.1.1 mm.1.2.2.2.2.1.2.1) (fun kd pl γ' z => ?_) (fun r γ' z => ?_)
  · have z1 : ∀ j k, j < 46 ∨ 49 < j → γ' j k = γ1 j k := z.1
    have z2 : (∀ u, γ' 46 u = 0 ∨ γ' 46 u = 1) ∧ ∀ u, γ' 49 u = 0 ∨ γ' 49 u = 1 := z.2.1
    have m2 := mm.1.rd mm.2 (γ' := γ') (fun k q => z1 0 k (by omega)) (by rw [z1 0 55 (by omega)]; exact mm.1.2.2.2.2.2.2.1) (fun k => z1 1 k (by omega)) (mm.1.2.2.2.1.fr (fun k => z1 14 k (by omega)) (fun k => z1 28 k (by omega)) (fun k => z1 25 k (by omega))) ⟨z2.1, z2.2, fun u => by rw [z1 55 u (by omega)]; exact mm.1.2.2.2.2.1.2.2.1 u, fun u => by rw [z1 58 u (by omega)]; exact mm.1.2.2.2.2.1.2.2.2 u⟩
    exact w_read_h m2.1 m2.2 hc
  · have z1 : ∀ j k, j < 46 ∨ 49 < j → γ' j k = γ1 j k := z.1
    have z2 : (∀ u, γ' 46 u = 0 ∨ γ' 46 u = 1) ∧ ∀ u, γ' 49 u = 0 ∨ γ' 49 u = 1 := z.2.1
    have oi : OrI γ1 γ' (γ1 0 51) := by
      rcases z.2.2 with ⟨_, o⟩ | ⟨v, p, e, _⟩
      · exact o
      · cases e
    have m2 := mm.1.rd mm.2 (γ' := γ') (fun k q => z1 0 k (by omega)) (by rw [z1 0 55 (by omega)]; exact mm.1.2.2.2.2.2.2.1) (fun k => z1 1 k (by omega)) (mm.1.2.2.2.1.fr (fun k => z1 14 k (by omega)) (fun k => z1 28 k (by omega)) (fun k => z1 25 k (by omega))) ⟨z2.1, z2.2, fun u => by rw [z1 55 u (by omega)]; exact mm.1.2.2.2.2.1.2.2.1 u, fun u => by rw [z1 58 u (by omega)]; exact mm.1.2.2.2.2.1.2.2.2 u⟩
    have f18 := z1 0 18 (by omega)
    rw [f18, e18]
    refine wp_chk (by omega) (wp_sub ?_)
    have g : ∀ j k, (j = 0 → k ≠ 49) → setA γ' 0 49 (γ 0 18 - 1) j k = γ' j k := fun j k q => by rw [stA, if_neg (by omega)]
    have g49 : setA γ' 0 49 (γ 0 18 - 1) 0 49 = γ 0 18 - 1 := by rw [stA, if_pos ⟨rfl, rfl⟩]
    generalize setA γ' 0 49 (γ 0 18 - 1) = γ2 at *
    have fl2 : FL γ1 γ2 := fun j k q1 q2 => by rw [g j k (by omega)]; exact z1 j k (by omega)
    have ⟨i1, i2, i3, i4, i5, i6, i7, i8⟩ := m2.1
    refine w_read_b292 ⟨i1, by rw [g 0 1 (by omega)]; exact i2, fun k => by rw [g 1 k (by omega)]; exact i3 k, i4.fr (fun k => g 14 k (by omega)) (fun k => g 28 k (by omega)) (fun k => g 25 k (by omega)), i5.fr (fun j k q => g j k (by omega)), by rw [g 0 72 (by omega), g 0 82 (by omega)]; exact i6, by rw [g 0 55 (by omega)]; exact i7, Or.inr ⟨by rw [g49, g 0 18 (by omega), f18, e18], l1.fl fl2, fun i q1 q2 => ?_, ?_⟩⟩ hc
    · have e51' : γ2 0 51 = γ1 0 51 := by rw [g 0 51 (by omega)]; exact z1 0 51 (by omega)
      rw [e51'] at q2 ⊢
      rw [g 48 i (by omega)]
      exact (oi.2.2.2.1 i q1 q2).1.1
    · exact cg.fr (by rw [g 0 51 (by omega)]; exact z1 0 51 (by omega)) (by rw [g 0 67 (by omega)]; exact z1 0 67 (by omega)) (fun k => by rw [g 44 k (by omega)]; exact z1 44 k (by omega)) (fun k => by rw [g 45 k (by omega)]; exact z1 45 k (by omega))
theorem w_read_L226 {c : Int} (hc : c < 512) : ∀ (n : Nat) (γ : St) (v : Int), LsI c γ v → 0 ≤ v → v ≤ γ 0 51 → γ 0 51 - v < n → wp (f_M_read_L226 f_M_read_b245 n γ v) (RdO c) := by
  intro n
  induction n with
  | zero => intro γ v h1 h2 h3 h4; exfalso; omega
  | succ n ih =>
    intro γ v h1 h2 h3 h4
    have ⟨m, m49, l, cs, p1, p2, p3⟩ := h1
    have m51 := l.2.2.2.1
    have m18 := l.2.1
    unfold f_M_read_L226
    refine wp_ite (fun q => ?_) (fun q => ?_)
    · rw [show v = γ 0 51 by omega] at h1
      exact w_read_b245 hc h1
    · refine wp_bnd (w_causes0 l cs h2 (by omega)) (fun r γ' z => ?_)
      obtain ⟨z1, z2, z3, z4, z5⟩ := z
      have z1 : CsM γ' := z1
      have z2 : ∀ j k, (j = 0 → k ≠ 67) → (j = 44 → k ≠ v) → (j = 45 → k < γ 0 67) → γ' j k = γ j k := z2
      have z3 : γ 0 67 ≤ γ' 0 67 := z3
      have z4 : γ' 44 v = γ 0 67 := z4
      have z5 : γ 42 v = 0 → γ 43 v < γ 5 (γ 35 0) → γ' 0 67 = γ 0 67 := z5
      have g : ∀ j k, (j = 0 → k ≠ 67) → j ≠ 44 → j ≠ 45 → γ' j k = γ j k := fun j k q1 q2 q3 => z2 j k q1 (by omega) (by omega)
      have fl : FL γ γ' := fun j k q1 q2 => g j k (by omega) (by omega) (by omega)
      have mm := m.rd m49 (γ' := γ') (fun k q => g 0 k (by omega) (by omega) (by omega)) (by rw [g 0 55 (by omega) (by omega) (by omega)]; exact m.2.2.2.2.2.2.1) (fun k => g 1 k (by omega) (by omega) (by omega)) (m.2.2.2.1.fr (fun k => g 14 k (by omega) (by omega) (by omega)) (fun k => g 28 k (by omega) (by omega) (by omega)) (fun k => g 25 k (by omega) (by omega) (by omega))) (m.2.2.2.2.1.fr (fun j k q => g j k (by omega) (by omega) (by omega)))
      have c0 := cs.1
      have e51 := g 0 51 (by omega) (by omega) (by omega)
      have e5 : γ' 5 (γ' 0 18 - 1) = γ 5 (γ 0 18 - 1) := by rw [g 0 18 (by omega) (by omega) (by omega), g 5 _ (by omega) (by omega) (by omega)]
      refine wp_chk (by omega) (ih γ' (v + 1) ⟨mm.1, mm.2, l.fl fl, z1, fun u q1 q2 => ?_, fun u q1 q2 q3 => ?_, fun _ q3 => ?_⟩ (by omega) (by omega) (by omega))
      · by_cases q3 : u = v
        · rw [q3, z4]; omega
        · rw [z2 44 u (by omega) (fun _ => q3) (by omega)]
          have := p1 u q1 (by omega)
          omega
      · rw [e5] at q3
        rw [z2 44 u (by omega) (by omega) (by omega)]
        by_cases q4 : u + 1 = v
        · rw [q4, z4]
          have k := p3 (by omega) (by omega)
          rw [show v - 1 = u by omega] at k
          exact k
        · rw [z2 44 (u + 1) (by omega) (by omega) (by omega)]
          exact p2 u q1 (by omega) q3
      · rw [e5] at q3
        rw [show v + 1 - 1 = v by omega] at q3 ⊢
        rw [z4]
        have m0 := l.2.2.2.2.2.2.2.1
        have x := (l.2.2.2.2.2.2.2.2.1 0 (by omega) (by have := l.2.2.1; omega)).1
        have sz := (l.1 (γ 0 18 - 1) (by omega) (by omega)).sz
        have nv : nvN γ (γ 0 18 - 1) = γ 4 (γ 0 18 - 1 + 1) - γ 4 (γ 0 18 - 1) := rfl
        have y := x.2.2.2.2 v h2 (by rw [m0.1]; omega)
        rw [m0.2.2, show 0 + v = v by omega] at y
        exact (z5 y.1 (by rw [y.2, m0.1]; exact q3)).symm
theorem w_read_b139 {c : Int} {γ0 γ : St} (hc : c < 512) (hs : RsI c γ0) (f : F34 γ0 γ) (sn : SN γ (γ0 0 18)) : wp (f_M_read_b139 γ) (RdO c) := by
  have := FU_v
  have ⟨m, m49, t, z, n1⟩ := hs
  have t59 := t.1.2.1
  have e18 := f 0 18 (by omega)
  have mm := m.rd m49 (γ' := γ) (fun k q => f 0 k (by omega)) (by rw [f 0 55 (by omega)]; exact m.2.2.2.2.2.2.1) (fun k => f 1 k (by omega)) (m.2.2.2.1.fr (fun k => f 14 k (by omega)) (fun k => f 28 k (by omega)) (fun k => f 25 k (by omega))) (m.2.2.2.2.1.fr (fun j k q => f j k (by omega)))
  have zz : Z0 γ := z.fr (fun k _ _ _ => f 0 k (by omega))
  have w := (sn (γ0 0 18 - 1) (by omega) (by omega)).wt.1
  have a55 := mm.1.2.2.2.2.2.2.1
  have thr : wp (f_M_read_b178 γ) (RdO c) := by
    unfold f_M_read_b178
    exact w_read_h mm.1 mm.2 hc
  unfold f_M_read_b139
  rw [e18]
  refine wp_chk (by omega) (wp_chk (by omega) (wp_ite (fun _ => thr) (fun q => wp_chk (by omega) (wp_chk (by omega) (wp_chk (by omega) (wp_ite (fun q2 => ?_) (fun _ => thr)))))))
  have ⟨z1, z2, z3, z4, z5, z6⟩ := zz
  have sn' : SN γ (γ 0 18) := by rw [e18]; exact sn
  have pu := MP_w 100 (γ0 0 18 - 1) (by omega) (by omega) γ (-1) (-1) sn' (by omega) (by omega) ⟨by omega, by omega, by omega, by omega, by omega⟩
  refine wp_chk (by omega) (wp_bndH (P := PuO γ (γ0 0 18 - 1) (-1) (-1)) pu (fun kd pl γ' y => ?_) (fun r γ' y => ?_))
  · have ft : FT γ γ' := y.1
    have m2 := mm.1.rd mm.2 (γ' := γ') (fun k q => ft 0 k (by omega) (by omega)) (by rw [ft 0 55 (by omega) (by omega)]; exact a55) (fun k => ft 1 k (by omega) (by omega)) (mm.1.2.2.2.1.fr (fun k => ft 14 k (by omega) (by omega)) (fun k => ft 28 k (by omega) (by omega)) (fun k => ft 25 k (by omega) (by omega))) (mm.1.2.2.2.2.1.fr (fun j k q => ft j k (by omega) (by omega)))
    exact w_read_h m2.1 m2.2 hc
  · have ft : FT γ γ' := y.1
    have pk : PuK γ (γ0 0 18 - 1) (-1) (-1) r γ' := y.2 r rfl
    have lk : LkM γ' := by
      rw [← e18] at pk
      exact pk.lk sn' (by omega) ⟨z1, z2, z3, z4, z5⟩ (by rw [e18]; omega)
    have g18 : γ' 0 18 = γ0 0 18 := by rw [ft 0 18 (by omega) (by omega)]; exact e18
    rw [g18, ft 0 55 (by omega) (by omega), ft 34 _ (by omega) (by omega)]
    refine wp_chk (by omega) (wp_chk (by omega) (wp_chk (by omega) (wp_sub ?_)))
    have s : ∀ j k, (j = 0 → k ≠ 55) → setA γ' 0 55 (γ 0 55 + γ 34 (γ0 0 18 - 1)) j k = γ' j k := fun j k q3 => by rw [stA, if_neg (by omega)]
    have s55 : setA γ' 0 55 (γ 0 55 + γ 34 (γ0 0 18 - 1)) 0 55 = γ 0 55 + γ 34 (γ0 0 18 - 1) := by rw [stA, if_pos ⟨rfl, rfl⟩]
    generalize setA γ' 0 55 (γ 0 55 + γ 34 (γ0 0 18 - 1)) = γ2 at *
    have g : ∀ j k, (j = 0 → (k < 50 ∨ 54 < k) ∧ k ≠ 55) → (j < 35 ∨ 43 < j) → γ2 j k = γ j k := fun j k q3 q4 => by rw [s j k (by omega)]; exact ft j k (by omega) q4
    have m2 := mm.1.rd mm.2 (γ' := γ2) (fun k q => g 0 k (by omega) (by omega)) (by omega) (fun k => g 1 k (by omega) (by omega)) (mm.1.2.2.2.1.fr (fun k => g 14 k (by omega) (by omega)) (fun k => g 28 k (by omega) (by omega)) (fun k => g 25 k (by omega) (by omega))) (mm.1.2.2.2.2.1.fr (fun j k q => g j k (by omega) (by omega)))
    have l2 : LkM γ2 := lk.fl (fun j k q3 q4 => s j k (by omega))
    have e67 := g 0 67 (by omega) (by omega)
    have m51 := l2.2.2.2.1
    exact w_read_L226 hc FU γ2 0 ⟨m2.1, m2.2, l2, ⟨by omega, fun i q3 q4 => by omega⟩, fun u q3 q4 => by omega, fun u q3 q4 => by omega, fun q3 => by omega⟩ (by omega) (by omega) (by omega)
theorem w_read_L102 {c : Int} (hc : c < 512) : ∀ (n : Nat) (γ : St), MoI c γ → γ 0 49 = -1 → TpW γ → Z0 γ → γ 0 1 - γ 0 5 < n → wp (f_M_read_L102 f_M_read_b113 n γ) (RdO c) := by
  have := FU_v
  intro n
  induction n with
  | zero => intro γ h1 h2 h3 h4 h5; have := h3.1.1.2.1; exfalso; omega
  | succ n ih =>
    intro γ h1 h2 h3 h4 h5
    unfold f_M_read_L102
    refine wp_bndH (w_node h3) (fun kd pl γ' z => ?_) (fun r γ' z => ?_)
    · have r : Rf γ γ' := z.1
      have m := h1.rf h2 r
      exact w_read_h m.1 m.2 hc
    · have rf : Rf γ γ' := z.1
      have m := h1.rf h2 rf
      have ⟨t, e18, l5⟩ := z.2 r rfl
      have t : TpW γ' := t
      have e18 : γ' 0 18 = γ 0 18 + 1 := e18
      have l5 : γ 0 5 < γ' 0 5 := l5
      have mv := Mv.pk0 t.1.1
      have m2 := m.1.rf m.2 mv.re
      have t2 := t.mv mv
      have n0 := h3.1.2.1
      have z0 : Z0 (pkS γ') := h4.fr (fun k q1 q2 q3 => by rw [mv.2.1 0 k (by omega)]; exact rf.1 0 k (by omega) (by omega))
      have e1 : pkS γ' 0 1 = γ 0 1 := by rw [mv.2.1 0 1 (by omega)]; exact rf.1 0 1 (by omega) (by omega)
      have m5 := mv.2.2
      have lb := h3.1.1.2.1
      refine wp_bs (pkM_eq t.1.1) (wp_ite (fun q => ih _ m2.1 m2.2 t2 z0 (by omega)) (fun q => ?_))
      have rs : RsI c (pkS γ') := ⟨m2.1, m2.2, t2, z0, by rw [mv.2.1 0 18 (by omega)]; omega⟩
      unfold f_M_read_b113
      have n1 := t2.1.2.1
      exact w_read_L115 rs (fun γ2 f sn => w_read_b139 hc rs f sn) FU _ 0 (fun _ _ _ => rfl) (fun f q1 q2 => by omega) (by omega) (by omega) (by omega)
theorem m_read {c : Int} {γ : St} (h : MoI c γ) (hc : c < 512) : wp (f_M_read γ) (RdO c) := by
  have := FU_v
  have ⟨h1, h2, h3, h4, h5, h6, h7, h8⟩ := h
  unfold f_M_read
  refine wp_sub (wp_sub (wp_sub (wp_sub (wp_sub (wp_sub (wp_sub (wp_sub (wp_sub (wp_chk (by omega) (wp_sub (wp_sub (wp_sub (wp_sub (wp_sub (wp_sub (wp_sub (wp_sub (wp_sub (wp_sub (wp_sub ?_))))))))))))))))))))
  generalize hg : setA _ 0 83 0 = γ1
  have s : ∀ j k, (j = 0 → k < 2 ∨ 5 < k ∧ k < 9 ∨ 9 < k ∧ k < 18 ∨ 19 < k ∧ k < 30 ∨ 31 < k ∧ k < 40 ∨ 40 < k ∧ k < 49 ∨ 54 < k ∧ k < 67 ∨ 67 < k ∧ k < 72 ∨ 72 < k ∧ k < 83 ∨ 83 < k) → (j = 16 → k ≠ 0) → γ1 j k = γ j k := fun j k q1 q2 => by
    rw [← hg]
    simp only [stA]
    (repeat rw [if_neg (by omega)])
  have v : ∀ k, (k = 5 ∨ k = 9 ∨ k = 18 ∨ k = 19 ∨ k = 30 ∨ k = 31 ∨ k = 40 ∨ k = 50 ∨ k = 51 ∨ k = 52 ∨ k = 53 ∨ k = 54 ∨ k = 67 ∨ k = 72 ∨ k = 83) → γ1 0 k = 0 := fun k q => by
    rw [← hg]
    rcases q with q | q | q | q | q | q | q | q | q | q | q | q | q | q | q <;> subst q <;> simp [stA]
  have v49 : γ1 0 49 = -1 := by rw [← hg]; simp [stA]
  have v16 : γ1 16 0 = 0 := by rw [← hg]; simp [stA]
  have e1 := s 0 1 (by omega) (by omega)
  have e5 := v 5 (by omega)
  have e18 := v 18 (by omega)
  have e19 := v 19 (by omega)
  have e30 := v 30 (by omega)
  have e31 := v 31 (by omega)
  have e40 := v 40 (by omega)
  have bo : Bo γ1 := h4.fr (fun k => s 14 k (by omega) (by omega)) (fun k => s 28 k (by omega) (by omega)) (fun k => s 25 k (by omega) (by omega))
  have m : MoI c γ1 := ⟨h1, by omega, fun k => by rw [s 1 k (by omega) (by omega)]; exact h3 k, bo, h5.fr (fun j k q => s j k (by omega) (by omega)), by rw [v 72 (by omega), s 0 82 (by omega) (by omega)]; omega, by rw [s 0 55 (by omega) (by omega)]; exact h7, Or.inl ⟨v49, v 83 (by omega)⟩⟩
  have t : TpW γ1 := by
    unfold TpW
    rw [e18, e19, e30, e31, e40, e5, v16]
    exact ⟨⟨⟨by omega, by omega, fun k => by rw [s 1 k (by omega) (by omega)]; exact h3 k, Or.inl (v 9 (by omega))⟩, by omega, fun u q1 q2 => by omega⟩, by omega, by omega, by omega, by omega, rfl, fun q => by omega, bo, fun f q1 q2 => by omega⟩
  exact w_read_L102 hc FU γ1 m v49 t ⟨v 50 (by omega), v 51 (by omega), v 52 (by omega), v 53 (by omega), v 54 (by omega), v 67 (by omega)⟩ (by omega)
