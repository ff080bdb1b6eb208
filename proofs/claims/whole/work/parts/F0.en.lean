/-! equality: the end of read -/
/-- the clocks of all equations fit -/
def JcA (δ : St) : Prop := ∀ f, 0 ≤ f → f < δ 0 18 → ∀ k, δ 7 f ≤ k → k < δ 7 (f + 1) → ClE δ (δ 4 f) k
/-- the class knows where each variable is defined -/
def DfN (γ δ : St) : Prop := ∀ f, 0 ≤ f → f < δ 0 18 → ∀ k, δ 7 f ≤ k → k < δ 7 (f + 1) → ∀ i, δ 16 k ≤ i → i < δ 16 (k + 1) → γ 37 (δ 4 f + δ 18 i) = γ 42 k
theorem pl_eq {V : Int} {γ δ : St} {σ : Int → Int → Int} {κ : Int → Int} (h : LB V γ δ σ κ) (df : DfN γ δ) {u p c : Int} (u0 : 0 ≤ u) (u1 : u < V) (hc : CsS δ u c) (pv : PlV δ u p) : γ 60 u = p := by
  obtain ⟨l, ar, tb, f41, g34, ⟨k0, kV⟩, iy, _⟩ := h
  have fu := FU_v
  have ⟨i1, i2, i3, i4⟩ := l.2.2.2.2.2.2.2.2.2 u u0 (by omega)
  have ix := (l.2.2.2.2.2.2.2.2.1 _ i1.1 i1.2).1.1
  have nt := tb.1 _ ix.1 ix.2
  have nd := l.nd i1.1 i1.2
  have sz := nd.sz
  rcases pv with ⟨a1, a2⟩ | ⟨a1, k, a2, a3, a4⟩
  · have v := (iy _ i1.1 i1.2).1.2.1 (δ 43 u) i3 (by rw [nt.2.1]; exact i4)
    have w := v.2.2.2.2 (by rw [nt.1.2.1]; exact a1)
    rw [i2, nt.1.1] at w
    obtain ⟨k, i, b1, b2, b3, b4, b5⟩ := nd.db a1 i4
    have d := df _ ix.1 ix.2 k b1.1 b1.2 i b2.1 b2.2
    rw [b3] at d
    rw [w, d, a2, b4]
    exact (tb.eq ix.1 ix.2 b1.1 b1.2).1
  · by_cases x0 : δ 42 u = 0
    · exfalso
      have m0 := l.2.2.2.2.2.2.2.1
      rcases hc with ⟨c1, c2⟩ | ⟨x, root, o, rt, _⟩
      · have c0 := nd.c0 (v := δ 4 (δ 35 (δ 42 u)) + δ 43 u) (by omega) (by omega)
        rw [c0, x0] at c1
        have e : clV δ FU 0 (-1) = -1 := by
          show clV δ (999999 + 1) 0 (-1) = -1
          show (if (-1 : Int) ≠ -1 then _ else if δ 36 0 < 0 then -1 else _) = -1
          rw [if_neg (by omega), if_pos (by omega)]
        omega
      · rcases rt with ⟨b1, _⟩ | ⟨_, b2, _⟩
        · omega
        · rw [x0, m0.2.1] at b2; omega
    · have ⟨o1, o2, o3, o4⟩ := (l.2.2.2.2.2.2.2.2.1 (δ 42 u) i1.1 i1.2).2.2.1 (by omega)
      obtain ⟨_, ms, k', c1, c2, c3, c4, c5⟩ := (iy _ i1.1 i1.2).2 (by omega)
      have lt : (δ 43 u).toNat < ms.length := by rw [nt.1.2.1] at c2; omega
      have w := (c5 _ _ (List.getElem?_eq_getElem lt)).2
      rw [show δ 38 (δ 42 u) + ((δ 43 u).toNat : Int) = u by omega] at w
      have nd2 := l.nd (x := δ 36 (δ 42 u)) (by omega) (by omega)
      have ix2 := (l.2.2.2.2.2.2.2.2.1 (δ 36 (δ 42 u)) (by omega) (by omega)).1.1
      have ek := nd2.at1 a2 c3 a3 c4
      rw [w, a4, ek]
      exact (tb.eq ix2.1 ix2.2 c3.1 c3.2).1
theorem LqIn.ro {V : Int} {γ δ δ' : St} {σ : Int → Int → Int} {κ : Int → Int} {y : Int} (h : LqIn V γ δ σ κ y) (e : ∀ j : Nat, 1 ≤ j → δ' j = δ j) : LqIn V γ δ' σ κ y := by
  simp only [LqIn, LqPt, LqOp, LqDf, outV, psN, peN, e 5 (by omega), e 7 (by omega), e 17 (by omega), e 19 (by omega), e 21 (by omega), e 22 (by omega), e 23 (by omega), e 25 (by omega), e 35 (by omega), e 38 (by omega), e 40 (by omega), e 41 (by omega)] at h ⊢
  exact h
theorem LqIp.ro {γ δ δ' : St} {σ : Int → Int → Int} {κ : Int → Int} {y : Int} (h : LqIp γ δ σ κ y) (e : ∀ j : Nat, 1 ≤ j → δ' j = δ j) : LqIp γ δ' σ κ y := by
  simp only [LqIp, e 7 (by omega), e 17 (by omega), e 19 (by omega), e 22 (by omega), e 23 (by omega), e 35 (by omega), e 36 (by omega), e 37 (by omega), e 38 (by omega)] at h ⊢
  exact h
theorem TbR.ro {γ γ' δ δ' : St} (h : TbR γ δ) (c : ∀ j : Nat, (1 ≤ j ∧ j < 8 ∨ 10 ≤ j ∧ j < 54) → γ' j = γ j) (e : ∀ j : Nat, 1 ≤ j → j ≤ 34 → δ' j = δ j) (e0 : ∀ k, k < 50 → δ' 0 k = δ 0 k) : TbR γ' δ' := by
  obtain ⟨h1, h2, h3, h4, h5⟩ := h
  refine ⟨?_, ?_, ?_, fun g q1 q2 => (h4 g q1 (by rw [e0 18 (by omega)] at q2; exact q2)).rw (fun j q1 q2 k => by rw [e j (by omega) q2]), ?_⟩
  · simp only [NtR, e0 18 (by omega), c 25 (by omega), c 26 (by omega), c 27 (by omega), c 28 (by omega), c 29 (by omega), c 30 (by omega), e 4 (by omega) (by omega), e 5 (by omega) (by omega), e 6 (by omega) (by omega), e 7 (by omega) (by omega)] at h1 ⊢
    exact h1
  · simp only [EqT, EqE, c 4 (by omega), c 42 (by omega), c 43 (by omega), c 44 (by omega), c 45 (by omega), c 46 (by omega), c 47 (by omega), e0 30 (by omega), e0 31 (by omega), e 15 (by omega) (by omega), e 16 (by omega) (by omega), e 17 (by omega) (by omega), e 18 (by omega) (by omega), e 19 (by omega) (by omega)] at h2 ⊢
    exact h2
  · simp only [PtR, PtE, c 4 (by omega), c 38 (by omega), c 39 (by omega), c 40 (by omega), e0 40 (by omega), e 20 (by omega) (by omega), e 21 (by omega) (by omega), e 26 (by omega) (by omega)] at h3 ⊢
    exact h3
  · intro g q1 q2
    rw [e0 18 (by omega)] at q2
    have p : peN δ' g = peN δ g := by unfold peN; rw [e 7 (by omega) (by omega), e 17 (by omega) (by omega)]
    rw [p, e0 30 (by omega), e0 31 (by omega), e0 40 (by omega), e0 19 (by omega), e 7 (by omega) (by omega), e 4 (by omega) (by omega), e 16 (by omega) (by omega)]
    exact h5 g q1 q2
/-- the class builds -/
def rdB (γ9 : St) : Option (Int × St) :=
  chk (i32 ((γ9 3 9) - 1)) (ap (setA γ9 0 12 ((γ9 3 9) - 1)) fun γ13 =>
  chk (inb (γ13 0 12) 59) (chk (inb (γ13 0 12) 59) (bndN (f_Pg_build γ13 (γ13 26 (γ13 0 12)) (γ13 28 (γ13 0 12))) fun _ γ24 =>
  ap (flA γ24 12 0 99 0) fun γ26 =>
  f_S_read_b177 γ26)))
/-- both have a program -/
def LkD (γ δ : St) (γ6 γ9 δ3 δ5 δ' : St) : Prop := (FrLk (setA γ 0 11 (γ 0 11 + γ 31 (δ 0 18 - 1))) γ6 ∧ LdI γ6 (γ 32 (δ 0 18 - 1))) ∧ (∃ σ κ, LB (γ 32 (δ 0 18 - 1)) γ6 δ3 σ κ) ∧ (∃ P, LnM δ3 P) ∧ γ6 8 11 = δ3 0 53 ∧ (γ6 54 (γ 32 (δ 0 18 - 1)) = 3 ∧ γ6 58 (γ 32 (δ 0 18 - 1)) = 1 ∧ γ6 55 (γ 32 (δ 0 18 - 1)) = -1 ∧ γ6 56 (γ 32 (δ 0 18 - 1)) = -1 ∧ γ6 57 (γ 32 (δ 0 18 - 1)) = -1) ∧ (δ3 0 55 = δ 0 55 + γ 31 (δ 0 18 - 1) ∧ δ3 34 (δ 0 18 - 1) = γ 31 (δ 0 18 - 1) ∧ ∀ j k, (j = 0 → (k < 50 ∨ 54 < k) ∧ k ≠ 55) → (j < 29 ∨ 43 < j) → δ3 j k = δ j k) ∧ OkO (γ 32 (δ 0 18 - 1)) γ6 γ9 δ3 δ5 δ'
set_option maxHeartbeats 1000000 in
theorem pq_end {c N : Int} {γ δ : St} (pn : PnR N γ δ) (ht : TopI γ) (hs : RsI c δ) (jc : JcA δ) (df : DfN γ δ) (he : ∃ δ2, δ = pkS δ2 ∧ LX δ2 ∧ tK δ2 = 0) (e11 : γ 0 11 = δ 0 55) {Q : Int × St → Int × St → Prop} (bad : ∀ γ' δ', γ' 1 7 ≠ 0 → γ' 0 11 = δ' 0 55 → (∀ k, k ≠ 11 → γ' 0 k = γ 0 k) → (∀ k, γ' 13 k = γ 13 k) → (∀ j k, (j = 0 → (k < 50 ∨ 67 < k)) → (j < 29 ∨ 49 < j) → δ' j k = δ j k) → pq (f_S_read_b177 γ') (f_M_read_h δ' (γ' 1 7) (γ' 1 8)) Q) (ok : ∀ γ6 γ9 δ3 δ5 δ', LkD γ δ γ6 γ9 δ3 δ5 δ' → pq (rdB γ9) (chk (i32 ((δ' 0 18) - 1)) (ap (setA δ' 0 49 ((δ' 0 18) - 1)) fun γ17 => f_M_read_b292 γ17)) Q) : pq (f_S_read_b101 γ) (f_M_read_b113 δ) Q := by
  have fu := FU_v
  have ⟨m, m49, t, z, n1⟩ := hs
  have t59 := t.1.2.1
  have c39 : γ 3 9 = δ 0 18 := pn.1.2.2.1.1
  have h7 : γ 1 7 = 0 := pn.1.1.2
  have lx := pn.1.1.1
  have skl : sk δ = δ 0 1 := by
    obtain ⟨δ2, e1, e2, e3⟩ := he
    have mv := Mv.pk0 e2
    have e4 := tK_end e2 e3
    have e5 : sk δ = sk δ2 := by
      have := lx.1
      rw [e1]
      exact pkS_sk e2
    rw [e5, e4, e1]
    exact (mv.2.1 0 1 (by omega)).symm
  have pl8 : γ 15 (γ 1 6) = δ 0 1 := by rw [← skl]; exact lx.2.2.2.2.symm
  unfold f_S_read_b101 f_M_read_b113
  rw [if_neg (fun q => q h7), L115_s]
  have wl := (w_read_L115 hs (x139 := fun γ => some (0, γ)) (Q := fun z => F34 δ z.2 ∧ SN z.2 (δ 0 18)) (fun γ f sn => wp_some ⟨f, sn⟩) FU δ 0 (fun _ _ _ => rfl) (fun f q1 q2 => by omega) (by omega) (by omega) (by omega)).pc
  have al := a2_L115 hs FU δ 0 (fun _ _ _ => rfl) (by omega) (by omega) (fun f q1 q2 => by omega)
  refine pq_br (P := fun z => (F34 δ z.2 ∧ SN z.2 (δ 0 18)) ∧ ∀ f, 0 ≤ f → f < δ 0 18 → WtE z.2 f ∧ ArN z.2 f) (fun y e => ⟨wl y e, (al y e).2⟩) (fun r δ1 w => ?_)
  obtain ⟨⟨f1, sn⟩, wa⟩ := w
  have f1 : F34 δ δ1 := f1
  have sn : SN δ1 (δ 0 18) := sn
  have wa : ∀ f, 0 ≤ f → f < δ 0 18 → WtE δ1 f ∧ ArN δ1 f := wa
  have g18 : δ1 0 18 = δ 0 18 := f1 0 18 (by omega)
  obtain ⟨tb1, fla, szr⟩ := tb_of pn t f1 sn
  generalize hm : δ 0 18 - 1 = mm at *
  have m0 : 0 ≤ mm ∧ mm < δ 0 18 := by omega
  have sz := sz_eq t pn.2.2.2.2.2 f1 (fun g q1 q2 => (wa g q1 q2).1) ((mm + 1).toNat) mm m0.1 m0.2 (by omega)
  have e55 : δ1 0 55 = δ 0 55 := f1 0 55 (by omega)
  have a55 := m.2.2.2.2.2.2.1
  have wt := (sn mm m0.1 m0.2).wt
  have zz : Z0 δ1 := z.fr (fun k _ _ _ => f1 0 k (by omega))
  have ⟨z50, z51, z52, z53, z54, z67⟩ := zz
  have sn1 : SN δ1 (δ1 0 18) := by rw [g18]; exact sn
  refine pq_bl (sf_pc (m := mm) (by omega) h7) (fun r γ1 w => ?_)
  rcases w with ⟨a, ew⟩ | ⟨na, ew⟩
  · have er : r = 1 ∧ γ1 = setA γ 0 11 (γ 0 11 + γ 31 mm) := by cases ew; exact ⟨rfl, rfl⟩
    rw [er.1, if_neg (by decide)]
    have s1 : ∀ j k, γ1 j k = if j = 0 ∧ k = 11 then γ 0 11 + γ 31 mm else γ j k := fun j k => by rw [er.2, stA]
    have o1 : ∀ j k, (j ≠ 0 ∨ k ≠ 11) → γ1 j k = γ j k := fun j k q => by rw [s1, if_neg (by omega)]
    have r1 : ∀ j : Nat, 1 ≤ j → γ1 j = γ j := fun j q => funext fun k => o1 j k (by omega)
    have lkx : LkX γ1 mm := by
      have l0 := ht.lk (by omega) (by rw [c39, hm]; exact a.1) (by rw [c39, hm]; exact a.2.1)
      rw [c39, hm] at l0
      obtain ⟨b1, b2, b3, b4, b5, b6⟩ := l0
      refine ⟨b1, fun n w1 w2 => ?_, by rw [r1 31 (by omega), r1 32 (by omega)]; exact b3, by rw [r1 4 (by omega)]; exact b4, by rw [r1 4 (by omega)]; exact b5, by rw [r1 4 (by omega)]; exact b6⟩
      have w := b2 n w1 w2
      rw [r1 25 (by omega), r1 28 (by omega)]
      refine ⟨?_, w.2⟩
      have y44 := o1 4 4 (by omega)
      have y410 := o1 4 10 (by omega)
      have y412 := o1 4 12 (by omega)
      exact w.1.ext w1 (fun j k _ _ _ _ => o1 j k (by omega)) (fun j k _ _ => o1 j k (by omega)) (fun j k _ _ _ => o1 j k (by omega)) (fun k _ => o1 41 k (by omega)) (fun j k _ _ _ => o1 j k (by omega)) (fun k _ => o1 47 k (by omega)) (by omega) (by omega) (by omega)
    have cf : f_S_causesFit γ1 = chk (i32 ((γ1 3 9) - 1)) (bndN (f_Lk_link γ1 ((γ1 3 9) - 1)) fun _ γ6 => srT γ6) := rfl
    rw [cf, bN_C, bN_N, o1 3 9 (by omega), c39, hm]
    refine pq_cl (fun _ => ?_)
    unfold f_M_read_b139
    rw [g18, hm]
    refine pq_cr (fun _ => pq_cr (fun _ => ?_))
    rw [if_neg (by omega)]
    refine pq_cr (fun _ => pq_cr (fun _ => pq_cr (fun _ => ?_)))
    rw [if_pos (by omega)]
    have hR : PuR δ1 mm := ⟨by omega, by omega, by omega, by omega, by omega⟩
    have tbx : TbR γ1 δ1 := tb1.ro (fun j q => r1 j (by omega)) (fun _ _ _ => rfl) (fun _ _ => rfl)
    have pp := pp_MP (D := δ1) 100 mm m0.1 (by omega) δ1 (-1) (-1) FT.rf sn1 (by omega) (by omega) hR (by omega)
    have pk := pq_link lkx tbx (by omega) hR ⟨z50, z51, z53⟩
    refine pq_cr (fun _ => pq_bH (R := fun y z => (∃ r, z.1 = .inr r ∧ LqL γ1 mm δ1 y.2 z.2) ∧ PpB δ1 δ1 mm z) (fun y z e1 e2 => ⟨pk y z e1 e2, pp z e2⟩) (fun r γ6 e δ2 hh => ?_) (fun r γ6 x δ2 hh => ?_))
    · obtain ⟨⟨_, h1, _⟩, _⟩ := hh
      cases h1
    · obtain ⟨⟨_, _, lq⟩, pb⟩ := hh
      obtain ⟨⟨q1, q2⟩, q3, ⟨q4, q5⟩, q6, q7, σ, κ, q8, q9⟩ := lq
      have q1 : FrLk γ1 γ6 := q1
      rw [r1 32 (by omega)] at q2 q4 q7 q9
      rw [r1 26 (by omega)] at q6
      have q2 : LdI γ6 (γ 32 mm) := q2
      have q3 : PuK δ1 mm (-1) (-1) (δ1 0 50) δ2 := q3
      have q4 : γ 32 mm = δ2 0 51 := q4
      have q5 : γ6 8 11 = δ2 0 53 := q5
      have ft : FT δ1 δ2 := q3.2.1.ft
      have h18 : δ2 0 18 = δ 0 18 := by rw [ft 0 18 (by omega) (by omega)]; exact g18
      have g34 : δ2 34 mm = γ 31 mm := by rw [ft 34 _ (by omega) (by omega)]; omega
      have g55 : δ2 0 55 = δ 0 55 := by rw [ft 0 55 (by omega) (by omega)]; exact e55
      rw [h18, hm, g34, g55]
      refine pq_cr (fun _ => pq_cr (fun _ => pq_cr (fun _ => pq_ar ?_)))
      have s3 : ∀ j k, setA δ2 0 55 (δ 0 55 + γ 31 mm) j k = if j = 0 ∧ k = 55 then δ 0 55 + γ 31 mm else δ2 j k := fun j k => by rw [stA]
      generalize setA δ2 0 55 (δ 0 55 + γ 31 mm) = δ3 at *
      have o3 : ∀ j k, (j ≠ 0 ∨ k ≠ 55) → δ3 j k = δ2 j k := fun j k q => by rw [s3, if_neg (by omega)]
      have r3 : ∀ j : Nat, 1 ≤ j → δ3 j = δ2 j := fun j q => funext fun k => o3 j k (by omega)
      have g : ∀ j k, (j = 0 → (k < 50 ∨ 54 < k) ∧ k ≠ 55) → (j < 29 ∨ 43 < j) → δ3 j k = δ j k := fun j k w1 w2 => by rw [o3 j k (by omega), ft j k (by omega) (by omega)]; exact f1 j k (by omega)
      have r1' : ∀ j : Nat, 1 ≤ j → j ≤ 34 → δ3 j = δ1 j := fun j w1 w2 => by rw [r3 j w1]; exact funext fun k => ft j k (by omega) (by omega)
      have r0' : ∀ j : Nat, 1 ≤ j → j ≤ 28 → δ3 j = δ j := fun j w1 w2 => by rw [r1' j w1 (by omega)]; exact funext fun k => f1 j k (by omega)
      have e18 : δ3 0 18 = δ 0 18 := g 0 18 (by omega) (by omega)
      have lk2 : LkM δ2 := by
        have w := q3
        rw [← hm, ← g18] at w
        exact w.lk sn1 (by omega) ⟨z50, z51, z52, z53, z54⟩ (by rw [g18, hm]; omega)
      have lk3 : LkM δ3 := lk2.fl (fun j k w1 w2 => o3 j k (by omega))
      have arn : ∀ f, 0 ≤ f → f < δ3 0 18 → ArN δ3 f := fun f w1 w2 k v1 v2 => by
        rw [r1' 7 (by omega) (by omega)] at v1 v2
        rw [r1' 4 (by omega) (by omega)]
        exact ((wa f w1 (by omega)).2 k v1 v2).ro (fun j u1 u2 => r1' j (by omega) u2)
      have cls : ∀ j : Nat, (1 ≤ j ∧ j < 8 ∨ 10 ≤ j ∧ j < 54) → γ6 j = γ j := fun j w => by rw [← r1 j (by omega)]; exact funext fun k => q1 j k (by omega)
      have lb : LB (γ 32 mm) γ6 δ3 σ κ := by
        refine ⟨lk3, fun f w1 w2 => ⟨arn f w1 w2, fun k v1 v2 => ?_⟩, tb1.ro cls r1' (fun k w => by rw [o3 0 k (by omega)]; exact ft 0 k (by omega) (by omega)), fun f e w1 w2 w3 w4 => ?_, fun v w1 w2 => ?_, ⟨q8, by rw [o3 0 51 (by omega)]; exact q4⟩, fun y w1 w2 => ?_, fun i w1 w2 => ?_⟩
        · rw [r0' 7 (by omega) (by omega)] at v1 v2
          rw [r0' 4 (by omega) (by omega)]
          exact (jc f w1 (by omega) k v1 v2).ro (fun j u1 u2 => r0' j (by omega) (by omega))
        · have nd := lk3.1 f w1 w2
          obtain ⟨k, k1, k2, k3⟩ := nd.at w3 w4
          rw [r1' 7 (by omega) (by omega)] at k1
          rw [r1' 19 (by omega) (by omega)] at k2
          rw [r1' 17 (by omega) (by omega)] at k3
          have w := fl_41 (sn f w1 (by omega)) (wa f w1 (by omega)).2 (fla f w1 (by omega) k k1.1 k1.2) k1.1 k1.2 k2 k3
          rw [cls 41 (by omega), w, r1' 20 (by omega) (by omega), r1' 22 (by omega) (by omega), r1' 29 (by omega) (by omega)]
        · have vd := pn.1.2.2.2.2 v w1 (by rw [g 0 19 (by omega) (by omega)] at w2; exact w2)
          rw [cls 34 (by omega), r0' 12 (by omega) (by omega)]
          exact vd.1
        · rw [o3 0 50 (by omega)] at w2
          exact ⟨(q9 y w1 w2).1.ro r3, fun w3 => ((q9 y w1 w2).2 w3).ro r3⟩
        · have p35 : δ3 35 0 = mm := by
            rw [r3 35 (by omega)]
            have := q3.2.2.2.2.1.1
            rw [z50] at this
            exact this
          rw [p35, cls 26 (by omega)] at w2
          exact q6 i w1 w2
      obtain ⟨P, pi, pbd⟩ := pb x rfl 0
      rw [z50] at pi pbd
      have pne : ∀ f, pN δ3 f = pN δ1 f := fun f => by unfold pN peN psN; rw [r1' 7 (by omega) (by omega), r1' 17 (by omega) (by omega), r1' 19 (by omega) (by omega)]
      have ln : LnM δ3 P := by
        refine ⟨lk3, arn, fun y y' w1 w2 w3 => ?_, fun y w1 w2 => ?_⟩
        · rw [o3 0 50 (by omega)] at w3
          rw [pne, show nvN δ3 (δ3 35 y) = nvN δ1 (δ3 35 y) by unfold nvN; rw [r1' 4 (by omega) (by omega)], r3 35 (by omega), r3 36 (by omega), r3 37 (by omega), r3 38 (by omega), r3 39 (by omega), r1' 9 (by omega) (by omega)]
          exact pi y y' w1 w2 w3
        · rw [o3 0 50 (by omega)] at w2
          rw [pne, r3 35 (by omega)]
          have b : (0 ≤ P y ∧ P y + pN δ1 (δ2 35 y) ≤ 0 + δ1 34 mm) ∧ _ := pbd y w1 w2
          omega
      have s55 : δ3 0 55 = δ 0 55 + γ 31 mm := by rw [s3, if_pos ⟨rfl, rfl⟩]
      have mo := m.rd m49 (γ' := δ3) (fun k w => g 0 k (by omega) (by omega)) (by omega) (fun k => g 1 k (by omega) (by omega)) (m.2.2.2.1.fr (fun k => g 14 k (by omega) (by omega)) (fun k => g 28 k (by omega) (by omega)) (fun k => g 25 k (by omega) (by omega))) (m.2.2.2.2.1.fr (fun j k w => g j k (by omega) (by omega)))
      have e67 : δ3 0 67 = 0 := by rw [g 0 67 (by omega) (by omega), ← f1 0 67 (by omega)]; exact z67
      have ls : LsI c δ3 0 := ⟨mo.1, mo.2, lk3, ⟨by omega, fun i w1 w2 => by omega⟩, fun u w1 w2 => by omega, fun u w1 w2 => by omega, fun w => by omega⟩
      have dfn : DfN γ6 δ3 := fun f w1 w2 k v1 v2 i u1 u2 => by
        rw [r0' 7 (by omega) (by omega)] at v1 v2
        rw [r0' 16 (by omega) (by omega)] at u1 u2
        rw [r0' 4 (by omega) (by omega), r0' 18 (by omega) (by omega), cls 37 (by omega), cls 42 (by omega)]
        exact df f w1 (by omega) k v1 v2 i u1 u2
      have g7 : γ6 1 7 = 0 := by rw [cls 1 (by omega)]; exact h7
      refine pq_ord q2 g7 lb ln ls e67 (fun u p cc w1 w2 w3 w4 => pl_eq lb dfn w1 w2 w3 w4) (fun γ9 δ' p w1 w2 => ?_) (fun γ9 δ5 δ' w => ?_)
      · show pq (if (0 : Int) = 0 then f_S_read_b177 (faS γ9 7 p) else _) _ _
        rw [if_pos rfl]
        have fo : ∀ j k, j ≠ 1 → faS γ9 7 p j k = γ9 j k := fun j k q => by unfold faS; rw [stA, if_neg (by omega), stA, if_neg (by omega)]
        have cl9 : ∀ k, γ9 0 k = γ1 0 k := fun k => by rw [w1 0 k (by omega) (by omega)]; exact q1 0 k (by omega)
        have b := bad (faS γ9 7 p) δ' (by rw [faS_7]; decide) (by rw [fo 0 11 (by omega), cl9, s1, if_pos ⟨rfl, rfl⟩, w2 0 55 (by omega) (by omega), s55, e11]) (fun k q => by rw [fo 0 k (by omega), cl9, o1 0 k (by omega)]) (fun k => by rw [fo 13 k (by omega), w1 13 k (by omega) (by omega), q1 13 k (by omega), o1 13 k (by omega)]) (fun j k v1 v2 => by rw [w2 j k (by omega) (by omega)]; exact g j k (by omega) (by omega))
        rw [faS_7, faS_8] at b
        exact b
      · show pq (if (1 : Int) = 0 then _ else rdB γ9) _ _
        rw [if_neg (by decide)]
        refine ok γ6 γ9 δ3 δ5 δ' ⟨⟨?_, ?_⟩, ⟨σ, κ, ?_⟩, ⟨P, ln⟩, ?_, ?_, ⟨?_, ?_, g⟩, ?_⟩
        · rw [hm, ← er.2]; exact q1
        · rw [hm]; exact q2
        · rw [hm]; exact lb
        · rw [o3 0 53 (by omega)]; exact q5
        · rw [hm]; exact q7
        · rw [hm]; exact s55
        · rw [hm, r3 34 (by omega)]; exact g34
        · rw [hm]; exact w
  · have er : r = 0 ∧ γ1 = flS γ 3 := by cases ew; exact ⟨rfl, rfl⟩
    rw [er.1, if_pos rfl, er.2]
    have fo : ∀ j k, j ≠ 1 → flS γ 3 j k = γ j k := fun j k q => by unfold flS; rw [stA, if_neg (by omega), stA, if_neg (by omega)]
    have fl : ∀ δ', FT δ1 δ' → pq (f_S_read_b177 (flS γ 3)) (f_M_read_h δ' 3 (δ 0 1)) Q := fun δ' ft => by
      have b := bad (flS γ 3) δ' (by rw [flS_7]; decide) (by rw [fo 0 11 (by omega), ft 0 55 (by omega) (by omega), e55]; exact e11) (fun k _ => fo 0 k (by omega)) (fun k => fo 13 k (by omega)) (fun j k v1 v2 => by rw [ft j k (by omega) (by omega)]; exact f1 j k (by omega))
      rw [flS_7, flS_8, pl8] at b
      exact b
    have e01 : δ1 0 1 = δ 0 1 := f1 0 1 (by omega)
    have thr : pq (f_S_read_b177 (flS γ 3)) (f_M_read_b178 δ1) Q := by
      unfold f_M_read_b178
      rw [e01]
      exact fl δ1 FT.rf
    unfold f_M_read_b139
    rw [g18, hm]
    refine pq_cr (fun _ => pq_cr (fun _ => pq_ir (fun q => thr) (fun q => pq_cr (fun _ => pq_cr (fun _ => pq_cr (fun _ => pq_ir (fun q2 => pq_cr (fun _ => ?_)) (fun q2 => thr)))))))
    have hR : PuR δ1 mm := ⟨by omega, by omega, by omega, by omega, by omega⟩
    have w32 : ∀ f, 0 ≤ f → f < δ1 0 18 → 0 ≤ γ 32 f ∧ γ 32 f = rfo (γ 32) δ1 (peN δ1 f - psN δ1 f).toNat (psN δ1 f) (nvN δ1 f) := by
      have go : ∀ (n : Nat) (f : Int), 0 ≤ f → f < δ1 0 18 → f < n → 0 ≤ γ 32 f := by
        intro n
        induction n with
        | zero => intro f h1 h2 h3; exfalso; omega
        | succ n ih =>
          intro f h1 h2 h3
          have nd := sn1 f h1 h2
          have szz := nd.sz
          rw [(szr f h1 h2).2]
          refine rfo_nn _ _ _ (fun k v1 v2 v3 => ?_) (by omega)
          obtain ⟨_, _, _, _, _, w, _⟩ := nd.pt (e := k) v1 (by have e1 : nP1 δ1 f = peN δ1 f := rfl; have e0 : nP0 δ1 f = psN δ1 f := rfl; omega)
          have w3 := w.2.2.1 v3
          exact ih _ w3.1 (by omega) (by omega)
      exact fun f h1 h2 => ⟨go ((f + 1).toNat) f h1 h2 (by omega), (szr f h1 h2).2⟩
    have pbm := pb_MP (D := δ1) (w := γ 32) sn1 w32 100 mm m0.1 (by omega) (by omega) δ1 (-1) (-1) FT.rf (by omega)
    have mpw := (MP_w 100 mm m0.1 (by omega) δ1 (-1) (-1) sn1 (by omega) (by omega) hR).pc
    refine pq_brH (P := fun z => PuB δ1 (γ 32 mm) z ∧ FT δ1 z.2) (fun y e => ⟨pbm y e, (mpw y e).1⟩) (fun e δ' w => ?_) (fun r δ' w => ?_)
    · rcases w.1 with ⟨⟨r, w1⟩, _⟩ | w1
      · cases w1
      · have w1 : (Sum.inl e : (Int × Int) ⊕ Int) = .inl (3, δ1 0 1) := w1
        have ee : e = (3, δ1 0 1) := by cases w1; rfl
        rw [ee, e01]
        exact fl δ' w.2
    · exfalso
      rcases w.1 with ⟨_, _, w3, w4⟩ | w1
      · have w3 : δ' 0 51 = δ1 0 51 + γ 32 mm := w3
        have w4 : δ' 0 51 ≤ 6000 := w4
        omega
      · cases w1
