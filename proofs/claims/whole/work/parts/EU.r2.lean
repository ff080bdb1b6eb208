/-! equality: read, with what each node keeps -/
theorem pq_rdL2 {N c : Int} {γ0 δ0 : St} {I : St → St → Prop} (hI : ∀ γ δ, PnR N γ δ → TopI γ → TpW δ → I γ δ → pq (rdN γ) (f_M_node δ) (fun y z => ∀ r, z.1 = .inr r → y.1 ≠ 0 → I y.2 z.2)) (hIp : ∀ γ δ, LX δ → I γ δ → I γ (pkS δ)) {e101 x113 : St → Option (Int × St)} {Q : Int × St → Int × St → Prop} (bad : ∀ γ δ, γ 1 7 ≠ 0 → FrX γ0 γ → MoI c δ → δ 0 49 = -1 → Rf δ0 δ → pq (e101 γ) (f_M_read_h δ (γ 1 7) (γ 1 8)) Q) (fin : ∀ γ δ, PnR N γ δ → TopI γ → FrX γ0 γ → RsI c δ → Rf δ0 δ → I γ δ → (∃ δ', δ = pkS δ' ∧ LX δ' ∧ tK δ' = 0) → pq (e101 γ) (x113 δ) Q) : ∀ (n n2 : Nat) (γ δ : St) (x : Int), PnR N γ δ → TopI γ → FrX γ0 γ → MoI c δ → δ 0 49 = -1 → TpW δ → Z0 δ → Rf δ0 δ → x = δ 0 18 → I γ δ → pq (f_S_read_L49 e101 n γ 1 x) (f_M_read_L102 x113 n2 δ) Q := by
  intro n
  induction n with
  | zero => intro n2 γ δ x _ _ _ _ _ _ _ _ _ _; exact pq_nl
  | succ n ih =>
    intro n2 γ δ x h ht hf hm h49 t hz hr hx hi
    cases n2 with
    | zero => exact pq_nr
    | succ n2 =>
      have c39 : γ 3 9 = δ 0 18 := h.1.2.2.1.1
      have t59 := ht.2.1
      have b93 : ∀ γ' (m : Option (Int × St)), pq (e101 γ') m Q → pq (f_S_read_b93 (f_S_read_L49 e101 n) e101 γ' x) m Q := fun γ' m q => by
        unfold f_S_read_b93 f_S_read_b94
        refine pq_cl (fun _ => ?_)
        cases n with
        | zero => exact pq_nl
        | succ n => rw [read_L0 (by omega)]; exact q
      rw [L49_s (by omega), f_M_read_L102]
      have both : pq (rdN γ) (f_M_node δ) (fun y z => (OuR (PnR N) y z ∧ NdO δ z ∧ BdP γ y) ∧ ∀ r, z.1 = .inr r → y.1 ≠ 0 → I y.2 z.2) := fun y z e1 e2 => ⟨⟨pq_node h t y z e1 e2, (w_node t).pc z e2, (w_rdN ht).pc y e1⟩, hI γ δ h ht t hi y z e1 e2⟩
      refine pq_bH both (fun r γ' e δ' hh => ?_) (fun r γ' y δ' hh => ?_)
      · obtain ⟨⟨h1, h2, h3⟩, _⟩ := hh
        obtain ⟨e1, e2, e3, e4⟩ := h1.er
        rw [if_pos e1, ← e2, ← e3]
        have rf : Rf δ δ' := h2.1
        have m := hm.rf h49 rf
        refine b93 γ' _ (bad γ' δ' (by rw [e2]; exact e4) ?_ m.1 m.2 (hr.tr rf))
        rcases h3 with h3 | h3
        · exact hf.tr h3.2.2
        · exact hf.tr h3.2.2.1
      · obtain ⟨⟨h1, h2, h3⟩, h4⟩ := hh
        obtain ⟨e1, pn⟩ := h1.go
        rw [if_neg (by rw [e1]; decide)]
        have rf : Rf δ δ' := h2.1
        have m := hm.rf h49 rf
        obtain ⟨t', e18, l5⟩ := h2.2 y rfl
        have t' : TpW δ' := t'
        have e18 : δ' 0 18 = δ 0 18 + 1 := e18
        have mv := Mv.pk0 t'.1.1
        have i1 : I γ' δ' := h4 y rfl (by show r ≠ 0; rw [show r = 1 from e1]; decide)
        have i2 := hIp γ' δ' t'.1.1 i1
        have m2 := m.1.rf m.2 mv.re
        have t2 := t'.mv mv
        have z0 : Z0 (pkS δ') := hz.fr (fun k q1 q2 q3 => by rw [mv.2.1 0 k (by omega)]; exact rf.1 0 k (by omega) (by omega))
        have r2 : Rf δ0 (pkS δ') := (hr.tr rf).tr mv.re
        have p18 : pkS δ' 0 18 = δ' 0 18 := mv.2.1 0 18 (by omega)
        have tf : TopI γ' ∧ FrX γ0 γ' := by
          rcases h3 with h3 | h3
          · have k : r = 0 := h3.1; exfalso; omega
          · exact ⟨h3.2.1, hf.tr h3.2.2.1⟩
        refine pq_bl kind_pc (fun r3 γ3 e => ?_)
        cases e
        refine pq_er (pkM_eq t'.1.1) ?_
        have sg := LexR.sg pn.1.1.1 (k := 0) (by decide)
        rw [show sgC 0 = 0 by decide] at sg
        by_cases q : tK δ' = 0
        · rw [if_pos (sg.2 q), if_neg (by rw [q]; decide)]
          exact b93 _ _ (fin γ' (pkS δ') pn.pk tf.1 tf.2 ⟨m2.1, m2.2, t2, z0, by have := t.1.2.1; omega⟩ r2 i2 ⟨δ', rfl, t'.1.1, q⟩)
        · rw [if_neg (fun k => q (sg.1 k)), if_pos q]
          unfold f_S_read_b94
          exact pq_cl (fun _ => ih n2 γ' (pkS δ') (x + 1) pn.pk tf.1 tf.2 m2.1 m2.2 t2 z0 r2 (by omega) i2)
theorem pq_read2 {c : Int} {γ δ : St} {I : St → St → Prop} (hI : ∀ N γ δ, PnR N γ δ → TopI γ → TpW δ → I γ δ → pq (rdN γ) (f_M_node δ) (fun y z => ∀ r, z.1 = .inr r → y.1 ≠ 0 → I y.2 z.2)) (hIp : ∀ γ δ, LX δ → I γ δ → I γ (pkS δ)) (hI0 : ∀ γ δ, γ 3 9 = 0 → δ 0 18 = 0 → I γ δ) (hC : ClsI c γ) (hc : c < 512) (hK : KwI γ) (e10 : γ 0 10 = δ 0 1) (eb : ∀ k, 0 ≤ k → k < δ 0 1 → δ 1 k = γ 13 k) (hm : MoI c δ) {Q : Int × St → Int × St → Prop} (bad : ∀ γ' δ', γ' 1 7 ≠ 0 → RdS γ γ' → MoI c δ' → RdM δ δ' → pq (f_S_read_b101 γ') (f_M_read_h δ' (γ' 1 7) (γ' 1 8)) Q) (fin : ∀ N γ' δ', PnR N γ' δ' → TopI γ' → RdS γ γ' → RsI c δ' → RdM δ δ' → I γ' δ' → (∃ δ2, δ' = pkS δ2 ∧ LX δ2 ∧ tK δ2 = 0) → pq (f_S_read_b101 γ') (f_M_read_b113 δ') Q) : pq (f_S_read γ) (f_M_read δ) Q := by
  have ⟨b1, b2, b3, b4, b5, b6⟩ := hC
  have ⟨h1, h2, h3, h4, h5, h6, h7, h8⟩ := hm
  unfold f_S_read f_M_read
  refine pq_ar (pq_ar (pq_ar (pq_ar (pq_ar (pq_ar (pq_ar (pq_ar (pq_ar (pq_cr (fun _ => (pq_ar (pq_ar (pq_ar (pq_ar (pq_ar (pq_ar (pq_ar (pq_ar (pq_ar (pq_ar (pq_ar ?_)))))))))))))))))))))
  generalize hg : setA _ 0 83 0 = δ1
  have s : ∀ j k, (j = 0 → k < 2 ∨ 5 < k ∧ k < 9 ∨ 9 < k ∧ k < 18 ∨ 19 < k ∧ k < 30 ∨ 31 < k ∧ k < 40 ∨ 40 < k ∧ k < 49 ∨ 54 < k ∧ k < 67 ∨ 67 < k ∧ k < 72 ∨ 72 < k ∧ k < 83 ∨ 83 < k) → (j = 16 → k ≠ 0) → δ1 j k = δ j k := fun j k q1 q2 => by
    rw [← hg]
    simp only [stA]
    (repeat rw [if_neg (by omega)])
  have v : ∀ k, (k = 2 ∨ k = 3 ∨ k = 4 ∨ k = 5 ∨ k = 9 ∨ k = 18 ∨ k = 19 ∨ k = 30 ∨ k = 31 ∨ k = 40 ∨ k = 50 ∨ k = 51 ∨ k = 52 ∨ k = 53 ∨ k = 54 ∨ k = 67 ∨ k = 72 ∨ k = 83) → δ1 0 k = 0 := fun k q => by
    rw [← hg]
    rcases q with q | q | q | q | q | q | q | q | q | q | q | q | q | q | q | q | q | q <;> subst q <;> simp [stA]
  have v49 : δ1 0 49 = -1 := by rw [← hg]; simp [stA]
  have v16 : δ1 16 0 = 0 := by rw [← hg]; simp [stA]
  have e1 := s 0 1 (by omega) (by omega)
  have e5 := v 5 (by omega)
  have e18 := v 18 (by omega)
  have e19 := v 19 (by omega)
  have e30 := v 30 (by omega)
  have e31 := v 31 (by omega)
  have e40 := v 40 (by omega)
  have bo : Bo δ1 := h4.fr (fun k => s 14 k (by omega) (by omega)) (fun k => s 28 k (by omega) (by omega)) (fun k => s 25 k (by omega) (by omega))
  have m : MoI c δ1 := ⟨h1, by omega, fun k => by rw [s 1 k (by omega) (by omega)]; exact h3 k, bo, h5.fr (fun j k q => s j k (by omega) (by omega)), by rw [v 72 (by omega), s 0 82 (by omega) (by omega)]; omega, by rw [s 0 55 (by omega) (by omega)]; exact h7, Or.inl ⟨v49, v 83 (by omega)⟩⟩
  have t : TpW δ1 := by
    unfold TpW
    rw [e18, e19, e30, e31, e40, e5, v16]
    exact ⟨⟨⟨by omega, by omega, fun k => by rw [s 1 k (by omega) (by omega)]; exact h3 k, Or.inl (v 9 (by omega))⟩, by omega, fun u q1 q2 => by omega⟩, by omega, by omega, by omega, by omega, rfl, fun q => by omega, bo, fun f q1 q2 => by omega⟩
  have z0 : Z0 δ1 := ⟨v 50 (by omega), v 51 (by omega), v 52 (by omega), v 53 (by omega), v 54 (by omega), v 67 (by omega)⟩
  have frM : ∀ δ', Rf δ1 δ' → RdM δ δ' := fun δ' r => by
    refine ⟨fun k q => by rw [r.1 0 k (by omega) (by omega)]; exact s 0 k (by omega) (by omega), fun j k q => by rw [r.1 j k (by omega) (by omega)]; exact s j k (by omega) (by omega), ⟨?_, ?_, ?_, ?_, ?_⟩, ?_⟩
    · rw [r.1 0 2 (by omega) (by omega)]; exact v 2 (by omega)
    · rw [r.1 0 3 (by omega) (by omega)]; exact v 3 (by omega)
    · rw [r.1 0 4 (by omega) (by omega)]; exact v 4 (by omega)
    · rw [r.1 0 72 (by omega) (by omega)]; exact v 72 (by omega)
    · rw [r.1 0 83 (by omega) (by omega)]; exact v 83 (by omega)
    · rw [r.1 0 49 (by omega) (by omega)]; exact v49
  refine pq_al (pq_al (pq_al ?_))
  have u : ∀ j k, setA (setA (setA γ 0 12 (-1)) 0 13 0) 0 14 0 j k = if j = 0 ∧ k = 14 then 0 else if j = 0 ∧ k = 13 then 0 else if j = 0 ∧ k = 12 then -1 else γ j k := fun j k => by rw [stA, stA, stA]
  generalize setA (setA (setA γ 0 12 (-1)) 0 13 0) 0 14 0 = γ1 at *
  have uo : ∀ (j : Nat) (k : Int), j ≠ 0 ∨ k < 12 ∨ 14 < k → γ1 j k = γ j k := fun j k q => by rw [u, if_neg (by omega), if_neg (by omega), if_neg (by omega)]
  rw [uo 0 10 (by omega), e10]
  have sc := s2_scan (γ := γ1) (L := δ 0 1) (by omega) (fun i q1 q2 => by rw [uo 13 i (by omega)]; exact hK i q1 q2) (fun k q1 q2 => by rw [uo 13 k (by omega), ← eb k q1 q2]; exact h3 k)
  refine pq_bl sc.pc (fun r γ2 y => pq_al ?_)
  obtain ⟨⟨y1, y2, y3, y4, y5⟩, y6⟩ := y
  have y1 : TkR γ2 := y1
  have y2 : FrT γ1 γ2 := y2
  have y3 : γ2 1 7 = 0 := y3
  have y4 : γ2 1 6 = 0 := y4
  have y5 : ∀ w, 0 ≤ w → w < γ2 2 8 → γ2 22 w = 0 ∧ γ2 23 w = 0 := y5
  have y6 : TsE γ2 (δ 0 1) := y6
  obtain ⟨N, ts⟩ := y6.n
  unfold f_Nd_begin f_Cd_begin
  show pq (f_S_read_L49 f_S_read_b101 FU (setA (setA (setA (setA (setA (setA γ2 0 10 0) 3 9 0) 3 15 0) 4 4 0) 4 10 0) 4 12 0) 1 0) _ _
  have w : ∀ j k, setA (setA (setA (setA (setA (setA γ2 0 10 0) 3 9 0) 3 15 0) 4 4 0) 4 10 0) 4 12 0 j k = if j = 4 ∧ (k = 12 ∨ k = 10 ∨ k = 4) then 0 else if j = 3 ∧ (k = 15 ∨ k = 9) then 0 else if j = 0 ∧ k = 10 then 0 else γ2 j k := fun j k => by
    simp only [stA]
    grind
  generalize setA (setA (setA (setA (setA (setA γ2 0 10 0) 3 9 0) 3 15 0) 4 4 0) 4 10 0) 4 12 0 = γ3 at *
  have wo : ∀ (j : Nat) (k : Int), j ≠ 4 → j ≠ 3 → (j ≠ 0 ∨ k ≠ 10) → γ3 j k = γ2 j k := fun j k q1 q2 q3 => by rw [w, if_neg (by omega), if_neg (by omega), if_neg (by omega)]
  have v39 : γ3 3 9 = 0 := by rw [w]; simp
  have v315 : γ3 3 15 = 0 := by rw [w]; simp
  have v44 : γ3 4 4 = 0 := by rw [w]; simp
  have v410 : γ3 4 10 = 0 := by rw [w]; simp
  have v412 : γ3 4 12 = 0 := by rw [w]; simp
  have v010 : γ3 0 10 = 0 := by rw [w]; simp
  have g28 := wo 2 8 (by omega) (by omega) (by omega)
  have o2 : ∀ k, γ3 1 k = γ2 1 k := fun k => wo 1 k (by omega) (by omega) (by omega)
  have g6 : γ3 1 6 = 0 := by rw [o2]; exact y4
  have g7 : γ3 1 7 = 0 := by rw [o2]; exact y3
  have hTop : TopI γ3 := by
    refine ⟨y1.ext (fun j k q => wo j k (by omega) (by omega) (by omega)), by omega, by omega, ⟨by omega, by omega, by omega, by rw [v44, v410]; rfl, fun e q1 q2 => by omega, fun q => by omega, fun e q1 q2 => by omega⟩, fun n q1 q2 => by omega, fun w q1 q2 => ?_⟩
    rw [g28] at q2
    have := y5 w q1 q2
    rw [v39, wo 22 w (by omega) (by omega) (by omega), wo 23 w (by omega) (by omega) (by omega)]
    omega
  have frS : ∀ γ', FrX γ3 γ' → RdS γ γ' := fun γ' r => by
    have q0 : ∀ k, γ' 0 k = γ3 0 k := fun k => r 0 k (by omega)
    have q2 : ∀ k, k ≠ 10 → γ3 0 k = γ1 0 k := fun k q => by rw [wo 0 k (by omega) (by omega) (by omega)]; exact y2 0 k (by omega) (by omega) (by omega)
    refine ⟨fun j k q => ?_, by rw [q0]; exact v010, ?_, ?_, ?_⟩
    · rw [r j k (by omega), wo j k (by omega) (by omega) (by omega), y2 j k (by omega) (by omega) (by omega), u, if_neg (by omega), if_neg (by omega), if_neg (by omega)]
    · rw [q0, q2 12 (by omega), u]; simp
    · rw [q0, q2 13 (by omega), u]; simp
    · rw [q0, q2 14 (by omega), u]; simp
  have e13 : ∀ k, γ3 13 k = γ 13 k := fun k => by rw [wo 13 k (by omega) (by omega) (by omega), y2 13 k (by omega) (by omega) (by omega)]; exact uo 13 k (by omega)
  have ts3 : TsN γ3 (δ 0 1) N := ts.fr (fun j k q => wo j k (by omega) (by omega) (by omega)) (o2 5) g28
  have bN := ts3.2.1
  have lx : LexR N γ3 δ1 := by
    refine ⟨t.1.1, fun k q1 q2 => ?_, by rw [e1]; exact ts3, by omega, ?_⟩
    · rw [e1] at q2
      rw [s 1 k (by omega) (by omega), e13]; exact eb k q1 q2
    · have a := (ts3.2.2.1 0 (Int.le_refl _) (by omega)).1
      unfold nxP at a
      rw [if_pos rfl] at a
      rw [g6, a]
      unfold sk
      rw [e1, e5]
      exact skP_ag (fun k q1 q2 => by rw [s 1 k (by omega) (by omega), e13]; exact eb k q1 q2) (Int.le_refl _)
  have pn : PnR N γ3 δ1 := by
    refine ⟨⟨⟨lx, by rw [o2]; exact y3⟩, ⟨fun w q1 q2 q3 => ?_, fun k q1 q2 => by exfalso; omega⟩, ⟨by omega, by omega, by omega, by omega⟩, fun w q1 q2 => ?_, fun k q1 q2 => by exfalso; omega⟩, fun f q1 q2 => by exfalso; omega, ⟨⟨by omega, by omega⟩, fun k q1 q2 => by exfalso; omega, fun k q1 q2 => by exfalso; omega⟩, ⟨⟨by omega, by omega⟩, fun k q1 q2 => by exfalso; omega⟩, fun f q1 q2 => by exfalso; omega, fun f q1 q2 => by exfalso; omega⟩
    · rw [g28] at q2
      exact absurd ((wo 23 w (by omega) (by omega) (by omega)).trans (y5 w q1 q2).2) q3
    · rw [g28] at q2
      have a := (wo 22 w (by omega) (by omega) (by omega)).trans (y5 w q1 q2).1
      omega
  exact pq_rdL2 (γ0 := γ3) (δ0 := δ1) (c := c) (hI N) hIp (fun γ' δ' q1 q2 q3 q4 q5 => bad γ' δ' q1 (frS γ' q2) q3 (frM δ' q5)) (fun γ' δ' q1 q2 q3 q4 q5 q6 q7 => fin N γ' δ' q1 q2 (frS γ' q3) q4 (frM δ' q5) q6 q7) FU FU γ3 δ1 0 pn hTop FrX.rf m v49 t z0 Rf.rf (by omega) (hI0 γ3 δ1 (by rw [pn.1.2.2.1.1]; omega) (by omega))
