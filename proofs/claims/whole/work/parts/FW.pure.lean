/-! equality: read, the first states, the law -/
theorem iv_rd2 {c : Int} {γ δ : St} (hC : ClsI c γ) (hc : c < 512) (hm : MoI c δ) (h : RlT γ δ) : pq (f_S_read γ) (f_M_read δ) (fun y z => (y.2 0 12 = -1 ∧ z.2 0 49 = -1 ∧ y.2 0 13 = 0 ∧ z.2 0 72 = 0 ∧ y.2 0 14 = 0 ∧ z.2 0 83 = 0) ∨ PrX y.2 z.2) := by
  have ⟨h1, h2, h3, h4, h5, h6⟩ := h
  have en : ∀ (δ : St) (k : Int), k ≠ 1 → enS δ 0 k = δ 0 k := fun δ k q => enS_o (by omega) (by omega) (by omega)
  refine pq_rd4 hC hc h1 h2 h3 hm h4 (fun γ' δ' q1 q2 q3 q4 q5 q6 => Or.inl ?_) (fun γ' δ' γ6 γ9 δ3 δ5 δ7 w e e8 ty => ?_)
  · have o : ∀ k, k ≠ 1 → k ≠ 3 → k ≠ 4 → enS (setA (setA δ' 0 3 (γ' 1 7)) 0 4 (γ' 1 8)) 0 k = δ' 0 k := fun k w1 w2 w3 => by rw [en _ k w1, stA, if_neg (by omega), stA, if_neg (by omega)]
    show γ' 0 12 = -1 ∧ enS (setA (setA δ' 0 3 (γ' 1 7)) 0 4 (γ' 1 8)) 0 49 = -1 ∧ γ' 0 13 = 0 ∧ enS (setA (setA δ' 0 3 (γ' 1 7)) 0 4 (γ' 1 8)) 0 72 = 0 ∧ γ' 0 14 = 0 ∧ enS (setA (setA δ' 0 3 (γ' 1 7)) 0 4 (γ' 1 8)) 0 83 = 0
    rw [o 49 (by omega) (by omega) (by omega), o 72 (by omega) (by omega) (by omega), o 83 (by omega) (by omega) (by omega)]
    exact ⟨q3.2.1, q5.1, q3.2.2.1, q5.2.1, q3.2.2.2, q5.2.2.1⟩
  · obtain ⟨σ, κ, P, τ, st, tb⟩ := st_of w ty.1 ty.2
    obtain ⟨⟨N, pn⟩, ht, rs, rsi, rm, lk⟩ := w
    obtain ⟨⟨fl, ld⟩, _, _, _, _, ⟨s55, _, lk18⟩, ok⟩ := lk
    obtain ⟨so, _, _, _, _, o5, _, o7⟩ := ok
    have of := so.1
    have n1 : 1 ≤ δ' 0 18 := rsi.2.2.2.2
    have c9 : ∀ j k, (j < 8 ∨ j = 13) → γ9 j k = setA γ' 0 11 (γ' 0 11 + γ' 31 (δ' 0 18 - 1)) j k := fun j k q => by rw [of j k (by omega) (by omega), fl j k (by omega)]
    have d7 : ∀ k, k ≠ 67 → δ7 0 k = δ3 0 k := fun k q => by rw [o7 0 k (by omega), o5 0 k (by omega) (by omega) (by omega)]
    have e18 : δ7 0 18 = δ' 0 18 := by rw [d7 18 (by omega)]; exact lk18 0 18 (by omega) (by omega)
    have e72 : δ7 0 72 = 0 := by rw [d7 72 (by omega), lk18 0 72 (by omega) (by omega)]; exact rm.2.2.1.2.2.2.1
    have e83 : δ7 0 83 = 0 := by rw [d7 83 (by omega), lk18 0 83 (by omega) (by omega)]; exact rm.2.2.1.2.2.2.2
    have e13 : γ9 0 13 = 0 := by rw [c9 0 13 (by omega), stA, if_neg (by omega)]; exact rs.2.2.2.1
    have e14 : γ9 0 14 = 0 := by rw [c9 0 14 (by omega), stA, if_neg (by omega)]; exact rs.2.2.2.2
    refine pq_cr (fun _ => pq_ar ?_)
    rw [b292_eq, if_pos (by rw [stA, if_pos ⟨rfl, rfl⟩]; omega)]
    intro y z e1 e2
    have e2 := (Option.some.inj e2).symm
    rw [e2]
    refine Or.inr ?_
    show PrX y.2 (enS (setA δ7 0 49 (δ7 0 18 - 1)))
    have D72 : enS (setA δ7 0 49 (δ7 0 18 - 1)) 0 72 = 0 := by rw [en _ 72 (by omega), stA, if_neg (by omega)]; exact e72
    have D83 : enS (setA δ7 0 49 (δ7 0 18 - 1)) 0 83 = 0 := by rw [en _ 83 (by omega), stA, if_neg (by omega)]; exact e83
    have D52 : ∀ i, 0 ≤ i → i < 6600 → enS (setA δ7 0 49 (δ7 0 18 - 1)) 52 i = 0 := fun i q1 q2 => by unfold enS; rw [flA_at, if_pos ⟨rfl, q1, q2⟩]
    have D50 : ∀ i, 0 ≤ i → i < 100 → enS (setA δ7 0 49 (δ7 0 18 - 1)) 50 i = 0 := fun i q1 q2 => by unfold enS; rw [flA_at, if_neg (by omega), flA_at, if_pos ⟨rfl, q1, q2⟩]
    have G12 : setA γ9 0 12 (γ9 3 9 - 1) 0 12 = setA γ9 0 12 (γ9 3 9 - 1) 3 9 - 1 := by rw [stA, if_pos ⟨rfl, rfl⟩, stA, if_neg (by omega)]
    have G13 : setA γ9 0 12 (γ9 3 9 - 1) 0 13 = 0 := by rw [stA, if_neg (by omega)]; exact e13
    have G14 : setA γ9 0 12 (γ9 3 9 - 1) 0 14 = 0 := by rw [stA, if_neg (by omega)]; exact e14
    revert y
    unfold rdB
    intro y e1
    have key : ∃ γ24, (BldX (setA γ9 0 12 (γ9 3 9 - 1)) γ24 (γ6 8 5) (γ' 32 (δ' 0 18 - 1)) ∧ γ24 11 4 = setA γ9 0 12 (γ9 3 9 - 1) 26 (setA γ9 0 12 (γ9 3 9 - 1) 0 12) ∧ γ24 11 5 = setA γ9 0 12 (γ9 3 9 - 1) 28 (setA γ9 0 12 (γ9 3 9 - 1) 0 12)) ∧ y.2 = flA γ24 12 0 99 0 := by
      revert y
      generalize setA γ9 0 12 (γ9 3 9 - 1) = G at *
      have b := bl_pc (a0 := G 26 (G 0 12)) (a1 := G 28 (G 0 12)) st.2.2.1 st.2.2.2.1.2.2.2.1 st.2.2.2.1.2.1.symm st.2.2.2.2.2.2.2.2.1 st.2.2.2.2.2.2.2.2.2
      refine pc_c (fun _ => pc_a (pc_c (fun _ => pc_c (fun _ => pc_b b (fun r γ24 p => pc_a ?_)))))
      unfold f_S_read_b177
      exact pc_i (fun _ => pc_s ⟨γ24, p, rfl⟩) (fun _ => pc_s ⟨γ24, p, rfl⟩)
    obtain ⟨γ24, ⟨bx, b4, b5⟩, ey⟩ := key
    rw [ey]
    generalize setA γ9 0 12 (γ9 3 9 - 1) = G at *
    generalize enS (setA δ7 0 49 (δ7 0 18 - 1)) = D at *
    have f : ∀ (j : Nat) (k : Int), j ≠ 12 → flA γ24 12 0 99 0 j k = γ24 j k := fun j k q => by rw [flA_at, if_neg (by omega)]
    have f12 : ∀ k, 0 ≤ k → k < 99 → flA γ24 12 0 99 0 12 k = 0 := fun k q1 q2 => by rw [flA_at, if_pos ⟨rfl, q1, q2⟩]
    generalize flA γ24 12 0 99 0 = γ26 at *
    have l := st.1.1
    have m18 := l.2.1
    have m52 := l.2.2.2.2.1
    have nt := st.1.2.2.1.1 (D 0 18 - 1) (by omega) (by omega)
    have sz := (l.1 (D 0 18 - 1) (by omega) (by omega)).sz
    have g39 := tb.1.2.1
    have G0 : ∀ k, γ26 0 k = G 0 k := fun k => (f 0 k (by omega)).trans (bx.1 0 k (by omega) (by omega))
    have eG : G 0 12 = D 0 18 - 1 := by omega
    have pg := bx.pg.fr (γ' := γ26) (fun j k w1 w2 w3 w4 w5 w6 w7 w8 w9 w10 w11 w12 => f j k (by omega)) ⟨f 11 9 (by omega), f 11 17 (by omega)⟩ (fun s _ => f 79 s (by omega)) (f 87 0 (by omega))
    refine ⟨G, D, σ, κ, P, τ, γ' 32 (δ' 0 18 - 1), γ6 8 5, ⟨st, tb⟩, ⟨pg, KM.rf, ⟨?_, ?_, ?_⟩, ?_, fun i q1 q2 => ?_⟩, ⟨?_, fun n => ?_⟩, Or.inl ⟨D83, ?_⟩⟩
    · rw [G0]; exact eG
    · rw [f 11 4 (by omega), b4, eG]; exact nt.1.2.1
    · rw [f 11 5 (by omega), b5, eG]; exact nt.2.1
    · exact DyR.ag (C := fun _ => 0) (M := fun _ => 0) st DyR.zr (fun i q1 q2 => by show γ26 81 i = 0; rw [f 81 i (by omega)]; exact bx.2.2.2.2.2 i q1 q2) (fun i q1 q2 => D52 i q1 (by omega))
    · rw [f12 i q1 (by omega), D50 i q1 (by omega)]
      exact ⟨rfl, fun _ => Or.inl rfl⟩
    · rw [G0, G13, D72]
    · exact absurd ((G0 13).trans G13) n
    · rw [G0]; exact G14
theorem iv_rd {c : Int} {γ δ : St} (hC : ClsI c γ) (hc : c < 512) (hm : MoI c δ) (h : Inv γ δ) : pq (f_S_read γ) (f_M_read δ) (fun y z => y.1 = z.1 ∧ Inv y.2 z.2) := by
  intro y z e1 e2
  have r := rl_rd hC hc hm h.1 y z e1 e2
  exact ⟨r.1, r.2, iv_rd2 hC hc hm h.1 y z e1 e2⟩
theorem inv0 : Inv γ0 δ0 := by
  have r : ∀ j k, j ≠ 0 → j ≠ 13 → γ0 j k = 0 := fun j k q q2 => by unfold γ0; rw [if_neg q, if_neg q2]
  have f : ∀ k, k ≠ 12 → γ0 0 k = 0 := fun k q => by unfold γ0; rw [if_pos rfl, if_neg q]
  have f12 : γ0 0 12 = -1 := by unfold γ0; rw [if_pos rfl, if_pos rfl]
  have g : ∀ k, k ≠ 49 → δ0 0 k = 0 := fun k q => by unfold δ0; rw [if_pos rfl, if_neg q]
  have g49 : δ0 0 49 = -1 := by unfold δ0; rw [if_pos rfl, if_pos rfl]
  refine ⟨⟨fun i q1 q2 => ?_, by rw [f 10 (by omega), g 1 (by omega)], fun k q1 q2 => by exfalso; rw [g 1 (by omega)] at q2; omega, by rw [f 11 (by omega), g 55 (by omega)], by rw [r 1 7 (by omega) (by omega), g 3 (by omega)], by rw [r 1 8 (by omega) (by omega), g 4 (by omega)]⟩, Or.inl ⟨f12, g49, f 13 (by omega), g 72 (by omega), f 14 (by omega), g 83 (by omega)⟩⟩
  unfold γ0
  rw [if_neg (by omega), if_pos rfl]
  unfold kwT
  rw [if_pos (by omega), show i.toNat - 65536 = (i - 65536).toNat by omega]
theorem wb {o : Option (Int × St × Int)} {m : Option (Int × St)} {Q : Int → St → Int → Prop} {P : Int × St → Prop} {R : Int × St × Int → Int × St → Prop} (a : wW o Q) (b : wp m P) (k : pq o m R) : ∃ r γ' w' x δ', o = some (r, γ', w') ∧ m = some (x, δ') ∧ Q r γ' w' ∧ P (x, δ') ∧ R (r, γ', w') (x, δ') := by
  obtain ⟨r, γ', w', e, q⟩ := a
  cases hm : m with
  | none => rw [hm] at b; exact b.elim
  | some v => rw [hm] at b; exact ⟨r, γ', w', v.1, v.2, e, rfl, q, b, k _ _ e hm⟩
theorem wb2 {o m : Option (Int × St)} {Q P : Int × St → Prop} {R : Int × St → Int × St → Prop} (a : wp o Q) (b : wp m P) (k : pq o m R) : ∃ r γ' x δ', o = some (r, γ') ∧ m = some (x, δ') ∧ Q (r, γ') ∧ P (x, δ') ∧ R (r, γ') (x, δ') := by
  cases ho : o with
  | none => rw [ho] at a; exact a.elim
  | some u =>
    rw [ho] at a
    cases hm : m with
    | none => rw [hm] at b; exact b.elim
    | some v => rw [hm] at b; exact ⟨u.1, u.2, v.1, v.2, rfl, rfl, a, b, k _ _ ho hm⟩
theorem wp_bwE {o : Option (Int × St × Int)} {r w : Int} {γ : St} {k : Int → St → Int → Option Int} {R : Int → Prop} (e : o = some (r, γ, w)) (h : wp (k r γ w) R) : wp (bndW o k) R := by rw [e]; exact h
theorem pure_go {L : Nat} {xs : Nat → Int32} (hL : L ≤ 3072) : ∀ (n : Nat) (γ δ : St) (w i c : Int), ClsI c γ → MoI c δ → Inv γ δ → i = 6 * c → (L : Int) - i < 6 * n → 0 < n → wp (f_law xs L n γ δ w i) (fun z => z = 1) := by
  intro n
  induction n with
  | zero => intro γ δ w i c h1 h2 h3 h4 h5 h6; exact absurd h6 (by omega)
  | succ n ih =>
    intro γ δ w i c h1 h2 h3 h4 h5 h6
    have c0 := h1.1
    have t0 := h1.2.1
    unfold f_law
    refine wp_chk (by omega) (wp_ite (fun _ => wp_some rfl) (fun q => ?_))
    have hc : c < 512 := by omega
    have nx : ∀ γ' δ' w', ClsI (c + 1) γ' → MoI (c + 1) δ' → Inv γ' δ' → wp (chk (i32 (i + 6)) (f_law xs L n γ' δ' w' (i + 6))) (fun z => z = 1) := fun γ' δ' w' k1 k2 k3 => wp_chk (by omega) (ih γ' δ' w' (i + 6) (c + 1) k1 k2 k3 (by omega) (by omega) (by omega))
    have fin : ∀ {γ' δ' : St} {r w' b : Int}, ClsI (c + 1) γ' → MoI (c + 1) δ' → δ' 0 2 = r → (r = 0 → w' = b) → Inv γ' δ' → wp (bndN (f_M_thrown δ') fun r1 δ1 => if r1 = r then (if r ≠ 0 then (chk (i32 (i + 6)) (f_law xs L n γ' δ1 w' (i + 6))) else (if iL w' = iL b then (chk (i32 (i + 6)) (f_law xs L n γ' δ1 w' (i + 6))) else none)) else none) (fun z => z = 1) := fun {γ' δ' r w' b} k1 k2 k3 k4 k5 => by
      refine wp_bs (show f_M_thrown δ' = some (δ' 0 2, δ') from rfl) ?_
      rw [if_pos k3]
      refine wp_ite (fun _ => nx γ' δ' w' k1 k2 k5) (fun q => ?_)
      rw [if_pos (by rw [k4 (by omega)])]
      exact nx γ' δ' w' k1 k2 k5
    refine wp_chk (by omega) (wp_ite (fun _ => ?_) (fun _ => ?_))
    · obtain ⟨r, γ', w', b, δ', e1, e2, ⟨a1, a2, a3, a4⟩, ⟨m1, m2, m3, m4⟩, k⟩ := wb (l_feed (w := w) (a0 := sv xs (i + 1)) (a1 := sv xs (i + 2)) (a2 := sv xs (i + 3)) (a3 := sv xs (i + 4)) (a4 := sv xs (i + 5)) h1 hc) (m_feed (a0 := sv xs (i + 1)) (a1 := sv xs (i + 2)) (a2 := sv xs (i + 3)) (a3 := sv xs (i + 4)) (a4 := sv xs (i + 5)) h2 hc) (iv_feed h3 (by omega))
      refine wp_chk (by omega) (wp_chk (by omega) (wp_chk (by omega) (wp_chk (by omega) (wp_chk (by omega) (wp_chk (by omega) (wp_chk (by omega) (wp_chk (by omega) (wp_chk (by omega) (wp_chk (by omega) (wp_bwE e1 ?_))))))))))
      refine wp_chk (by omega) (wp_chk (by omega) (wp_chk (by omega) (wp_chk (by omega) (wp_chk (by omega) (wp_chk (by omega) (wp_chk (by omega) (wp_chk (by omega) (wp_chk (by omega) (wp_chk (by omega) (wp_bs e2 ?_))))))))))
      have m2 : b = δ 0 1 + 20 := m2
      have m4 : δ' 0 2 = 0 := m4
      exact fin a1 m1 (by omega) (fun _ => by rw [a4, m2, h3.1.2.1]) (k a2)
    refine wp_ite (fun _ => ?_) (fun _ => ?_)
    · refine wp_chk (by omega) (wp_chk (by omega) ?_)
      have r10 := h3.1.2.1
      rcases l_end (a0 := sv xs (i + 1)) (w := w) h1 hc with ⟨q1, q2, k⟩ | ⟨q1, k⟩
      · rcases m_end (a0 := sv xs (i + 1)) h2 hc with ⟨q3, q4, m⟩ | ⟨q3, m⟩
        · obtain ⟨r, γ', w', b, δ', e1, e2, ⟨a1, a2, a3, a4⟩, ⟨m1, m2, m3, m4⟩, k⟩ := wb k m (iv_end h3)
          have m2 : b = sv xs (i + 1) := m2
          exact wp_bwE e1 (wp_chk (by omega) (wp_chk (by omega) (wp_bs e2 (fin a1 m1 k.1 (fun _ => by rw [a4, m2]) k.2))))
        · exfalso; omega
      · rcases m_end (a0 := sv xs (i + 1)) h2 hc with ⟨q3, q4, m⟩ | ⟨q3, m⟩
        · exfalso; omega
        · obtain ⟨r, γ', w', b, δ', e1, e2, ⟨a1, a2, a3⟩, ⟨m1, m2, m3⟩, k⟩ := wb k m (iv_end h3)
          exact wp_bwE e1 (wp_chk (by omega) (wp_chk (by omega) (wp_bs e2 (fin a1 m1 k.1 (fun t => by exfalso; omega) k.2))))
    refine wp_ite (fun _ => ?_) (fun _ => ?_)
    · obtain ⟨r, γ', b, δ', e1, e2, a, m, k⟩ := wb2 (k_read h1 hc) (m_read h2 hc) (iv_rd h1 hc h2 h3)
      refine wp_bs e1 (wp_bs e2 ?_)
      rw [if_pos (show r = b from k.1)]
      exact nx γ' δ' w a.1 m.1 k.2
    refine wp_ite (fun _ => ?_) (fun _ => ?_)
    · obtain ⟨r, γ', b, δ', e1, e2, a, m, k⟩ := wb2 (k_fault (a0 := sv xs (i + 1)) h1 hc) (m_fault (a0 := sv xs (i + 1)) h2 hc) (iv_fault h3)
      refine wp_chk (by omega) (wp_chk (by omega) (wp_bs e1 (wp_chk (by omega) (wp_chk (by omega) (wp_bs e2 ?_)))))
      rw [if_pos (show r = b from k.1)]
      exact nx γ' δ' w a.1 m.1 k.2
    refine wp_ite (fun _ => ?_) (fun _ => ?_)
    · obtain ⟨r, γ', w', b, δ', e1, e2, a, m, k⟩ := wb (l_input (w := w) (a0 := sv xs (i + 1)) (a1 := sv xs (i + 2)) h1 hc) (m_input (a0 := sv xs (i + 1)) (a1 := sv xs (i + 2)) h2 hc) (iv_input h3)
      exact wp_chk (by omega) (wp_chk (by omega) (wp_chk (by omega) (wp_chk (by omega) (wp_bwE e1 (wp_chk (by omega) (wp_chk (by omega) (wp_chk (by omega) (wp_chk (by omega) (wp_bs e2 (fin a.1 m.1 k.1 k.2.1 k.2.2))))))))))
    refine wp_ite (fun _ => ?_) (fun _ => ?_)
    · obtain ⟨r, γ', w', b, δ', e1, e2, a, m, k⟩ := wb (l_tick (w := w) (a0 := sv xs (i + 1)) h1 hc) (m_tick (a0 := sv xs (i + 1)) h2 hc) (iv_tick h1 h3)
      exact wp_chk (by omega) (wp_chk (by omega) (wp_bwE e1 (wp_chk (by omega) (wp_chk (by omega) (wp_bs e2 (fin a.1 m.1 k.1 k.2.1 k.2.2))))))
    refine wp_ite (fun _ => ?_) (fun _ => ?_)
    · obtain ⟨r, γ', w', b, δ', e1, e2, a, m, k⟩ := wb (l_value (w := w) (a0 := sv xs (i + 1)) h1 hc) (m_value (a0 := sv xs (i + 1)) h2 hc) (iv_value h1 h3)
      exact wp_chk (by omega) (wp_chk (by omega) (wp_bwE e1 (wp_chk (by omega) (wp_chk (by omega) (wp_bs e2 (fin a.1 m.1 k.1 k.2.1 k.2.2))))))
    refine wp_ite (fun _ => ?_) (fun _ => ?_)
    · obtain ⟨r, γ', w', b, δ', e1, e2, a, m, k⟩ := wb (l_about (w := w) (a0 := sv xs (i + 1)) (a1 := sv xs (i + 2)) h1 hc) (m_about (a0 := sv xs (i + 1)) (a1 := sv xs (i + 2)) h2 hc) (iv_about h1 h3)
      exact wp_chk (by omega) (wp_chk (by omega) (wp_chk (by omega) (wp_chk (by omega) (wp_bwE e1 (wp_chk (by omega) (wp_chk (by omega) (wp_chk (by omega) (wp_chk (by omega) (wp_bs e2 (fin a.1 m.1 k.1 k.2.1 k.2.2))))))))))
    refine wp_ite (fun _ => ?_) (fun _ => ?_)
    · obtain ⟨r, γ', w', b, δ', e1, e2, a, m, k⟩ := wb (l_causes (w := w) (a0 := sv xs (i + 1)) (a1 := sv xs (i + 2)) h1 hc) (m_causes (a0 := sv xs (i + 1)) (a1 := sv xs (i + 2)) h2 hc) (iv_causes h1 hc h2 h3)
      obtain ⟨k1, k2, k3⟩ := k
      have k1 : δ' 0 2 = r := k1
      have k2 : r = 0 → w' = 1 ∧ b = 1 ∨ w' = 0 ∧ b = 0 := k2
      refine wp_chk (by omega) (wp_chk (by omega) (wp_chk (by omega) (wp_chk (by omega) (wp_bwE e1 (wp_chk (by omega) (wp_chk (by omega) (wp_chk (by omega) (wp_chk (by omega) (wp_bs e2 ?_)))))))))
      refine wp_bs (show f_M_thrown δ' = some (δ' 0 2, δ') from rfl) ?_
      rw [if_pos k1]
      refine wp_ite (fun _ => nx γ' δ' w' a.1 m.1 k3) (fun q => ?_)
      rcases k2 (by omega) with ⟨u1, u2⟩ | ⟨u1, u2⟩
      · rw [if_neg (by omega), if_pos (by rw [u1])]
        exact nx γ' δ' w' a.1 m.1 k3
      · rw [if_pos u2, if_pos (by rw [u1])]
        exact nx γ' δ' w' a.1 m.1 k3
    refine wp_ite (fun _ => ?_) (fun _ => ?_)
    · obtain ⟨r, γ', w', b, δ', e1, e2, a, m, k⟩ := wb (l_restart (w := w) h1 hc) (m_restart h2 hc) (iv_restart h3)
      exact wp_bwE e1 (wp_bs e2 (fin a.1 m.1 k.1 k.2.1 k.2.2))
    refine wp_ite (fun _ => ?_) (fun _ => ?_)
    · obtain ⟨r, γ', w', b, δ', e1, e2, a, m, k⟩ := wb (l_keep (w := w) h1 hc) (m_keep h2 hc) (iv_keep h3)
      refine wp_bwE e1 (wp_bs e2 (wp_bs (show f_M_thrown δ' = some (δ' 0 2, δ') from rfl) ?_))
      rw [if_pos (show δ' 0 2 = r from k.1)]
      exact nx γ' δ' w' a.1 m.1 k.2
    refine wp_ite (fun _ => ?_) (fun _ => ?_)
    · obtain ⟨r, γ', w', b, δ', e1, e2, a, m, k⟩ := wb (l_back (w := w) h1 hc) (m_back h2 hc) (iv_back h3)
      exact wp_bwE e1 (wp_bs e2 (fin a.1 m.1 k.1 k.2.1 k.2.2))
    refine wp_ite (fun _ => ?_) (fun _ => ?_)
    · obtain ⟨r, γ', b, δ', e1, e2, a, m, k⟩ := wb2 (k_count (a0 := sv xs (i + 1)) h1 hc) (m_count (a0 := sv xs (i + 1)) h2 hc) (iv_count h3)
      refine wp_chk (by omega) (wp_chk (by omega) (wp_bs e1 (wp_chk (by omega) (wp_chk (by omega) (wp_bs e2 ?_)))))
      rw [if_pos (show r = b from k.1)]
      exact nx γ' δ' w a.1 m.1 k.2
    · exact nx γ δ w (h1.up hc) (h2.up hc) h3
theorem pure (L : Nat) (xs : Nat → Int32) (hL : L ≤ 3072) : f_law xs L 600 γ0 δ0 0 0 = some 1 :=
  some_wp (pure_go hL 600 γ0 δ0 0 0 0 cls0 mo0 inv0 (by omega) (by omega) (by omega))
theorem i_vc : Claimed_1_1 ∧ Claimed_1_2 := whole_of_law pure
