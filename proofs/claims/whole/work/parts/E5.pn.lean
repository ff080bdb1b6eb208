/-! equality: a node, whole -/
theorem pq_node {N : Int} {γ δ : St} (h : PnR N γ δ) (t : TpW δ) : pq (rdN γ) (f_M_node δ) (OuR (PnR N)) := by
  have ⟨pg, nt, eqt, pt, fl0, sz⟩ := h
  rw [rdN_s, show f_M_node δ = bndT (bndT (ndF δ) fun _ δ1 => vrs δ1) (fun _ δ2 => f_M_node_b242 δ2) by rw [node_s, bT_T]]
  refine pq_bb (pq_and (pq_hv pg) (h_node t).pc) (fun r γ' e δ' hh => ?_) (fun r γ1 x δ1 hh => ?_)
  · rw [if_pos hh.1.er.1]
    exact pq_some hh.1.hand
  obtain ⟨e1, hi⟩ := hh.1.go
  obtain ⟨ndd, f56, lt5⟩ := hh.2 x rfl
  rw [if_neg (by rw [e1]; decide)]
  unfold bdC
  rw [b242_s]
  have ⟨⟨dc1, hd1⟩, h29, fcn, fgn, le19, h26, h27⟩ := hi
  have e18 : δ1 0 18 = δ 0 18 := ndd.e18
  refine pq_bb (pq_and (pq_let dc1.1) (h_b242 t ndd f56 lt5).pc) (fun r γ' e δ' hh => ?_) (fun r γ2 x2 δ2 hh => ?_)
  · rw [if_pos hh.1.er.1]
    exact pq_some hh.1.hand
  obtain ⟨e2, g2, l2, fr, kt⟩ := hh.1.go
  have ne : NdE δ δ2 := hh.2 x2 rfl
  rw [if_neg (by rw [e2]; decide)]
  rw [e18] at fr
  have n18 : δ2 0 18 = δ 0 18 := ne.2.2.1.1
  have cg : ∀ (j : Nat) (k : Int), j ≠ 1 → γ2 j k = γ1 j k := fun j k q => by rw [g2, nxS_o γ1 (by omega)]
  -- frames from the node's beginning
  have cA : ∀ (j : Nat) (k : Int), j = 4 ∨ 38 ≤ j ∧ j ≤ 47 ∨ 30 ≤ j ∧ j ≤ 32 ∨ (25 ≤ j ∧ j ≤ 29 ∧ k ≠ δ 0 18) → γ2 j k = γ j k := fun j k q => by
    rw [cg j k (by omega)]
    exact fcn j k (by omega) (by omega) (by omega) (by omega) (by omega) (by omega)
  have dA : ∀ (j : Nat) (k : Int), 15 ≤ j ∧ j ≤ 27 ∨ j = 0 ∧ (k = 30 ∨ k = 31 ∨ k = 40) → δ2 j k = δ j k := fun j k q => by
    rw [fr j k (by omega) (by omega) (by omega)]
    exact fgn j k (by omega) (by omega) (by omega)
  have t30 := t.2.2.1.1
  have t31 := t.2.2.2.1.1
  have en : EnR N γ2 δ2 := by
    refine ⟨dc1.x4 l2 (fun j k q => cg j k (by omega)) (fun j k q => fr j k (by omega) (by omega) (by omega)) (fr 4 _ (by omega) (by omega) (by omega)), ?_, ?_, ?_, by rw [dA 0 30 (by omega)]; exact t30, by rw [dA 0 31 (by omega)]; exact t31⟩
    · have f := ne.2.2.2.1.1
      rw [n18]
      refine ⟨?_, by omega⟩
      rw [cg 26 _ (by omega), fr 5 _ (by omega) (by omega) (by omega)]
      exact h26 (by omega)
    · obtain ⟨⟨f1, f2⟩, f3, f4⟩ := eqt
      refine ⟨⟨by rw [cA 4 10 (by omega), dA 0 30 (by omega)]; exact f1, by rw [cA 4 12 (by omega), dA 0 31 (by omega)]; exact f2⟩, fun k r1 r2 => ?_, fun i r1 r2 => ?_⟩
      · rw [dA 0 30 (by omega)] at r2
        obtain ⟨w1, w2, w3, w4, w5⟩ := f3 k r1 r2
        exact ⟨by rw [cA 42 k (by omega), dA 15 k (by omega)]; exact w1, by rw [cA 43 k (by omega), dA 19 k (by omega)]; exact w2, by rw [cA 44 k (by omega), dA 17 k (by omega)]; exact w3, by rw [cA 45 k (by omega), dA 16 k (by omega)]; exact w4, by rw [cA 46 k (by omega), dA 16 k (by omega), dA 16 _ (by omega)]; exact w5⟩
      · rw [dA 0 31 (by omega)] at r2
        rw [cA 47 i (by omega), dA 18 i (by omega)]
        exact f4 i r1 r2
    · exact pt.fr (fun j r1 r2 k => cA j k (by omega)) (cA 4 4 (by omega)) (fun j r1 r2 r3 r4 r5 k => dA j k (by omega)) (dA 0 40 (by omega))
  have e44 : γ2 4 4 = δ 0 40 := by rw [cA 4 4 (by omega)]; exact pt.1.1
  rw [L297_s]
  show pq _ (bndT (f_M_node_L297 x0 (999999 + 1) δ2) _) _
  rw [f_M_node_L297, bT_T]
  refine pq_bb (pq_eqn2 (P := δ 0 40) (by omega) en ne) (fun r γ' e δ' hh => ?_) (fun r γ3 x3 δ3 hh => ?_)
  · rw [if_pos hh.er.1]
    exact pq_some hh.hand
  obtain ⟨e3, ⟨k1, k2⟩, k3, k4, k5, k6⟩ := hh.go
  rw [if_neg (by rw [e3]; decide)]
  have g6 := en.1.1.1.2.2.2.1
  refine pq_bb (pq_bodyL (δ1 := δ2) (γ1 := γ2) 999999 FU γ3 δ3 0 k1 k2 k4 k5 k6 (Int.le_refl _) (by omega)) (fun r γ' e δ' hh => ?_) (fun r γ4 x4 δ4 hh => ?_)
  · unfold f_Nr_readBody_b72
    rw [if_pos hh.er.1]
    exact pq_some hh.hand
  obtain ⟨e4, bd⟩ := hh.go
  rw [e4]
  unfold f_Nr_readBody_b72
  rw [if_neg (show ¬ (1 : Int) = 0 by decide), b311_s]
  obtain ⟨en4, fc4, ne4, lt4, kd4, pk4, dd4⟩ := bd
  have m18 : δ4 0 18 = δ 0 18 := ne4.2.2.1.1
  have c4 : ∀ (j : Nat) (k : Int), 13 ≤ j ∧ j ≤ 35 ∨ j = 2 → γ4 j k = γ1 j k := fun j k q => by rw [fc4 j k (by omega) (by omega) (by omega) (by omega), cg j k (by omega)]
  have d4 : ∀ (j : Nat) (k : Int), 2 ≤ j → j ≤ 6 → (j = 4 → k ≠ δ 0 18 + 1) → δ4 j k = δ1 j k := fun j k q1 q2 q3 => by rw [dd4 j k q1 (by omega), fr j k (by omega) q3 (by omega)]
  have nth : NtH γ4 δ4 := fun f q1 q2 => by
    rw [m18] at q2
    have o : ∀ j : Nat, 25 ≤ j → j ≤ 27 → γ4 j f = γ j f := fun j r1 r2 => by
      rw [c4 j f (by omega)]
      exact fcn j f (by omega) (by omega) (by omega) (by omega) (by omega) (by omega)
    have o2 : ∀ j : Nat, 4 ≤ j → j ≤ 6 → δ4 j f = δ j f := fun j r1 r2 => by
      rw [d4 j f (by omega) (by omega) (by omega)]
      exact fgn j f (by omega) (by omega) (by omega)
    rw [o 25 (by omega) (by omega), o 26 (by omega) (by omega), o 27 (by omega) (by omega), o2 4 (by omega) (by omega), o2 5 (by omega) (by omega), o2 6 (by omega) (by omega)]
    exact (nt f q1 q2).1
  have h29' : γ4 29 (δ 0 18) = δ 0 30 := by rw [c4 29 _ (by omega), h29]; exact eqt.1.1
  have hb : HbR γ δ γ4 δ4 := by
    refine ⟨fun j k q1 q2 => ?_, fun j k q1 q2 q3 => ?_, fun k q => ?_, ⟨?_, h29'⟩, ?_⟩
    · rw [fc4 j k (by omega) (by omega) (by omega) (by omega)]; exact cA j k (by omega)
    · rw [fc4 j k (by omega) (by omega) (by omega) (by omega)]; exact cA j k (by omega)
    · rw [fc4 41 k (by omega) (by omega) (by omega) (by omega)]; exact cA 41 k (by omega)
    · rw [c4 27 _ (by omega), d4 6 _ (by omega) (by omega) (by omega)]
      exact h27 (by omega)
    · refine hd1.fr (fun j k q => c4 j k (by omega)) (fun j k q => ?_)
      rcases q with q | q | ⟨q, q2 | q2⟩
      · subst q; exact d4 2 k (by omega) (by omega) (by omega)
      · subst q; exact d4 3 k (by omega) (by omega) (by omega)
      · subst q; subst q2; rw [m18, e18]
      · subst q; subst q2
        rw [ne4.2.1 0 1 (by omega) (by omega) (by omega) (by omega) (by omega) (by omega) (by omega) (by omega) (by omega)]
        exact (fgn 0 1 (by omega) (by omega) (by omega)).symm
  refine pq_bb (pq_check t ⟨en4, fc4, ne4, lt4, kd4, pk4, dd4⟩ nth (by rw [m18]; exact h29')) (fun r γ' e δ' hh => ?_) (fun r γ5 x5 δ5 hh => ?_)
  · rw [if_pos hh.er.1]
    exact pq_some hh.hand
  obtain ⟨e5, nc⟩ := hh.go
  rw [if_neg (by rw [e5]; decide)]
  exact pq_nfin h t ⟨en4, fc4, ne4, lt4, kd4, pk4, dd4⟩ hb nc
