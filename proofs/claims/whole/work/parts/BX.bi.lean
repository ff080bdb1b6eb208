/-! equality: the class's loop, step by step -/
section LPS
variable {α : Type} {m : Option α} {Q : Int × St → α → Prop}
theorem pq_lpf {c : Option (Int × St)} {γ1 : St} {n : Nat} {i : Int} (h : pc c (fun z => z = (0, γ1))) (k : pq (some (0, γ1)) m Q) : pq (bndN c fun r γ' => chk (i32 (i + 1)) (f_Er_readRightSide_L57 n γ' r (i + 1))) m Q := pq_bl h (fun r γ' e => by
  cases e
  refine pq_cl (fun _ => fun y z e1 e2 => ?_)
  rw [lp_0 _ _ _ e1]
  exact k _ z rfl e2)
theorem pq_lps {c : Option (Int × St)} {γ1 : St} {n : Nat} {i : Int} (h : pc c (fun z => z = (1, γ1))) (k : pq (f_Er_readRightSide_L57 n γ1 1 (i + 1)) m Q) : pq (bndN c fun r γ' => chk (i32 (i + 1)) (f_Er_readRightSide_L57 n γ' r (i + 1))) m Q := pq_bl h (fun r γ' e => by
  cases e
  exact pq_cl (fun _ => k))
theorem rank_pc {γ : St} {k : Int} : pc (f_S_rank γ k) (fun z => z = (rankK k, γ)) := fun y e => by rw [f_S_rank_eq] at e; cases e; rfl
theorem nest_pc {γ : St} {k : Int} : pc (f_S_nesting γ k) (fun z => z = (nestK k, γ)) := fun y e => by rw [f_S_nesting_eq] at e; cases e; rfl
/-- an operator of two sides waits -/
theorem two_pc {γ : St} {c : Int} (rc : 0 < rankK c ∧ rankK c < 8) (tp : γ 6 8 ≤ 0 ∨ rankK (topK γ) < (if rankK c ≤ 2 ∨ rankK c = 5 then rankK c + 1 else rankK c) ∧ (rankK c = 5 → rankK (topK γ) ≠ 5)) (hb : γ 6 8 < 512) (hl : γ 1 6 + 1 < γ 1 5) : pc (f_Er_readTwoSided γ c (rankK c)) (fun z => z = (1, nxS (puS γ c (if rankK c = 1 then 1 else 0)))) := by
  have b103 : ∀ w, w = (if rankK c = 1 then 1 else 0) → pc (f_Er_readTwoSided_b103 γ w c) (fun z => z = (1, nxS (puS γ c (if rankK c = 1 then 1 else 0)))) := fun w hw => by
    unfold f_Er_readTwoSided_b103
    refine pc_b (push_pc hb hl) (fun r γ' e => ?_)
    cases e
    exact pc_s (by rw [hw])
  have b91 : pc (f_Er_readTwoSided_b91 γ c (rankK c)) (fun z => z = (1, nxS (puS γ c (if rankK c = 1 then 1 else 0)))) := by
    unfold f_Er_readTwoSided_b91
    exact pc_i (fun q => b103 0 (by rw [if_neg q])) (fun q => b103 1 (by rw [if_pos (by omega)]))
  have b28 : ∀ x, (γ 6 8 ≤ 0 ∨ rankK (topK γ) < x) → pc (f_Er_readTwoSided_b28 γ c (rankK c) x) (fun z => z = (1, nxS (puS γ c (if rankK c = 1 then 1 else 0)))) := fun x hx => by
    unfold f_Er_readTwoSided_b28
    refine pc_b (P := fun z => z = (1, γ)) (fun y e => reduce_n hx e) (fun r γ' e => ?_)
    cases e
    rw [if_pos (show (1 : Int) ≠ 0 by decide)]
    refine pc_i (fun _ => b91) (fun q => pc_i (fun _ => b91) (fun q2 => pc_c (fun _ => pc_c (fun _ => pc_b rank_pc (fun r γ' e => ?_)))))
    cases e
    refine pc_i (fun _ => b91) (fun q3 => ?_)
    exfalso
    have q4 : rankK (topK γ) = 5 := by unfold topK; omega
    rcases tp with tp | ⟨_, tp⟩
    · omega
    · exact tp (by omega) q4
  have b21 : (rankK c ≤ 2 ∨ rankK c = 5) → pc (f_Er_readTwoSided_b21 γ c (rankK c)) (fun z => z = (1, nxS (puS γ c (if rankK c = 1 then 1 else 0)))) := fun q => by
    rw [if_pos q] at tp
    unfold f_Er_readTwoSided_b21
    exact pc_c (fun _ => b28 _ (by omega))
  unfold f_Er_readTwoSided f_Er_readTwoSided_b10
  refine pc_i (fun q => ?_) (fun q => ?_)
  · rw [if_neg (show ¬ (0 : Int) ≠ 0 by decide)]
    refine pc_i (fun q2 => ?_) (fun q2 => b21 (by omega))
    rw [if_neg (by omega)] at tp
    exact b28 _ (by omega)
  · rw [if_pos (show (1 : Int) ≠ 0 by decide)]
    exact b21 (by omega)
theorem rop_pc {γ : St} {P : Int × St → Prop} (h0 : γ 6 11 = 0 ∨ 1 ≤ γ 6 8) (h : pc (f_Er_readOperator_b27 γ (γ 14 (γ 1 6)) 0) P) : pc (f_Er_readOperator γ) P := by
  unfold f_Er_readOperator
  refine pc_b kind_pc (fun r γ' e => ?_)
  cases e
  exact pc_i (fun _ => h) (fun q => pc_i (fun _ => h) (fun q2 => by exfalso; omega))
theorem lp_push {N d i c : Int} {f : Nat} {γ δ : St} (h : XpR N d i γ δ) (h12 : γ 6 12 = 0) (hc : γ 14 (γ 1 6) = c) (rc : 0 < rankK c ∧ rankK c < 8 ∧ c ≠ 34) (tp : γ 6 8 ≤ 0 ∨ rankK (topK γ) < lstK c ∧ (rankK c = 5 → rankK (topK γ) ≠ 5)) (hb : γ 6 8 < 512) (k0 : tK δ ≠ 0) (k3 : tK δ ≠ 3) (cont : ∀ n, pq (f_Er_readRightSide_L57 n (nxS (puS γ c (if rankK c = 1 then 1 else 0))) 1 (i + 1)) m Q) : pq (f_Er_readRightSide_L57 f γ 1 i) m Q := by
  cases f with
  | zero => exact pq_nl
  | succ n =>
    rw [lp_op n γ i h.lp h12]
    refine pq_lps (rop_pc h.2.2.2.2.2.2 ?_) (cont n)
    rw [hc]
    have c27 : c ≠ 27 := fun q => by rw [q] at rc; exact absurd rc.1 (by decide)
    unfold f_Er_readOperator_b27 f_Er_readOperator_b43
    rw [if_pos c27]
    refine pc_b rank_pc (fun r γ' e => ?_)
    cases e
    rw [if_neg (show ¬ rankK c ≤ 0 by omega), if_neg (show ¬ 8 ≤ rankK c by omega), if_neg rc.2.2, if_neg (show ¬ (0 : Int) ≠ 0 by decide)]
    unfold lstK at tp
    rw [if_pos rc] at tp
    refine pc_b (two_pc ⟨rc.1, rc.2.1⟩ tp hb (h.1.1.1.lt k0 k3)) (fun r γ' e => ?_)
    cases e
    exact pc_s rfl
/-- a second comparison -/
theorem lp_doom {N d i : Int} {f : Nat} {γ δ : St} (h : XpR N d i γ δ) (h12 : γ 6 12 = 0) (hr : rankK (γ 14 (γ 1 6)) = 5) (hs : 0 < γ 6 8) (ht : rankK (topK γ) = 5) (k : pq (Dm γ) m Q) : pq (f_Er_readRightSide_L57 f γ 1 i) m Q := by
  cases f with
  | zero => exact pq_nl
  | succ n =>
    rw [lp_op n γ i h.lp h12]
    generalize hc : γ 14 (γ 1 6) = c at hr
    have c27 : c ≠ 27 := fun q => by rw [q] at hr; exact absurd hr (by decide)
    have c34 : c ≠ 34 := fun q => by rw [q] at hr; exact absurd hr (by decide)
    have rr : pc (f_Er_readOperator γ) (fun y => y.1 = 0 ∧ Dm γ = some y) := by
      refine rop_pc h.2.2.2.2.2.2 ?_
      rw [hc]
      unfold f_Er_readOperator_b27 f_Er_readOperator_b43
      rw [if_pos c27]
      refine pc_b rank_pc (fun r γ' e => ?_)
      cases e
      rw [if_neg (show ¬ rankK c ≤ 0 by omega), if_neg (show ¬ 8 ≤ rankK c by omega), if_neg c34, if_neg (show ¬ (0 : Int) ≠ 0 by decide)]
      refine pc_b (P := fun y => y.1 = 0 ∧ Dm γ = some y) ?_ (fun r γ' e => pc_s e)
      unfold f_Er_readTwoSided f_Er_readTwoSided_b10 f_Er_readTwoSided_b21 f_Er_readTwoSided_b28
      rw [if_pos (show 2 < rankK c by omega), if_neg (show ¬ (0 : Int) ≠ 0 by decide), if_neg (show ¬ rankK c ≠ 5 by omega)]
      refine pc_c (fun _ => pc_b (P := fun z => z = (1, γ)) (fun y e => reduce_n (by omega) e) (fun r γ' e => ?_))
      cases e
      rw [if_pos (show (1 : Int) ≠ 0 by decide), if_neg (show ¬ rankK c ≠ 5 by omega), if_neg (show ¬ γ 6 8 ≤ 0 by omega)]
      refine pc_c (fun _ => pc_c (fun _ => pc_b rank_pc (fun r γ' e => ?_)))
      cases e
      rw [if_neg (show ¬ rankK (γ 48 (γ 6 8 - 1)) ≠ 5 from fun q => q ht)]
      intro y e
      obtain ⟨w, e1, e2⟩ := bN_e e
      unfold Dm
      rw [e1]
      show _ ∧ (if w.1 = 0 then _ else _) = _
      by_cases q : w.1 = 0
      · rw [if_pos q] at e2 ⊢
        cases e2
        exact ⟨rfl, rfl⟩
      · rw [if_neg q] at e2 ⊢
        obtain ⟨v, e3, e4⟩ := bN_e e2
        rw [e3]
        have v0 : v.1 = 0 := by
          unfold f_Tk_fail at e3
          by_cases q7 : w.2 1 7 = 0
          · exact congrArg Prod.fst (fail_pc q7 v (by unfold f_Tk_fail; exact e3))
          · rw [if_pos q7] at e3
            cases e3; rfl
        rw [if_pos v0] at e4
        cases e4
        exact ⟨rfl, rfl⟩
    intro y z e1 e2
    obtain ⟨w, e3, e4⟩ := bN_e e1
    obtain ⟨a, b⟩ := rr w e3
    have e5 := (chk_e e4).2
    rw [a] at e5
    have e6 := lp_0 n _ _ e5
    refine k y z ?_ e2
    rw [b, e6, ← a]
/-- one deeper, or too deep -/
theorem pq_nest {N d i : Int} {f : Nat} {γ δ : St} {K : Int → St → Option Res} {R : St → St → Prop} (h : XpR N (d + 1) i γ δ) (h12 : γ 6 12 ≠ 0) (hd : 0 ≤ d ∧ d ≤ 40) (cont : d < 40 → pq (f_Er_readRightSide_L57 f γ 1 i) (K (d + 1) δ) (OuR R)) : pq (f_Er_readRightSide_L57 f γ 1 i) (bndT (f_M_nest δ d) K) (OuR R) := by
  unfold f_M_nest
  by_cases q : 40 ≤ d
  · rw [if_pos q, bndN_eq (pkM_eq h.1.1.1.1), pk_7]
    show pq _ (some (Sum.inl (3, sk δ), pkS δ)) _
    cases f with
    | zero => exact pq_nl
    | succ n =>
      rw [lp_or n γ i h.lp h12]
      refine pq_lpf (γ1 := flS γ 3) ?_ (pq_some (OuR.no (flS_7 _ _) (by rw [flS_8]; exact h.1.1.1.2.2.2.2.symm) (by decide)))
      unfold f_Er_readOperand
      rw [if_neg (show ¬ γ 6 10 ≤ 40 by have := h.2.2.2.1.2.1; omega)]
      refine pc_b (fail_pc h.1.1.2) (fun r γ' e => ?_)
      cases e
      exact pc_s rfl
  · rw [if_neg q]
    intro y z e1 e2
    have e3 : bndT (chk (i32 (d + 1)) (some (Sum.inr (d + 1), δ))) K = some z := e2
    rw [bT_C] at e3
    exact cont (by omega) y z e1 (chk_e e3).2
end LPS
