/-! equality: closers -/
def cbS (γ : St) : St := fun j k => if j = 6 ∧ k = 10 then γ 6 10 - 1 else if j = 6 ∧ k = 8 then γ 6 8 - 1 else γ j k
def gbS (γ : St) (c : Int) : St := fun j k => if j = 6 ∧ (k = 12 ∨ k = 13) then 1 else if j = 48 ∧ k = γ 6 8 - 1 then c else γ j k
def tiS (γ : St) : St := fun j k => if j = 51 ∧ k = γ 6 8 - 1 then max (γ 51 (γ 6 8 - 1)) (γ 52 (γ 6 9 - 1)) else if j = 50 ∧ k = γ 6 8 - 1 then γ 50 (γ 6 8 - 1) + 1 else if j = 6 ∧ k = 9 then γ 6 9 - 1 else γ j k
def ccS (γ : St) : St := fun j k => if j = 6 ∧ k = 9 then γ 6 9 + 1 else if j = 52 ∧ k = γ 6 9 then γ 51 (γ 6 8 - 1) + 1 else if j = 6 ∧ k = 8 then γ 6 8 - 1 else if j = 6 ∧ k = 10 then γ 6 10 - 1 else caS γ 43 (γ 49 (γ 6 8 - 1)) (γ 50 (γ 6 8 - 1)) j k
theorem goOn_pc {γ : St} {c : Int} (hl : γ 1 6 + 1 < γ 1 5) : pc (f_Er_goOnBehind γ c) (fun z => z = (1, nxS (gbS γ c))) := by
  unfold f_Er_goOnBehind
  refine pc_c (fun _ => pc_c (fun _ => pc_a (pc_a (pc_a ?_))))
  generalize hg : setA _ 6 13 1 = γ2
  have e : γ2 = gbS γ c := by
    rw [← hg]
    funext j k
    simp [stA, gbS]
    grind
  rw [e]
  have o : ∀ k, gbS γ c 1 k = γ 1 k := fun k => by
    show (if _ then _ else _) = _
    rw [if_neg (by omega), if_neg (by omega)]
  refine pc_b (step_pc2 (by rw [o, o]; exact hl)) (fun r γ3 e => ?_)
  cases e
  exact pc_s rfl
theorem takeIn_pc {γ : St} : pc (f_Er_takeInput γ) (fun z => z = (0, tiS γ)) := by
  unfold f_Er_takeInput
  refine pc_c (fun _ => pc_a ?_)
  have e8 : setA γ 6 9 (γ 6 9 - 1) 6 8 = γ 6 8 := by rw [stA, if_neg (by omega)]
  rw [e8]
  refine pc_c (fun _ => pc_a (pc_c (fun _ => pc_c (fun _ => pc_c (fun _ => pc_a (pc_c (fun _ => pc_c (fun _ => pc_c (fun _ => pc_a (pc_s ?_))))))))))
  refine congrArg (Prod.mk 0) (funext fun j => funext fun k => ?_)
  simp [stA, tiS]
theorem closeC_pc {γ : St} (h7 : γ 1 7 = 0) (hl : γ 1 6 + 1 < γ 1 5) : pc (f_Er_closeCall γ) (fun z => γ 51 (γ 6 8 - 1) < 200 ∧ z = (1, nxS (ccS γ)) ∨ 200 ≤ γ 51 (γ 6 8 - 1) ∧ z = (0, flS (nxS (ccS γ)) 3)) := by
  unfold f_Er_closeCall
  refine pc_c (fun _ => pc_a (pc_c (fun _ => pc_a ?_)))
  generalize hg : setA _ 6 10 _ = γ2
  have s2 : ∀ j k, γ2 j k = if j = 6 ∧ k = 8 then γ 6 8 - 1 else if j = 6 ∧ k = 10 then γ 6 10 - 1 else γ j k := fun j k => by
    rw [← hg]
    simp [stA]
    grind
  have e8 : γ2 6 8 = γ 6 8 - 1 := by rw [s2, if_pos ⟨rfl, rfl⟩]
  rw [e8]
  refine pc_c (fun _ => pc_c (fun _ => pc_b cdadd_pc (fun r γ3 e => ?_)))
  cases e
  have o : ∀ (j : Nat) (k : Int), (j < 38 ∨ 41 < j) → (j ≠ 4 ∨ k ≠ 4) → caS γ2 43 (γ2 49 (γ 6 8 - 1)) (γ2 50 (γ 6 8 - 1)) j k = γ2 j k := fun j k q1 q2 => caS_o _ _ _ _ q2 (by omega)
  rw [o 6 8 (by omega) (by omega), e8, o 6 9 (by omega) (by omega), o 51 _ (by omega) (by omega)]
  refine pc_c (fun _ => pc_c (fun _ => pc_c (fun _ => pc_a (pc_c (fun _ => pc_a ?_)))))
  generalize hg3 : setA _ 6 9 _ = γ4
  have e4 : γ4 = ccS γ := by
    rw [← hg3]
    funext j k
    rw [stA, stA, stA, if_neg (show ¬ (6 = 52 ∧ (9 : Int) = _) by omega), o 6 9 (by omega) (by omega)]
    have r9 : γ2 6 9 = γ 6 9 := by rw [s2, if_neg (by omega), if_neg (by omega)]
    have r51 : γ2 51 (γ 6 8 - 1) = γ 51 (γ 6 8 - 1) := by rw [s2, if_neg (by omega), if_neg (by omega)]
    have r49 : γ2 49 (γ 6 8 - 1) = γ 49 (γ 6 8 - 1) := by rw [s2, if_neg (by omega), if_neg (by omega)]
    have r50 : γ2 50 (γ 6 8 - 1) = γ 50 (γ 6 8 - 1) := by rw [s2, if_neg (by omega), if_neg (by omega)]
    have r44 : γ2 4 4 = γ 4 4 := by rw [s2, if_neg (by omega), if_neg (by omega)]
    rw [r9, r51, r49, r50]
    unfold ccS caS
    rw [r44, s2]
    grind
  rw [e4]
  have o1 : ∀ k, ccS γ 1 k = γ 1 k := fun k => by
    show (if _ then _ else _) = _
    rw [if_neg (by omega), if_neg (by omega), if_neg (by omega), if_neg (by omega), caS_o _ _ _ _ (by omega) (by omega)]
  refine pc_b (step_pc2 (by rw [o1, o1]; exact hl)) (fun r γ5 e => ?_)
  cases e
  have n8 : nxS (ccS γ) 6 8 = γ 6 8 - 1 := by
    rw [nxS_o _ (by omega)]
    show (if _ then _ else _) = _
    rw [if_neg (by omega), if_neg (by omega), if_pos ⟨rfl, rfl⟩]
  have n51 : nxS (ccS γ) 51 (γ 6 8 - 1) = γ 51 (γ 6 8 - 1) := by
    rw [nxS_o _ (by omega)]
    show (if _ then _ else _) = _
    rw [if_neg (by omega), if_neg (by omega), if_neg (by omega), if_neg (by omega), caS_o _ _ _ _ (by omega) (by omega)]
  rw [n8, n51]
  refine pc_c (fun _ => pc_i (fun q => pc_s (Or.inl ⟨q, rfl⟩)) (fun q => ?_))
  refine pc_b (fail_pc (by rw [nxS_o _ (by omega), o1]; exact h7)) (fun r γ6 e => ?_)
  cases e
  rw [if_pos rfl]
  exact pc_s (Or.inr ⟨by omega, rfl⟩)
theorem clo_top {γ : St} {c : Int} {P : Int × St → Prop} (hs : 0 < γ 6 8) (h : pc (f_Er_readCloser_b22 γ c (topK γ)) P) : pc (f_Er_readCloser γ c) P := by
  unfold f_Er_readCloser
  refine pc_i (fun q => by exfalso; omega) (fun q => pc_c (fun _ => pc_c (fun _ => h)))
theorem clo_no {γ : St} {c : Int} (h7 : γ 1 7 = 0) (hs : 0 < γ 6 8) (h0 : topK γ ≠ 0) (h : ¬ (topK γ = 32 ∧ c = 33) ∧ ¬ (topK γ = 33 ∧ c = 34) ∧ ¬ (topK γ = 4 ∧ c = 5) ∧ ¬ (topK γ = 43 ∧ (c = 8 ∨ c = 5))) : pc (f_Er_readCloser γ c) (fun z => z = (0, flS γ 1)) := by
  refine clo_top hs ?_
  have b157 : pc (f_Er_readCloser_b157 γ) (fun z => z = (0, flS γ 1)) := by
    unfold f_Er_readCloser_b157
    refine pc_b (fail_pc h7) (fun r γ' e => ?_)
    cases e
    exact pc_s rfl
  generalize topK γ = t at h h0
  have b116 : pc (f_Er_readCloser_b116 γ c t) (fun z => z = (0, flS γ 1)) := by
    unfold f_Er_readCloser_b116
    exact pc_i (fun _ => b157) (fun q => pc_i (fun q2 => by exfalso; omega) (fun q2 => pc_i (fun _ => b157) (fun q3 => by exfalso; omega)))
  have b77 : pc (f_Er_readCloser_b77 γ c t) (fun z => z = (0, flS γ 1)) := by
    unfold f_Er_readCloser_b77
    exact pc_i (fun _ => b116) (fun q => pc_i (fun _ => b116) (fun q2 => by exfalso; omega))
  have b59 : pc (f_Er_readCloser_b59 γ c t) (fun z => z = (0, flS γ 1)) := by
    unfold f_Er_readCloser_b59
    exact pc_i (fun _ => b77) (fun q => pc_i (fun _ => b77) (fun q2 => by exfalso; omega))
  unfold f_Er_readCloser_b22 f_Er_readCloser_b47
  rw [if_pos h0]
  exact pc_i (fun _ => b59) (fun q => pc_i (fun q2 => by exfalso; omega) (fun _ => b59))
theorem clo_4 {γ : St} (hl : γ 1 6 + 1 < γ 1 5) (hs : 0 < γ 6 8) (h : topK γ = 4) : pc (f_Er_readCloser γ 5) (fun z => z = (1, nxS (cbS γ))) := by
  refine clo_top hs ?_
  rw [h]
  unfold f_Er_readCloser_b22 f_Er_readCloser_b47 f_Er_readCloser_b59 f_Er_readCloser_b77
  rw [if_pos (show (4 : Int) ≠ 0 by decide), if_pos (show (4 : Int) ≠ 32 by decide), if_pos (show (4 : Int) ≠ 33 by decide), if_neg (show ¬ (4 : Int) ≠ 4 by decide), if_neg (show ¬ (5 : Int) ≠ 5 by decide)]
  refine pc_c (fun _ => pc_a (pc_c (fun _ => pc_a ?_)))
  generalize hg : setA _ 6 10 _ = γ2
  have e : γ2 = cbS γ := by
    rw [← hg]
    funext j k
    simp [stA, cbS]
  rw [e]
  have o : ∀ k, cbS γ 1 k = γ 1 k := fun k => by
    show (if _ then _ else _) = _
    rw [if_neg (by omega), if_neg (by omega)]
  refine pc_b (step_pc2 (by rw [o, o]; exact hl)) (fun r γ3 e => ?_)
  cases e
  exact pc_s rfl
theorem clo_go {γ : St} {c : Int} (hl : γ 1 6 + 1 < γ 1 5) (hs : 0 < γ 6 8) (h : topK γ = 32 ∧ c = 33 ∨ topK γ = 33 ∧ c = 34) : pc (f_Er_readCloser γ c) (fun z => z = (1, nxS (gbS γ c))) := by
  refine clo_top hs ?_
  have b71 : pc (f_Er_readCloser_b71 γ c) (fun z => z = (1, nxS (gbS γ c))) := by
    unfold f_Er_readCloser_b71
    refine pc_b (goOn_pc hl) (fun r γ' e => ?_)
    cases e
    exact pc_s rfl
  generalize topK γ = t at h
  unfold f_Er_readCloser_b22 f_Er_readCloser_b47 f_Er_readCloser_b59
  rw [if_pos (show t ≠ 0 by omega)]
  refine pc_i (fun q => ?_) (fun q => pc_i (fun _ => b71) (fun q2 => by exfalso; omega))
  rw [if_neg (show ¬ t ≠ 33 by omega), if_neg (show ¬ c ≠ 34 by omega)]
  exact b71
theorem clo_43 {γ : St} {c : Int} {P : Int × St → Prop} (hs : 0 < γ 6 8) (h : topK γ = 43) (hc : c = 8 ∨ c = 5) (k : pc (f_Er_readCloser_b133 γ c) P) : pc (f_Er_readCloser γ c) P := by
  refine clo_top hs ?_
  rw [h]
  unfold f_Er_readCloser_b22 f_Er_readCloser_b47 f_Er_readCloser_b59 f_Er_readCloser_b77 f_Er_readCloser_b116
  rw [if_pos (show (43 : Int) ≠ 0 by decide), if_pos (show (43 : Int) ≠ 32 by decide), if_pos (show (43 : Int) ≠ 33 by decide), if_pos (show (43 : Int) ≠ 4 by decide), if_neg (show ¬ (43 : Int) ≠ 43 by decide)]
  exact pc_i (fun _ => k) (fun q => pc_i (fun q2 => by exfalso; omega) (fun _ => k))
theorem tiS_o (γ : St) {j : Nat} {k : Int} (h : j ≠ 50 ∧ j ≠ 51 ∨ k ≠ γ 6 8 - 1) (h6 : j ≠ 6 ∨ k ≠ 9) : tiS γ j k = γ j k := by
  show (if _ then _ else _) = _
  rw [if_neg (by omega), if_neg (by omega), if_neg (by omega)]
theorem clo_cm {γ : St} (hl : γ 1 6 + 1 < γ 1 5) (hs : 0 < γ 6 8) (h : topK γ = 43) : pc (f_Er_readCloser γ 8) (fun z => z = (1, nxS (gbS (tiS γ) 43))) := by
  refine clo_43 hs h (Or.inl rfl) ?_
  unfold f_Er_readCloser_b133
  refine pc_b takeIn_pc (fun r γ' e => ?_)
  cases e
  rw [if_neg (show ¬ (8 : Int) ≠ 8 by decide)]
  refine pc_b (goOn_pc (by rw [tiS_o γ (by omega) (by omega), tiS_o γ (by omega) (by omega)]; exact hl)) (fun r γ' e => ?_)
  cases e
  exact pc_s rfl
theorem clo_cl {γ : St} (h7 : γ 1 7 = 0) (hl : γ 1 6 + 1 < γ 1 5) (hs : 0 < γ 6 8) (h : topK γ = 43) : pc (f_Er_readCloser γ 5) (fun z => tiS γ 51 (γ 6 8 - 1) < 200 ∧ z = (1, nxS (ccS (tiS γ))) ∨ 200 ≤ tiS γ 51 (γ 6 8 - 1) ∧ z = (0, flS (nxS (ccS (tiS γ))) 3)) := by
  refine clo_43 hs h (Or.inr rfl) ?_
  unfold f_Er_readCloser_b133
  refine pc_b takeIn_pc (fun r γ' e => ?_)
  cases e
  rw [if_pos (show (5 : Int) ≠ 8 by decide)]
  have o8 : tiS γ 6 8 = γ 6 8 := tiS_o γ (by omega) (by omega)
  have k := closeC_pc (γ := tiS γ) (by rw [tiS_o γ (by omega) (by omega)]; exact h7) (by rw [tiS_o γ (by omega) (by omega), tiS_o γ (by omega) (by omega)]; exact hl)
  rw [o8] at k
  exact pc_b k (fun r γ' e => pc_s e)
/-- a closer stands here -/
theorem rop_clo {γ : St} {P : Int × St → Prop} (h0 : γ 6 11 = 0 ∨ 1 ≤ γ 6 8) (c27 : γ 14 (γ 1 6) ≠ 27) (hr : rankK (γ 14 (γ 1 6)) ≤ 0 ∨ rankK (γ 14 (γ 1 6)) = 8 ∨ γ 14 (γ 1 6) = 34) (ht : γ 6 8 ≤ 0 ∨ rankK (topK γ) < 1) (h : pc (f_Er_readCloser γ (γ 14 (γ 1 6))) P) (hP : ∀ y, P y → y.1 = 0 ∨ y.1 = 1) : pc (f_Er_readOperator γ) P := by
  refine rop_pc h0 ?_
  generalize γ 14 (γ 1 6) = c at *
  have b75 : pc (f_Er_readOperator_b75 γ c) P := by
    unfold f_Er_readOperator_b75
    refine pc_b (P := fun z => z = (1, γ)) (fun y e => reduce_n ht e) (fun r γ' e => ?_)
    cases e
    rw [if_neg (show ¬ (1 : Int) = 0 by decide)]
    refine pc_b h (fun r γ' e => ?_)
    have e01 := hP _ e
    refine pc_i (fun q => ?_) (fun q => ?_)
    · rw [← q]; exact pc_s e
    · have q1 : r = 1 := by
        rcases e01 with k | k
        · exact absurd k q
        · exact k
      rw [← q1]; exact pc_s e
  unfold f_Er_readOperator_b27 f_Er_readOperator_b43
  rw [if_pos c27]
  refine pc_b rank_pc (fun r γ' e => ?_)
  cases e
  exact pc_i (fun _ => b75) (fun q1 => pc_i (fun _ => b75) (fun q2 => pc_i (fun _ => b75) (fun q3 => by exfalso; omega)))
theorem pq_clo {α : Type} {m : Option α} {Q : Int × St → α → Prop} {N d i : Int} {z : Bool} {f : Nat} {γ δ : St} {P : Int × St → Prop} (h : XpR N d i γ δ) (h12 : γ 6 12 = 0) (nx : NxT z 0 (γ 14 (γ 1 6))) (hs : 0 < γ 6 8) (ht : rankK (topK γ) < 1) (hf : z = true → pq (some (0, flS γ 1)) m Q) (hc : z = false → pc (f_Er_readCloser γ (γ 14 (γ 1 6))) P) (hP : ∀ y, P y → y.1 = 0 ∨ y.1 = 1) (hg : z = false → ∀ n r γ', P (r, γ') → pq (f_Er_readRightSide_L57 n γ' r (i + 1)) m Q) : pq (Go z f γ i) m Q := by
  cases z with
  | true =>
    show pq (Dm γ) m Q
    unfold Dm
    refine pq_bl (P := fun z => z = (1, γ)) (fun y e => reduce_n (Or.inr ht) e) (fun r γ' e => ?_)
    cases e
    rw [if_neg (show ¬ (1 : Int) = 0 by decide)]
    refine pq_bl (fail_pc h.1.1.2) (fun r γ' e => ?_)
    cases e
    exact hf rfl
  | false =>
    show pq (f_Er_readRightSide_L57 f γ 1 i) m Q
    cases f with
    | zero => exact pq_nl
    | succ n =>
      rw [lp_op n γ i h.lp h12]
      refine pq_bl (rop_clo h.2.2.2.2.2.2 ((nx.2 rfl).1 (by omega)) ((nx.2 rfl).2 (by omega)) (Or.inr ht) (hc rfl) hP) (fun r γ' e => pq_cl (fun _ => hg rfl n r γ' e))
