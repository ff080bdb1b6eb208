/-! equality: what the calls leave as it is -/
/-- the reference: all but read, feed, end leave the program and the tape -/
def KM (δ δ' : St) : Prop := ∀ j k, (j = 0 → k ≠ 2 ∧ k ≠ 72 ∧ k ≠ 82 ∧ k ≠ 83) → j ≠ 46 → j ≠ 47 → (j < 50 ∨ 58 < j) → δ' j k = δ j k
theorem KM.rf {δ : St} : KM δ δ := fun _ _ _ _ _ _ => rfl
theorem KM.tr {a b c : St} (h : KM a b) (g : KM b c) : KM a c := fun j k q1 q2 q3 q4 => (g j k q1 q2 q3 q4).trans (h j k q1 q2 q3 q4)
theorem KM.set {a b : St} (h : KM a b) {j : Nat} {i v : Int} (q : j = 0 ∧ (i = 2 ∨ i = 72 ∨ i = 82 ∨ i = 83) ∨ j = 46 ∨ j = 47 ∨ 50 ≤ j ∧ j ≤ 58) : KM a (setA b j i v) := fun j k q1 q2 q3 q4 => by rw [stA, if_neg (by omega)]; exact h j k q1 q2 q3 q4
theorem KM.fl {a b : St} (h : KM a b) {j : Nat} {lo hi v : Int} (q : j = 46 ∨ j = 47 ∨ 50 ≤ j ∧ j ≤ 58) : KM a (flA b j lo hi v) := fun j k q1 q2 q3 q4 => by rw [flA_at, if_neg (by omega)]; exact h j k q1 q2 q3 q4
theorem KM.cp {a b : St} (h : KM a b) {i j : Nat} {n : Int} (q : 50 ≤ j ∧ j ≤ 58) : KM a (cpA b i j n) := fun j k q1 q2 q3 q4 => by rw [cp_o (by omega)]; exact h j k q1 q2 q3 q4
theorem KM.s {a b : St} (h : KM a b) {z : Int × St} (e : z.2 = b) : KM a z.2 := by rw [e]; exact h
theorem km_rf {δ0 δ : St} {a b : Int} (h : KM δ0 δ) : pc (f_M_refuse δ a b) (fun z => KM δ0 z.2) := by
  unfold f_M_refuse
  exact pc_i (fun _ => pc_c (fun _ => pc_s h)) (fun _ => pc_a (pc_c (fun _ => pc_s (h.set (by omega)))))
theorem km_mv {δ0 δ : St} (h : KM δ0 δ) : pc (f_M_mainVariables δ) (fun z => KM δ0 z.2) := by
  unfold f_M_mainVariables
  exact pc_i (fun _ => pc_c (fun _ => pc_c (fun _ => pc_c (fun _ => pc_c (fun _ => pc_s h))))) (fun _ => pc_s h)
theorem km_fault {δ : St} {a0 : Int} : pc (f_M_fault δ a0) (fun z => KM δ z.2) := by
  unfold f_M_fault
  have h : KM δ (setA δ 0 2 0) := KM.rf.set (by omega)
  exact pc_a (pc_i (fun _ => pc_i (fun _ => pc_s h) (fun _ => pc_s h)) (fun _ => pc_s h))
theorem km_count {δ : St} {a0 : Int} : pc (f_M_count δ a0) (fun z => KM δ z.2) := by
  unfold f_M_count
  have h : KM δ (setA δ 0 2 0) := KM.rf.set (by omega)
  refine pc_a (pc_i (fun _ => pc_b (km_mv h) (fun r γ' q => pc_s q)) (fun _ => ?_))
  refine pc_i (fun _ => pc_i (fun _ => pc_c (fun _ => pc_s h)) (fun _ => pc_s h)) (fun _ => ?_)
  refine pc_i (fun _ => pc_i (fun _ => pc_c (fun _ => pc_s h)) (fun _ => pc_s h)) (fun _ => ?_)
  refine pc_i (fun _ => pc_i (fun _ => pc_s h) (fun _ => pc_s h)) (fun _ => ?_)
  refine pc_i (fun _ => pc_i (fun _ => pc_c (fun _ => pc_s h)) (fun _ => pc_s h)) (fun _ => ?_)
  refine pc_i (fun _ => pc_s h) (fun _ => ?_)
  refine pc_i (fun _ => pc_i (fun _ => pc_s h) (fun _ => pc_s h)) (fun _ => ?_)
  refine pc_i (fun _ => pc_s h) (fun _ => ?_)
  exact pc_i (fun _ => pc_i (fun _ => pc_s h) (fun _ => pc_s h)) (fun _ => pc_s h)
theorem km_value {δ : St} {a0 : Int} : pc (f_M_value δ a0) (fun z => KM δ z.2) := by
  unfold f_M_value
  have h : KM δ (setA δ 0 2 0) := KM.rf.set (by omega)
  have b44 : ∀ γ x y, KM δ γ → pc (f_M_value_b44 γ a0 x y) (fun z => KM δ z.2) := fun γ x y h => by
    unfold f_M_value_b44
    exact pc_b (km_rf h) (fun r γ' q => pc_i (fun _ => pc_c (fun _ => pc_i (fun _ => pc_s q) (fun _ => pc_c (fun _ => pc_s q)))) (fun _ => pc_s q))
  have b24 : ∀ γ x y, KM δ γ → pc (f_M_value_b24 γ a0 x y) (fun z => KM δ z.2) := fun γ x y h => by
    unfold f_M_value_b24
    exact pc_b (km_rf h) (fun r γ' q => pc_i (fun _ => pc_s q) (fun _ => pc_i (fun _ => b44 _ _ _ q) (fun _ => b44 _ _ _ q)))
  exact pc_a (pc_i (fun _ => b24 _ _ _ h) (fun _ => pc_b (km_mv h) (fun r γ' q => pc_i (fun _ => b24 _ _ _ q) (fun _ => b24 _ _ _ q))))
theorem km_about {δ : St} {a0 a1 : Int} : pc (f_M_about δ a0 a1) (fun z => KM δ z.2) := by
  unfold f_M_about
  have h : KM δ (setA δ 0 2 0) := KM.rf.set (by omega)
  have tr : ∀ γ x, KM δ γ → pc (f_M_truth γ x) (fun z => KM δ z.2) := fun γ x h => by
    unfold f_M_truth
    exact pc_i (fun _ => pc_s h) (fun _ => pc_s h)
  have b46 : ∀ γ x y, KM δ γ → pc (f_M_about_b46 γ a0 a1 x y) (fun z => KM δ z.2) := fun γ x y h => by
    unfold f_M_about_b46
    refine pc_b (km_rf h) (fun r γ' q => pc_i (fun _ => pc_c (fun _ => pc_c (fun _ => pc_a (pc_i (fun _ => ?_) (fun _ => pc_i (fun _ => ?_) (fun _ => pc_i (fun _ => ?_) (fun _ => ?_))))))) (fun _ => pc_s q))
    · exact pc_c (fun _ => pc_i (fun _ => pc_c (fun _ => pc_c (fun _ => pc_c (fun _ => pc_i (fun _ => pc_s q) (fun _ => pc_s q))))) (fun _ => pc_s q))
    · exact pc_c (fun _ => pc_b (tr _ _ q) (fun r γ' q => pc_s q))
    · exact pc_c (fun _ => pc_i (fun _ => pc_c (fun _ => pc_c (fun _ => pc_s q))) (fun _ => pc_s q))
    · exact pc_c (fun _ => pc_i (fun _ => pc_c (fun _ => pc_s q)) (fun _ => pc_s q))
  have b24 : ∀ γ x y, KM δ γ → pc (f_M_about_b24 γ a0 a1 x y) (fun z => KM δ z.2) := fun γ x y h => by
    unfold f_M_about_b24
    exact pc_b (km_rf h) (fun r γ' q => pc_i (fun _ => pc_s q) (fun _ => pc_i (fun _ => b46 _ _ _ q) (fun _ => pc_i (fun _ => b46 _ _ _ q) (fun _ => b46 _ _ _ q))))
  exact pc_a (pc_i (fun _ => b24 _ _ _ h) (fun _ => pc_b (km_mv h) (fun r γ' q => pc_i (fun _ => b24 _ _ _ q) (fun _ => b24 _ _ _ q))))
theorem km_input {δ : St} {a0 a1 : Int} : pc (f_M_input δ a0 a1) (fun z => KM δ z.2) := by
  unfold f_M_input
  have h : KM δ (setA δ 0 2 0) := KM.rf.set (by omega)
  have b90 : ∀ γ x y, KM δ γ → pc (f_M_input_b90 γ a0 a1 x y) (fun z => KM δ z.2) := fun γ x y h => by
    unfold f_M_input_b90
    exact pc_b (km_rf h) (fun r γ' q => pc_i (fun _ => pc_c (fun _ => pc_a (pc_c (fun _ => pc_a (pc_s (KM.set (show KM δ γ' from q) (by omega))))))) (fun _ => pc_s q))
  have b49 : ∀ γ x y, KM δ γ → pc (f_M_input_b49 γ a0 a1 x y) (fun z => KM δ z.2) := fun γ x y h => by
    unfold f_M_input_b49
    exact pc_b (km_rf h) (fun r γ' q => pc_i (fun _ => pc_s q) (fun _ => pc_c (fun _ => pc_c (fun _ => pc_c (fun _ => pc_i (fun _ => b90 _ _ _ q) (fun _ => pc_i (fun _ => b90 _ _ _ q) (fun _ => pc_i (fun _ => b90 _ _ _ q) (fun _ => b90 _ _ _ q))))))))
  have b23 : ∀ γ x y, KM δ γ → pc (f_M_input_b23 γ a0 a1 x y) (fun z => KM δ z.2) := fun γ x y h => by
    unfold f_M_input_b23
    exact pc_b (km_rf h) (fun r γ' q => pc_i (fun _ => pc_s q) (fun _ => pc_c (fun _ => pc_i (fun _ => b49 _ _ _ q) (fun _ => b49 _ _ _ q))))
  exact pc_a (pc_i (fun _ => b23 _ _ _ h) (fun _ => pc_i (fun _ => b23 _ _ _ h) (fun _ => b23 _ _ _ h)))
theorem km_restart {δ : St} : pc (f_M_restart δ) (fun z => KM δ z.2) := by
  unfold f_M_restart
  have h : KM δ (setA δ 0 2 0) := KM.rf.set (by omega)
  have b19 : ∀ γ x y, KM δ γ → pc (f_M_restart_b19 γ x y) (fun z => KM δ z.2) := fun γ x y h => by
    unfold f_M_restart_b19
    exact pc_b (km_rf h) (fun r γ' q => pc_i (fun _ => pc_a (pc_a (pc_a (pc_s (KM.fl (KM.set (show KM δ γ' from q) (by omega)) (by omega)))))) (fun _ => pc_s q))
  exact pc_a (pc_i (fun _ => b19 _ _ _ h) (fun _ => b19 _ _ _ h))
theorem km_keep {δ : St} : pc (f_M_keep δ) (fun z => KM δ z.2) := by
  unfold f_M_keep
  have h : KM δ (setA δ 0 2 0) := KM.rf.set (by omega)
  have b26 : ∀ γ x y, KM δ γ → pc (f_M_keep_b26 γ x y) (fun z => KM δ z.2) := fun γ x y h => by
    unfold f_M_keep_b26
    exact pc_b (km_rf h) (fun r γ' q => pc_i (fun _ => pc_a (pc_a (pc_c (fun _ => pc_a (pc_c (fun _ => pc_a (pc_c (fun _ => pc_a (pc_s (KM.cp (KM.cp (KM.cp (KM.set (KM.set (show KM δ γ' from q) (by omega)) (by omega)) (by omega)) (by omega)) (by omega)))))))))) ) (fun _ => pc_s q))
  exact pc_a (pc_i (fun _ => b26 _ _ _ h) (fun _ => pc_i (fun _ => b26 _ _ _ h) (fun _ => b26 _ _ _ h)))
theorem km_back {δ : St} : pc (f_M_back δ) (fun z => KM δ z.2) := by
  unfold f_M_back
  have h : KM δ (setA δ 0 2 0) := KM.rf.set (by omega)
  have b19 : ∀ γ x y, KM δ γ → pc (f_M_back_b19 γ x y) (fun z => KM δ z.2) := fun γ x y h => by
    unfold f_M_back_b19
    exact pc_b (km_rf h) (fun r γ' q => pc_i (fun _ => pc_a (pc_a (pc_c (fun _ => pc_a (pc_c (fun _ => pc_a (pc_c (fun _ => pc_a (pc_s (KM.cp (KM.cp (KM.cp (KM.set (show KM δ γ' from q) (by omega)) (by omega)) (by omega)) (by omega)))))))))) ) (fun _ => pc_s q))
  exact pc_a (pc_i (fun _ => b19 _ _ _ h) (fun _ => b19 _ _ _ h))
theorem km_causes {c : Int} {δ : St} {a0 a1 : Int} (h : MoI c δ) : pc (f_M_causes_1 δ a0 a1) (fun z => KM δ z.2) := by
  unfold f_M_causes_1
  have s : Sm δ (setA δ 0 2 0) := Sm.set
  have k : KM δ (setA δ 0 2 0) := KM.rf.set (by omega)
  refine pc_a ?_
  generalize setA δ 0 2 0 = δ1 at *
  have h' := h.sm s
  have bad : pc (f_M_causes_1_b31 δ1 a0 a1 1) (fun z => KM δ z.2) := by
    unfold f_M_causes_1_b31 f_M_causes_1_b36
    rw [bndN_eq rf_1, if_neg (by decide)]
    exact pc_s (k.set (by omega))
  refine pc_i (fun _ => bad) (fun q => pc_i (fun _ => bad) (fun q1 => ?_))
  rw [bndN_eq (mv_eq h')]
  refine pc_i (fun _ => bad) (fun q2 => ?_)
  rw [bndN_eq (mv_eq h')]
  refine pc_i (fun q3 => ?_) (fun _ => bad)
  have hs := h'.has (by omega) q3
  have n := hs.nd
  unfold f_M_causes_1_b36
  rw [bndN_eq rf_0, if_pos rfl]
  refine pc_i (fun _ => pc_s k) (fun _ => pc_b (w_caused hs.2.2.2 h'.2.2.2.2.1.1 ⟨by omega, by omega⟩).pc (fun r γ2 z => ?_))
  have z1 : ∀ j k, j ≠ 46 → j ≠ 47 → γ2 j k = δ1 j k := z.1
  have k2 : KM δ γ2 := k.tr (fun j k q1 q2 q3 q4 => z1 j k (by omega) (by omega))
  exact pc_i (fun _ => pc_s k2) (fun _ => pc_s k2)
theorem km_tick {c : Int} {δ : St} {a0 : Int} (h : MoI c δ) : pc (f_M_tick δ a0) (fun z => KM δ z.2) := by
  have := FU_v
  unfold f_M_tick
  have s : Sm δ (setA δ 0 2 0) := Sm.set
  have k : KM δ (setA δ 0 2 0) := KM.rf.set (by omega)
  refine pc_a ?_
  generalize setA δ 0 2 0 = δ1 at *
  have h' := h.sm s
  have ⟨i1, i2, i3, i4, i5, i6, i7, i8⟩ := h'
  have bad : pc (f_M_tick_b19 δ1 a0 1) (fun z => KM δ z.2) := by
    unfold f_M_tick_b19 f_M_tick_b24
    rw [bndN_eq rf_1, if_pos (by decide)]
    exact pc_s (k.set (by omega))
  refine pc_i (fun _ => bad) (fun q => pc_i (fun q0 => ?_) (fun _ => bad))
  unfold f_M_tick_b24
  rw [bndN_eq rf_0, if_neg (by decide)]
  unfold f_M_tick_b44
  refine pc_i (fun q2 => ?_) (fun _ => ?_)
  · rw [bndN_eq rf_0, if_pos rfl]
    have hs : HsI δ1 := by
      rcases i8 with r | r
      · exfalso; omega
      · exact r
    refine pc_m (m_tick_L54 h' hs q0 FU δ1 0 (by omega) (by omega) (fun _ _ _ _ => rfl) i5.2.2.1 (by omega) (by omega)).pc (fun z hz => k.tr (fun j k q1 q2 q3 q4 => hz.1 j k (by omega) (by omega)))
  · rw [bndN_eq rf_1, if_neg (by decide)]
    exact pc_s (k.set (by omega))
