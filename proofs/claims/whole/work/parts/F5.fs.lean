/-! equality: what the class's calls leave as it is -/
def KS (γ γ' : St) : Prop := ∀ j k, (j = 0 → k ≠ 13 ∧ k ≠ 14) → (j = 10 → k ≠ 12) → j ≠ 12 → j ≠ 73 → j ≠ 74 → j ≠ 76 → j ≠ 77 → j ≠ 79 → j ≠ 81 → j ≠ 82 → j ≠ 87 → γ' j k = γ j k
theorem KS.rf {γ : St} : KS γ γ := fun _ _ _ _ _ _ _ _ _ _ _ _ _ => rfl
theorem ks_input {γ : St} {a0 a1 : Int} : pc (f_S_input γ a0 a1) (fun z => KS γ z.2) := by
  unfold f_S_input f_S_input_b27
  have b : pc (f_S_input_b78 γ a0 a1) (fun z => KS γ z.2) := by
    unfold f_S_input_b78
    refine pc_c (fun _ => pc_a (pc_c (fun _ => pc_a (pc_s (fun j k q1 q2 q3 q4 q5 q6 q7 q8 q9 q10 q11 => ?_)))))
    show setA γ 12 a0 a1 j k = _
    rw [stA, if_neg (by omega)]
  exact pc_i (fun _ => pc_n) (fun _ => pc_i (fun _ => pc_n) (fun _ => pc_c (fun _ => pc_i (fun _ => pc_c (fun _ => pc_c (fun _ => pc_c (fun _ => pc_i (fun _ => b) (fun _ => pc_i (fun _ => b) (fun _ => pc_i (fun _ => b) (fun _ => pc_n))))))) (fun _ => pc_n))))
theorem ks_tick {c : Int} {γ : St} {a0 : Int} (h : ClsI c γ) : pc (f_S_tick γ a0) (fun z => KS γ z.2) := by
  have ⟨b1, b2, b3, b4, b5, b6⟩ := h
  unfold f_S_tick f_S_tick_b12
  refine pc_i (fun _ => pc_n) (fun q => pc_i (fun q1 => pc_i (fun q2 => ?_) (fun _ => pc_n)) (fun _ => pc_n))
  rcases b6 with b6 | b6
  · exfalso; omega
  · refine pc_b (w_run b6.2.1 (by omega)).pc (fun r γ1 y => pc_c (fun _ => pc_a (pc_s (fun j k q1 q2 q3 q4 q5 q6 q7 q8 q9 q10 q11 => ?_))))
    have y : FrV γ γ1 := y
    show setA γ1 0 13 _ j k = _
    rw [stA, if_neg (by omega)]
    exact y j k (by omega) (by omega) (by omega) (by omega)
theorem ks_causes {c : Int} {γ : St} {a0 a1 : Int} (h : ClsI c γ) (hc : c < 512) : pc (f_S_causes γ a0 a1) (fun z => KS γ z.2) := by
  have iv := isV_eq (k := a0) h
  have iw := isV_eq (k := a1) h
  unfold f_S_causes f_S_causes_b16
  rw [bndN_eq iv.1]
  refine pc_i (fun _ => pc_n) (fun q => ?_)
  rw [bndN_eq iw.1]
  refine pc_i (fun q2 => ?_) (fun _ => pc_n)
  have v := isV_1 h q
  have w := isV_1 h q2
  have m5 := v.1.2.2.2.2
  have p5 := v.1.2.1.2.2.2.2.1
  have p3 := v.1.2.1.2.2.1
  refine pc_b (w_reaches v.1.2.1 v.1.2.2.1 (by omega) (by omega) (by omega)).pc (fun r γ1 y => pc_s (fun j k q1 q2 q3 q4 q5 q6 q7 q8 q9 q10 q11 => ?_))
  have y1 : ∀ j k, j ≠ 73 → j ≠ 74 → (j ≠ 10 ∨ k ≠ 12) → γ1 j k = γ j k := y.1
  exact y1 j k (by omega) (by omega) (by omega)
theorem ks_restart {γ : St} : pc (f_S_restart γ) (fun z => KS γ z.2) := by
  unfold f_S_restart f_Pg_clear
  refine pc_i (fun _ => pc_a ?_) (fun _ => pc_n)
  refine pc_b (P := fun z => z.2 = flA γ 81 0 (γ 8 11) 0) (pc_c (fun _ => pc_a (pc_s rfl))) (fun r γ1 y => pc_a (pc_s (fun j k q1 q2 q3 q4 q5 q6 q7 q8 q9 q10 q11 => ?_)))
  have y : γ1 = flA γ 81 0 (γ 8 11) 0 := y
  show setA γ1 0 13 0 j k = _
  rw [stA, if_neg (by omega), y, flA_at, if_neg (by omega)]
theorem ks_keep {γ : St} : pc (f_S_keep γ) (fun z => KS γ z.2) := by
  unfold f_S_keep f_S_keep_b14 f_Pg_store
  refine pc_i (fun _ => pc_n) (fun _ => pc_i (fun _ => ?_) (fun _ => pc_n))
  refine pc_b (P := fun z => ∀ j k, j ≠ 82 → j ≠ 77 → z.2 j k = γ j k) (pc_c (fun _ => pc_a (pc_c (fun _ => pc_a (pc_s (fun j k q1 q2 => ?_)))))) (fun r γ1 y => pc_a (pc_s (fun j k q1 q2 q3 q4 q5 q6 q7 q8 q9 q10 q11 => ?_)))
  · show cpA (cpA γ 81 82 _) 76 77 _ j k = _
    rw [cp_o q2, cp_o q1]
  · have y : ∀ j k, j ≠ 82 → j ≠ 77 → γ1 j k = γ j k := y
    show setA γ1 0 14 _ j k = _
    rw [stA, if_neg (by omega)]
    exact y j k (by omega) (by omega)
theorem ks_back {γ : St} : pc (f_S_back γ) (fun z => KS γ z.2) := by
  unfold f_S_back f_Pg_recall
  refine pc_i (fun _ => pc_a ?_) (fun _ => pc_n)
  refine pc_b (P := fun z => ∀ j k, j ≠ 81 → j ≠ 76 → z.2 j k = γ j k) (pc_c (fun _ => pc_a (pc_c (fun _ => pc_a (pc_s (fun j k q1 q2 => ?_)))))) (fun r γ1 y => pc_a (pc_s (fun j k q1 q2 q3 q4 q5 q6 q7 q8 q9 q10 q11 => ?_)))
  · show cpA (cpA γ 82 81 _) 77 76 _ j k = _
    rw [cp_o q2, cp_o q1]
  · have y : ∀ j k, j ≠ 81 → j ≠ 76 → γ1 j k = γ j k := y
    show setA γ1 0 13 _ j k = _
    rw [stA, if_neg (by omega)]
    exact y j k (by omega) (by omega)
/-- the law's helpers -/
theorem hcl_pc {f : Option (Int × St)} {g : Option (Nat × St)} {ke : Int → St → Option (Int × St × Int)} {he : Nat → Option (Int × St × Int)} {P : Int × St × Int → Prop} {R : Int × St → Prop} (h : pc f R) (h1 : ∀ r γ', R (r, γ') → pc (ke r γ') P) (h2 : ∀ e, pc (he e) P) : pc (hcl f g ke he) P := by
  intro y e
  unfold hcl at e
  cases f with
  | some z => exact h1 z.1 z.2 (h z rfl) y e
  | none =>
    cases g with
    | some z => exact h2 z.1 y e
    | none => cases e
theorem e2_pc {γ : St} {w : Int} {a b : Nat} {P : Int × St × Int → Prop} (h : ∀ r, P (r, γ, w)) : ∀ x : Nat, pc (if x = a then some ((1 : Int), γ, w) else if x = b then some (2, γ, w) else none) P := fun _ => pc_i (fun _ => pc_s (h 1)) (fun _ => pc_i (fun _ => pc_s (h 2)) (fun _ => pc_n))
theorem e1_pc {γ : St} {w : Int} {a : Nat} {P : Int × St × Int → Prop} (h : ∀ r, P (r, γ, w)) : ∀ x : Nat, pc (if x = a then some ((1 : Int), γ, w) else none) P := fun _ => pc_i (fun _ => pc_s (h 1)) (fun _ => pc_n)
section KL
variable {c : Int} {γ : St} {w a0 a1 : Int}
theorem kl_input : pc (e_L_input γ w a0 a1) (fun z => KS γ z.2.1) := hcl_pc ks_input (fun r γ' q => pc_s q) (e2_pc (fun _ => KS.rf))
theorem kl_tick (h : ClsI c γ) : pc (e_L_tick γ w a0) (fun z => KS γ z.2.1) := hcl_pc (ks_tick h) (fun r γ' q => pc_s q) (e2_pc (fun _ => KS.rf))
theorem kl_value (h : ClsI c γ) (hc : c < 512) : pc (e_L_value γ w a0) (fun z => z.2.1 = γ) := by
  refine hcl_pc (R := fun z => z.2 = γ) ?_ (fun r γ' q => pc_s q) (e2_pc (fun _ => rfl))
  rcases k_value (a0 := a0) h hc with k | k
  · exact pc_m k.pc (fun z q => q.2.1)
  · rw [k.1]; exact pc_n
theorem kl_about (h : ClsI c γ) (hc : c < 512) : pc (e_L_about γ w a0 a1) (fun z => z.2.1 = γ) := by
  refine hcl_pc (R := fun z => z.2 = γ) ?_ (fun r γ' q => pc_s q) (e2_pc (fun _ => rfl))
  rcases k_about (a0 := a0) (a1 := a1) h hc with k | k
  · exact pc_m k.pc (fun z q => q.2)
  · rw [k.1]; exact pc_n
theorem kl_causes (h : ClsI c γ) (hc : c < 512) : pc (e_L_causes γ w a0 a1) (fun z => KS γ z.2.1) := hcl_pc (ks_causes h hc) (fun r γ' q => pc_i (fun _ => pc_s q) (fun _ => pc_s q)) (e1_pc (fun _ => KS.rf))
theorem kl_restart : pc (e_L_restart γ w) (fun z => KS γ z.2.1) := hcl_pc ks_restart (fun r γ' q => pc_s q) (e1_pc (fun _ => KS.rf))
theorem kl_keep : pc (e_L_keep γ w) (fun z => KS γ z.2.1) := hcl_pc ks_keep (fun r γ' q => pc_s q) (e1_pc (fun _ => KS.rf))
theorem kl_back : pc (e_L_back γ w) (fun z => KS γ z.2.1) := hcl_pc ks_back (fun r γ' q => pc_s q) (e1_pc (fun _ => KS.rf))
end KL
