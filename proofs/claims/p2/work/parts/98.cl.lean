/-! the class's nodes: a node is closed -/
/-- every part of the node lies in one of its equations -/
theorem NI.part {γ : St} (h : NI γ) (h30 : γ 29 (γ 3 9) < γ 4 10) : ∀ i, γ 43 (γ 29 (γ 3 9)) ≤ i → i < γ 4 4 → ∃ e, γ 29 (γ 3 9) ≤ e ∧ e < γ 4 10 ∧ γ 43 e ≤ i ∧ i < γ 44 e := by
  have ⟨hT, hV, hC, hZ, hU⟩ := h
  have ⟨c1, c2, c3, c4, c5, c6⟩ := hC
  have u := hU.2.2.1
  have co : ∀ m : Nat, γ 29 (γ 3 9) + m < γ 4 10 → ∀ i, γ 43 (γ 29 (γ 3 9)) ≤ i → i < γ 44 (γ 29 (γ 3 9) + m) → ∃ e, γ 29 (γ 3 9) ≤ e ∧ e < γ 4 10 ∧ γ 43 e ≤ i ∧ i < γ 44 e := by
    intro m
    induction m with
    | zero => intro hm i h1 h2; exact ⟨γ 29 (γ 3 9), by omega, by omega, h1, by rw [show γ 29 (γ 3 9) = γ 29 (γ 3 9) + ((0 : Nat) : Int) by omega]; exact h2⟩
    | succ m ih =>
      intro hm i h1 h2
      by_cases c : i < γ 44 (γ 29 (γ 3 9) + m)
      · exact ih (by omega) i h1 c
      · have q := c5 (γ 29 (γ 3 9) + m) (by omega) (by omega)
        rw [show γ 29 (γ 3 9) + ((m + 1 : Nat) : Int) = γ 29 (γ 3 9) + m + 1 by omega] at h2
        exact ⟨γ 29 (γ 3 9) + m + 1, by omega, by omega, by omega, h2⟩
  intro i h1 h2
  refine co (γ 4 10 - 1 - γ 29 (γ 3 9)).toNat (by omega) i h1 ?_
  rw [show γ 29 (γ 3 9) + (((γ 4 10 - 1 - γ 29 (γ 3 9)).toNat : Nat) : Int) = γ 4 10 - 1 by omega, c6.1 (by omega)]
  exact h2
theorem NI.call {γ : St} (h : NI γ) (h30 : γ 29 (γ 3 9) < γ 4 10) {i : Int} (h1 : γ 43 (γ 29 (γ 3 9)) ≤ i) (h2 : i < γ 4 4) (hk : γ 38 i = 43) : 0 ≤ γ 39 i ∧ γ 39 i < γ 3 9 ∧ SzI γ (γ 39 i) := by
  obtain ⟨e, q1, q2, q3, q4⟩ := h.part h30 i h1 h2
  have p := ((h.2.2.2.2.2.2.2.2 e q1 q2).2.2.2.2.2 i q3 q4).2.1 hk
  exact ⟨p.1, p.2, (h.2.2.2.1 (γ 39 i) p.1 p.2).1.2.2.2.2.2⟩
/-- the loop over the code -/
theorem w_close_L60 {γ γ1 : St} {Q : Int × St → Prop} (h : NI γ) (h30 : γ 29 (γ 3 9) < γ 4 10) (f : ∀ j k, j ≠ 30 → γ1 j k = γ j k) (hQ : ∀ a v, (0 ≤ a ∧ a ≤ 1000000 ∧ (a < 1000000 → a = sm (cpF γ) (γ 43 (γ 29 (γ 3 9))) (γ 4 4) + (γ 4 10 - γ 29 (γ 3 9)))) → (0 ≤ v ∧ v ≤ 1000000 ∧ (v < 1000000 → v = γ 28 (γ 3 9) + sm (cvF γ) (γ 43 (γ 29 (γ 3 9))) (γ 4 4))) → wp (f_Nd_close_b130 γ1 (γ 3 9) a v) Q) : ∀ (n : Nat) (a v i : Int), γ 43 (γ 29 (γ 3 9)) ≤ i → i ≤ γ 4 4 → (0 ≤ a ∧ a ≤ 1000000 ∧ (a < 1000000 → a = sm (cpF γ) (γ 43 (γ 29 (γ 3 9))) i + (γ 4 4 - i) + (γ 4 10 - γ 29 (γ 3 9)))) → (0 ≤ v ∧ v ≤ 1000000 ∧ (v < 1000000 → v = γ 28 (γ 3 9) + sm (cvF γ) (γ 43 (γ 29 (γ 3 9))) i)) → γ 4 4 - i < n → wp (f_Nd_close_L60 f_Nd_close_b130 n γ1 (γ 3 9) a v i) Q := by
  have ⟨v1, v2, v3, v4, v5⟩ := h.2.1
  have c1 := h.2.2.1.1
  have t1 := h.1.1.2.1
  have t2 := h.1.2.1
  have u := h.2.2.2.2.2.2.1
  have ev := h.2.2.2.2.2.2.2.2 (γ 29 (γ 3 9)) (by omega) h30
  have ev1 := ev.1
  have g4 := f 4 4 (by omega)
  intro n
  induction n with
  | zero => intro a v i h1 h2 h3 h4 h5; exfalso; omega
  | succ n ih =>
    intro a v i h1 h2 h3 h4 h5
    unfold f_Nd_close_L60
    rw [g4]
    refine wp_ite (fun c => ?_) (fun c => ?_)
    · have ei : i = γ 4 4 := by omega
      subst ei
      refine hQ a v ⟨h3.1, h3.2.1, fun q => ?_⟩ h4
      have := h3.2.2 q
      omega
    · have s1 := sm_succ (f := cpF γ) h1
      have s2 := sm_succ (f := cvF γ) h1
      rw [f 38 i (by omega), f 39 i (by omega)]
      refine wp_chk (by omega) (wp_ite (fun c2 => ?_) (fun c2 => ?_))
      · have y1 : cpF γ i = 1 := by unfold cpF; rw [if_neg c2]; omega
        have y2 : cvF γ i = 0 := by unfold cvF; rw [if_neg c2]
        unfold f_Nd_close_b124
        refine wp_chk (by omega) (ih a v (i + 1) (by omega) (by omega) ⟨h3.1, h3.2.1, fun q => ?_⟩ ⟨h4.1, h4.2.1, fun q => ?_⟩ (by omega))
        · have := h3.2.2 q; omega
        · have := h4.2.2 q; omega
      · have c2 : γ 38 i = 43 := by omega
        have ⟨k1, k2, k3⟩ := h.call h30 h1 (by omega) c2
        have k31 := k3.1
        have k32 := k3.2
        have y1 : cpF γ i = 1 + γ 31 (γ 39 i) := by unfold cpF; rw [if_pos c2]
        have y2 : cvF γ i = γ 32 (γ 39 i) := by unfold cvF; rw [if_pos c2]
        refine wp_chk (by omega) (wp_sub ?_)
        rw [f 31 _ (by omega), f 32 _ (by omega)]
        refine wp_chk (by omega) (wp_chk (by omega) (wp_sub (wp_chk (by omega) (wp_chk (by omega) (wp_sub ?_)))))
        unfold f_Nd_close_b124
        refine wp_chk (by omega) (ih _ _ (i + 1) (by omega) (by omega) ⟨by omega, by omega, fun q => ?_⟩ ⟨by omega, by omega, fun q => ?_⟩ (by omega))
        · have := h3.2.2 (by omega); omega
        · have := h4.2.2 (by omega); omega
/-- the closed node's cells -/
def clsS (γ : St) (a v : Int) : St := setA (setA (setA (setA γ 30 (γ 3 9) (γ 4 10 - γ 29 (γ 3 9))) 31 (γ 3 9) a) 32 (γ 3 9) v) 3 9 (γ 3 9 + 1)
theorem clsS_v (γ : St) (a v : Int) (j : Nat) (k : Int) : clsS γ a v j k = if j = 3 ∧ k = 9 then γ 3 9 + 1 else if j = 32 ∧ k = γ 3 9 then v else if j = 31 ∧ k = γ 3 9 then a else if j = 30 ∧ k = γ 3 9 then γ 4 10 - γ 29 (γ 3 9) else γ j k := by simp [clsS, stA]
def SzA (γ : St) (a v : Int) : Prop := (0 ≤ a ∧ a ≤ 1000000 ∧ (a < 1000000 → a = sm (cpF γ) (γ 43 (γ 29 (γ 3 9))) (γ 4 4) + (γ 4 10 - γ 29 (γ 3 9)))) ∧ (0 ≤ v ∧ v ≤ 1000000 ∧ (v < 1000000 → v = γ 28 (γ 3 9) + sm (cvF γ) (γ 43 (γ 29 (γ 3 9))) (γ 4 4)))
theorem w_Nd_close {γ : St} (h : NI γ) (h30 : γ 29 (γ 3 9) < γ 4 10) : wp (f_Nd_close γ) (fun z => ∃ a v, SzA γ a v ∧ z.2 = clsS γ a v) := by
  have ⟨v1, v2, v3, v4, v5⟩ := h.2.1
  have c1 := h.2.2.1.1
  have c2 := h.2.2.1.2.1
  have t1 := h.1.1.2.1
  have t2 := h.1.2.1
  have u := h.2.2.2.2.2.2.1
  have ev := h.2.2.2.2.2.2.2.2 (γ 29 (γ 3 9)) (by omega) h30
  have ev1 := ev.1
  have := FU_v
  unfold f_Nd_close
  refine wp_sub (wp_chk (by omega) (wp_chk (by omega) (wp_chk (by omega) (wp_sub ?_))))
  have f : ∀ j k, j ≠ 30 → setA γ 30 (γ 3 9) (γ 4 10 - γ 29 (γ 3 9)) j k = γ j k := fun j k q => by rw [stA, if_neg (by omega)]
  have f30 : setA γ 30 (γ 3 9) (γ 4 10 - γ 29 (γ 3 9)) 30 (γ 3 9) = γ 4 10 - γ 29 (γ 3 9) := by rw [stA, if_pos ⟨rfl, rfl⟩]
  have hc : ∀ a v, clsS γ a v = setA (setA (setA (setA γ 30 (γ 3 9) (γ 4 10 - γ 29 (γ 3 9))) 31 (γ 3 9) a) 32 (γ 3 9) v) 3 9 (γ 3 9 + 1) := fun _ _ => rfl
  generalize setA γ 30 (γ 3 9) (γ 4 10 - γ 29 (γ 3 9)) = γ1 at *
  rw [f 29 _ (by omega), f 43 _ (by omega), f 4 4 (by omega), f 28 _ (by omega), f30]
  refine wp_chk (by omega) (wp_chk (by omega) (wp_sub (wp_chk (by omega) (wp_chk (by omega) (wp_chk (by omega) (wp_sub (wp_chk (by omega) (wp_sub ?_))))))))
  refine w_close_L60 h h30 f (fun a v ha hv => ?_) FU _ _ _ (by omega) (by omega) ⟨by omega, by omega, fun _ => ?_⟩ ⟨by omega, by omega, fun _ => ?_⟩ (by omega)
  · unfold f_Nd_close_b130
    refine wp_chk (by omega) (wp_sub (wp_chk (by omega) (wp_sub (wp_chk (by simp [stA]; rw [f 3 9 (by omega)]; omega) (wp_sub (wp_some ⟨a, v, ⟨ha, hv⟩, ?_⟩))))))
    rw [hc]
    simp [stA]
    rw [f 3 9 (by omega)]
  · rw [sm_nil (Int.le_refl _)]; omega
  · rw [sm_nil (Int.le_refl _)]; omega
set_option maxHeartbeats 2000000 in
theorem NI.cls {γ γ' : St} {a v : Int} (h : NI γ) (h30 : γ 29 (γ 3 9) < γ 4 10) (hD : ∀ e, γ 29 (γ 3 9) ≤ e → e < γ 4 10 → EqD γ (γ 3 9) e) (hS : SzA γ a v) (s0 : ∀ j k, γ' j k = if j = 23 ∧ k = γ 24 (γ 3 9) then γ 3 9 + 1 else if j = 3 ∧ k = 9 then γ 3 9 + 1 else if j = 32 ∧ k = γ 3 9 then v else if j = 31 ∧ k = γ 3 9 then a else if j = 30 ∧ k = γ 3 9 then γ 4 10 - γ 29 (γ 3 9) else γ j k) : TopI γ' := by
  have ⟨hT, hV, hC, hZ, hU⟩ := h
  have ⟨v1, v2, v3, v4, v5⟩ := hV
  have ⟨a1, a2, a3, a4, a5⟩ := hU
  have ⟨c1, c2, c3, c4, c5, c6⟩ := hC
  have f : ∀ j k, j ≠ 23 → (j ≠ 3 ∨ k ≠ 9) → (j ≠ 30 ∧ j ≠ 31 ∧ j ≠ 32 ∨ k ≠ γ 3 9) → γ' j k = γ j k := fun j k q1 q2 q3 => by rw [s0]; repeat rw [if_neg (by omega)]
  have b9 : γ' 3 9 = γ 3 9 + 1 := by rw [s0]; simp
  have b15 : γ' 3 15 = γ 3 15 := f 3 15 (by omega) (by omega) (by omega)
  have b30 : γ' 30 (γ 3 9) = γ 4 10 - γ 29 (γ 3 9) := by rw [s0]; simp
  have b31 : γ' 31 (γ 3 9) = a := by rw [s0]; simp
  have b32 : γ' 32 (γ 3 9) = v := by rw [s0]; simp
  have b10 := f 4 10 (by omega) (by omega) (by omega)
  have b4 := f 4 4 (by omega) (by omega) (by omega)
  have b12 := f 4 12 (by omega) (by omega) (by omega)
  refine ⟨hT.ext (fun j k q => f j k (by omega) (by omega) (by omega)), by omega, by omega, hC.ext (fun j k q => f j k (by omega) (by omega) (by omega)) (Int.le_of_eq (f 1 6 (by omega) (by omega) (by omega)).symm), ?_, fun w q1 q2 => ?_⟩
  · intro n q1 q2
    rw [b9] at q2
    rw [b15, b10]
    by_cases q : n = γ 3 9
    · subst q
      have d : ∀ j, 24 ≤ j → j ≤ 29 → γ' j (γ 3 9) = γ j (γ 3 9) := fun j _ _ => f j _ (by omega) (by omega) (by omega)
      have d25 := d 25 (by omega) (by omega)
      have d26 := d 26 (by omega) (by omega)
      have d27 := d 27 (by omega) (by omega)
      have d28 := d 28 (by omega) (by omega)
      have d29 := d 29 (by omega) (by omega)
      refine ⟨⟨by omega, by omega, fun x r1 r2 => ?_, fun e r1 r2 => ⟨?_, ?_⟩, fun e r1 r2 => ?_, ?_⟩, by omega, by omega⟩
      · unfold VrI
        rw [d25, f 34 _ (by omega) (by omega) (by omega), f 35 _ (by omega) (by omega) (by omega)]
        exact (a4 x r1 (by omega)).1
      · exact (a5 e (by omega) (by omega)).ext (by omega) (by omega) (Int.le_refl _) (fun j k _ _ _ => f j k (by omega) (by omega) (by omega)) (fun j _ _ => f j e (by omega) (by omega) (by omega)) (fun k _ => f 47 k (by omega) (by omega) (by omega)) (by omega) (by omega)
      · exact (hD e (by omega) (by omega)).ext (fun j k _ => f j k (by omega) (by omega) (by omega)) (fun k _ _ => f 41 k (by omega) (by omega) (by omega))
      · rw [f 43 _ (by omega) (by omega) (by omega), f 44 _ (by omega) (by omega) (by omega)]
        exact c5 e (by omega) (by omega)
      · have g1 : γ' 43 (γ 29 (γ 3 9)) = γ 43 (γ 29 (γ 3 9)) := f 43 _ (by omega) (by omega) (by omega)
        have g2 : γ' 44 (γ 29 (γ 3 9) + (γ 4 10 - γ 29 (γ 3 9)) - 1) = γ 4 4 := by
          rw [f 44 _ (by omega) (by omega) (by omega), show γ 29 (γ 3 9) + (γ 4 10 - γ 29 (γ 3 9)) - 1 = γ 4 10 - 1 by omega]
          exact c6.1 (by omega)
        have cal : ∀ i, γ 43 (γ 29 (γ 3 9)) ≤ i → i < γ 4 4 → γ' 38 i = γ 38 i ∧ γ' 39 i = γ 39 i ∧ (γ 38 i = 43 → 0 ≤ γ 39 i ∧ γ 39 i < γ 3 9) := fun i r1 r2 => ⟨f 38 i (by omega) (by omega) (by omega), f 39 i (by omega) (by omega) (by omega), fun r3 => by
          have := h.call h30 r1 r2 r3
          exact ⟨this.1, this.2.1⟩⟩
        have s1 : sm (cpF γ') (γ 43 (γ 29 (γ 3 9))) (γ 4 4) = sm (cpF γ) (γ 43 (γ 29 (γ 3 9))) (γ 4 4) := sm_ext (fun i r1 r2 => by
          have ⟨k1, k2, k3⟩ := cal i r1 r2
          unfold cpF
          rw [k1, k2]
          by_cases q : γ 38 i = 43
          · rw [if_pos q, if_pos q, f 31 _ (by omega) (by omega) (by have := k3 q; omega)]
          · rw [if_neg q, if_neg q])
        have s2 : sm (cvF γ') (γ 43 (γ 29 (γ 3 9))) (γ 4 4) = sm (cvF γ) (γ 43 (γ 29 (γ 3 9))) (γ 4 4) := sm_ext (fun i r1 r2 => by
          have ⟨k1, k2, k3⟩ := cal i r1 r2
          unfold cvF
          rw [k1, k2]
          by_cases q : γ 38 i = 43
          · rw [if_pos q, if_pos q, f 32 _ (by omega) (by omega) (by have := k3 q; omega)]
          · rw [if_neg q, if_neg q])
        unfold SzI
        rw [b31, b32, d28, d29, b30, g1, g2, s1, s2]
        exact hS
    · have ⟨w, w2, w3⟩ := hZ n q1 (by omega)
      refine ⟨w.ext q1 (fun j k _ _ _ _ => f j k (by omega) (by omega) (by omega)) (fun j k _ _ => f j k (by omega) (by omega) (by omega)) (fun j k _ _ _ => f j k (by omega) (by omega) (by omega)) (fun k _ => f 41 k (by omega) (by omega) (by omega)) (fun j k _ _ _ => f j k (by omega) (by omega) (by omega)) (fun k _ => f 47 k (by omega) (by omega) (by omega)) (by omega) (by omega) (by omega), ?_⟩
      rw [f 25 n (by omega) (by omega) (by omega), f 28 n (by omega) (by omega) (by omega), f 29 n (by omega) (by omega) (by omega), f 30 n (by omega) (by omega) (by omega)]
      omega
  · rw [f 2 8 (by omega) (by omega) (by omega)] at q2
    have := v5 w q1 q2
    rw [b9, f 22 w (by omega) (by omega) (by omega)]
    by_cases q : w = γ 24 (γ 3 9)
    · have : γ' 23 w = γ 3 9 + 1 := by rw [s0, q]; simp
      omega
    · have : γ' 23 w = γ 23 w := by rw [s0]; repeat rw [if_neg (by omega)]
      omega
/-- a node is read -/
def BdP (γ : St) (z : Int × St) : Prop := FlP γ z ∨ z.1 = 1 ∧ TopI z.2 ∧ FrX γ z.2 ∧ z.2 1 7 = γ 1 7 ∧ z.2 3 9 = γ 3 9 + 1
theorem w_closeNode {γ : St} (h : NI γ) (h30 : γ 29 (γ 3 9) < γ 4 10) (hD : ∀ e, γ 29 (γ 3 9) ≤ e → e < γ 4 10 → EqD γ (γ 3 9) e) : wp (f_Nr_closeNode γ) (BdP γ) := by
  have ⟨v1, v2, v3, v4, v5⟩ := h.2.1
  have u := h.2.2.2.2.1
  have w0 := h.1.1.1.1
  unfold f_Nr_closeNode
  refine wp_bnd (w_Nd_close h h30) (fun r γ1 q => ?_)
  obtain ⟨a, v, hS, q⟩ := q
  have q : γ1 = clsS γ a v := q
  have s0 := clsS_v γ a v
  rw [← q] at s0
  have b9 : γ1 3 9 = γ 3 9 + 1 := by rw [s0]; simp
  have b24 : γ1 24 (γ 3 9) = γ 24 (γ 3 9) := by rw [s0]; simp
  rw [b9, show γ 3 9 + 1 - 1 = γ 3 9 by omega, b24]
  refine wp_chk (by omega) (wp_chk (by omega) (wp_chk (by omega) (wp_sub ?_)))
  have t0 : ∀ j k, setA γ1 23 (γ 24 (γ 3 9)) (γ 3 9 + 1) j k = if j = 23 ∧ k = γ 24 (γ 3 9) then γ 3 9 + 1 else if j = 3 ∧ k = 9 then γ 3 9 + 1 else if j = 32 ∧ k = γ 3 9 then v else if j = 31 ∧ k = γ 3 9 then a else if j = 30 ∧ k = γ 3 9 then γ 4 10 - γ 29 (γ 3 9) else γ j k := fun j k => by rw [stA, s0]
  have hTop := h.cls h30 hD hS t0
  generalize setA γ1 23 (γ 24 (γ 3 9)) (γ 3 9 + 1) = γ2 at *
  refine wp_bnd (w_Tk_step hTop.1) (fun r2 γ3 p => wp_some ?_)
  obtain ⟨p1, p2, p3, p4, -⟩ := p
  have p2 : FrC γ2 γ3 := p2
  have p3 : γ3 1 7 = γ2 1 7 := p3
  refine Or.inr ⟨rfl, hTop.fr p1 p2 p4, fun j k q => ?_, ?_, ?_⟩
  · show γ3 j k = γ j k
    rw [p2 j k (by omega), t0]; repeat rw [if_neg (by omega)]
  · show γ3 1 7 = γ 1 7
    rw [p3, t0]; simp
  · show γ3 3 9 = γ 3 9 + 1
    rw [p2 3 9 (by omega), t0]; simp
theorem w_body_b72 {γ : St} (h : NI γ) (h30 : γ 29 (γ 3 9) < γ 4 10) : wp (f_Nr_readBody_b72 γ 1) (BdP γ) := by
  unfold f_Nr_readBody_b72
  refine wp_ite (fun c => absurd c (by decide)) (fun _ => wp_bnd (w_check h) (fun r γ1 q => ?_))
  rcases q with q | q
  · exact wp_ite (fun _ => wp_some (Or.inl ⟨rfl, q.2.1, q.2.2⟩)) (fun c => absurd q.1 c)
  · obtain ⟨q0, q1, q2, q3⟩ := q
    have q1 : NI γ1 := q1
    have q2 : FrZ γ γ1 := q2
    have q3 : ∀ e, γ1 29 (γ1 3 9) ≤ e → e < γ1 4 10 → EqD γ1 (γ1 3 9) e := q3
    refine wp_ite (fun c => absurd (q0.symm.trans c) (by decide)) (fun _ => ?_)
    have e9 := q2 3 9 (by omega) (by omega) (by omega)
    refine wp_bnd (w_closeNode q1 (by rw [e9, q2 29 _ (by omega) (by omega) (by omega), q2 4 10 (by omega) (by omega) (by omega)]; exact h30) q3) (fun r2 γ2 p => ?_)
    rcases p with p | p
    · exact wp_ite (fun _ => wp_some (Or.inl ⟨rfl, p.2.1, q2.X.tr p.2.2⟩)) (fun c => absurd p.1 c)
    · obtain ⟨p0, p1, p2, p3, p4⟩ := p
      refine wp_ite (fun c => absurd (p0.symm.trans c) (by decide)) (fun _ => wp_some (Or.inr ⟨rfl, p1, q2.X.tr p2, ?_, ?_⟩))
      · exact p3.trans (q2 1 7 (by omega) (by omega) (by omega))
      · show γ2 3 9 = γ 3 9 + 1
        have p4 : γ2 3 9 = γ1 3 9 + 1 := p4
        omega
theorem body_L0 {n : Nat} {γ : St} {x : Int} (hn : 0 < n) : f_Nr_readBody_L34 f_Nr_readBody_b72 n γ 0 x = some (0, γ) := by
  cases n with
  | zero => exact absurd hn (by omega)
  | succ n =>
    unfold f_Nr_readBody_L34 f_Nr_readBody_b72
    rw [if_pos rfl, if_pos rfl]
theorem BdP.pre {γ γ' : St} {z : Int × St} (h : BdP γ' z) (hF : FrX γ γ') (h7 : γ' 1 7 = γ 1 7) (h9 : γ' 3 9 = γ 3 9) : BdP γ z := by
  rcases h with h | h
  · exact Or.inl ⟨h.1, h.2.1, hF.tr h.2.2⟩
  · exact Or.inr ⟨h.1, h.2.1, hF.tr h.2.2.1, h.2.2.2.1.trans h7, by have := h.2.2.2.2; omega⟩
theorem w_body_L34 : ∀ (n : Nat) (γ : St) (x : Int), NI γ → γ 29 (γ 3 9) < γ 4 10 → 0 ≤ x → x ≤ γ 1 5 → γ 1 5 - x < n → wp (f_Nr_readBody_L34 f_Nr_readBody_b72 n γ 1 x) (BdP γ) := by
  intro n
  induction n with
  | zero => intro γ x h h30 h1 h2 h3; exfalso; omega
  | succ n ih =>
    intro γ x h h30 h1 h2 h3
    have t1 := h.1.1.2.1
    have hE := w_body_b72 h h30
    unfold f_Nr_readBody_L34
    refine wp_ite (fun _ => hE) (fun _ => wp_ite (fun _ => hE) (fun c => wp_bnd (w_Tk_kindNow h.1) (fun r γ1 e => ?_)))
    obtain ⟨e, er⟩ := e
    have e : γ1 = γ := e
    subst e
    refine wp_ite (fun _ => hE) (fun c2 => wp_bnd (w_readEquation h) (fun r2 γ2 q => wp_chk (by omega) ?_))
    rcases q with q | q
    · have e0 : r2 = 0 := q.1
      rw [e0]
      exact wp_eq (body_L0 (by omega)) (Or.inl ⟨rfl, q.2.1, q.2.2⟩)
    · obtain ⟨q0, q1, q2, q3, q4, q5, q6, q7, q8⟩ := q
      have q0 : r2 = 1 := q0
      have q4 : γ2 1 7 = γ1 1 7 := q4
      have q5 : γ2 1 5 = γ1 1 5 := q5
      have q6 : γ2 3 9 = γ1 3 9 := q6
      have q7 : γ2 4 10 = γ1 4 10 + 1 := q7
      have q8 : γ2 29 (γ1 3 9) = γ1 29 (γ1 3 9) := q8
      rw [q0]
      exact wp_mono (ih γ2 (x + 1) q1 (by rw [q6, q8]; omega) (by omega) (by omega) (by omega)) (fun z hz => hz.pre q2 q4 q6)
theorem w_readBody {γ : St} (h : NI γ) (h29 : γ 29 (γ 3 9) = γ 4 10) : wp (f_Nr_readBody γ) (BdP γ) := by
  have := FU_v
  unfold f_Nr_readBody f_Nr_readBody_b30 f_Nr_readBody_b31
  refine wp_bnd (w_readVars h) (fun r γ1 p => ?_)
  have p : DrP γ (r, γ1) := p
  have pr : r = 0 ∧ γ1 1 7 ≠ 0 ∨ r = 1 ∧ γ1 1 7 = γ 1 7 := p.2.2
  refine wp_ite (fun c => wp_eq (body_L0 (by omega)) (Or.inl ⟨rfl, by show γ1 1 7 ≠ 0; omega, p.2.1.1⟩)) (fun c => ?_)
  refine wp_bnd (w_dexp p.1 (by omega)) (fun r2 γ2 q => ?_)
  have q : DrP γ (r2, γ2) := DrP.pre q p.2.1 (by show γ1 1 7 = γ 1 7; omega)
  have qr : r2 = 0 ∧ γ2 1 7 ≠ 0 ∨ r2 = 1 ∧ γ2 1 7 = γ 1 7 := q.2.2
  refine wp_ite (fun c => wp_eq (body_L0 (by omega)) (Or.inl ⟨rfl, by show γ2 1 7 ≠ 0; omega, q.2.1.1⟩)) (fun c => ?_)
  have f9 : γ2 3 9 = γ 3 9 := q.2.1.2.2.1 3 9 (by omega)
  have f10 : γ2 4 10 = γ 4 10 := q.2.1.2.2.1 4 10 (by omega)
  have f29 : γ2 29 (γ 3 9) = γ 29 (γ 3 9) := q.2.1.2.2.1 29 _ (by omega)
  refine wp_bnd (w_readEquation q.1) (fun r3 γ3 s => ?_)
  rcases s with s | s
  · have e0 : r3 = 0 := s.1
    exact wp_ite (fun _ => wp_eq (body_L0 (by omega)) (Or.inl ⟨rfl, s.2.1, q.2.1.1.tr s.2.2⟩)) (fun c => absurd e0 c)
  · obtain ⟨q0, q1, q2, q3, q4, q5, q6, q7, q8⟩ := s
    have q0 : r3 = 1 := q0
    have q1 : NI γ3 := q1
    have q4 : γ3 1 7 = γ2 1 7 := q4
    have q6 : γ3 3 9 = γ2 3 9 := q6
    have q7 : γ3 4 10 = γ2 4 10 + 1 := q7
    have q8 : γ3 29 (γ2 3 9) = γ2 29 (γ2 3 9) := q8
    have t1 := q1.1.1.2.1
    refine wp_ite (fun c => by omega) (fun _ => wp_mono (w_body_L34 FU γ3 0 q1 (by rw [q6, q8, f9, f29]; omega) (by omega) (by omega) (by omega)) (fun z hz => hz.pre (q.2.1.1.tr q2) (by omega) (by omega)))
