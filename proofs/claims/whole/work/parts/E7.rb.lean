/-! equality: read begins -/
/-- the class, from the call on -/
def RdS (γ γ' : St) : Prop := (∀ (j : Nat) (k : Int), j = 0 ∧ k ≠ 10 ∧ k ≠ 12 ∧ k ≠ 13 ∧ k ≠ 14 ∨ 8 ≤ j ∧ j ≤ 13 ∨ 53 < j → γ' j k = γ j k) ∧ γ' 0 10 = 0 ∧ γ' 0 12 = -1 ∧ γ' 0 13 = 0 ∧ γ' 0 14 = 0
/-- the reference, from the call on -/
def RdM (δ δ' : St) : Prop := (∀ k, (k < 2 ∨ 42 < k ∧ k < 49 ∨ 54 < k ∧ k < 67 ∨ 67 < k ∧ k < 72 ∨ 72 < k ∧ k < 83 ∨ 83 < k) → δ' 0 k = δ 0 k) ∧ (∀ (j : Nat) (k : Int), j = 1 ∨ 28 < j → δ' j k = δ j k) ∧ (δ' 0 2 = 0 ∧ δ' 0 3 = 0 ∧ δ' 0 4 = 0 ∧ δ' 0 72 = 0 ∧ δ' 0 83 = 0) ∧ δ' 0 49 = -1
theorem pq_read {c : Int} {γ δ : St} (hC : ClsI c γ) (hc : c < 512) (hK : KwI γ) (e10 : γ 0 10 = δ 0 1) (eb : ∀ k, 0 ≤ k → k < δ 0 1 → δ 1 k = γ 13 k) (hm : MoI c δ) {Q : Int × St → Int × St → Prop} (bad : ∀ γ' δ', γ' 1 7 ≠ 0 → RdS γ γ' → MoI c δ' → RdM δ δ' → pq (f_S_read_b101 γ') (f_M_read_h δ' (γ' 1 7) (γ' 1 8)) Q) (fin : ∀ N γ' δ', PnR N γ' δ' → TopI γ' → RdS γ γ' → RsI c δ' → RdM δ δ' → pq (f_S_read_b101 γ') (f_M_read_b113 δ') Q) : pq (f_S_read γ) (f_M_read δ) Q := by
  have ⟨b1, b2, b3, b4, b5, b6⟩ := hC
  have ⟨h1, h2, h3, h4, h5, h6, h7, h8⟩ := hm
  unfold f_S_read f_M_read
  refine pq_ar (pq_ar (pq_ar (pq_ar (pq_ar (pq_ar (pq_ar (pq_ar (pq_ar (pq_cr (fun _ => (pq_ar (pq_ar (pq_ar (pq_ar (pq_ar (pq_ar (pq_ar (pq_ar (pq_ar (pq_ar (pq_ar ?_)))))))))))))))))))))
  generalize hg : setA _ 0 83 0 = δ1
  have s : ∀ j k, (j = 0 → k < 2 ∨ 5 < k ∧ k < 9 ∨ 9 < k ∧ k < 18 ∨ 19 < k ∧ k < 30 ∨ 31 < k ∧ k < 40 ∨ 40 < k ∧ k < 49 ∨ 54 < k ∧ k < 67 ∨ 67 < k ∧ k < 72 ∨ 72 < k ∧ k < 83 ∨ 83 < k) → (j = 16 → k ≠ 0) → δ1 j k = δ j k := fun j k q1 q2 => by
    rw [← hg]
    simp only [stA]
    (repeat rw [if_neg (by omega)])
  have v : ∀ k, (k = 2 ∨ k = 3 ∨ k = 4 ∨ k = 5 ∨ k = 9 ∨ k = 18 ∨ k = 19 ∨ k = 30 ∨ k = 31 ∨ k = 40 ∨ k = 50 ∨ k = 51 ∨ k = 52 ∨ k = 53 ∨ k = 54 ∨ k = 67 ∨ k = 72 ∨ k = 83) → δ1 0 k = 0 := fun k q => by
    rw [← hg]
    rcases q with q | q | q | q | q | q | q | q | q | q | q | q | q | q | q | q | q | q <;> subst q <;> simp [stA]
  have v49 : δ1 0 49 = -1 := by rw [← hg]; simp [stA]
  have v16 : δ1 16 0 = 0 := by rw [← hg]; simp [stA]
  have e1 := s 0 1 (by omega) (by omega)
  have e5 := v 5 (by omega)
  have e18 := v 18 (by omega)
  have e19 := v 19 (by omega)
  have e30 := v 30 (by omega)
  have e31 := v 31 (by omega)
  have e40 := v 40 (by omega)
  have bo : Bo δ1 := h4.fr (fun k => s 14 k (by omega) (by omega)) (fun k => s 28 k (by omega) (by omega)) (fun k => s 25 k (by omega) (by omega))
  have m : MoI c δ1 := ⟨h1, by omega, fun k => by rw [s 1 k (by omega) (by omega)]; exact h3 k, bo, h5.fr (fun j k q => s j k (by omega) (by omega)), by rw [v 72 (by omega), s 0 82 (by omega) (by omega)]; omega, by rw [s 0 55 (by omega) (by omega)]; exact h7, Or.inl ⟨v49, v 83 (by omega)⟩⟩
  have t : TpW δ1 := by
    unfold TpW
    rw [e18, e19, e30, e31, e40, e5, v16]
    exact ⟨⟨⟨by omega, by omega, fun k => by rw [s 1 k (by omega) (by omega)]; exact h3 k, Or.inl (v 9 (by omega))⟩, by omega, fun u q1 q2 => by omega⟩, by omega, by omega, by omega, by omega, rfl, fun q => by omega, bo, fun f q1 q2 => by omega⟩
  have z0 : Z0 δ1 := ⟨v 50 (by omega), v 51 (by omega), v 52 (by omega), v 53 (by omega), v 54 (by omega), v 67 (by omega)⟩
  have frM : ∀ δ', Rf δ1 δ' → RdM δ δ' := fun δ' r => by
    refine ⟨fun k q => by rw [r.1 0 k (by omega) (by omega)]; exact s 0 k (by omega) (by omega), fun j k q => by rw [r.1 j k (by omega) (by omega)]; exact s j k (by omega) (by omega), ⟨?_, ?_, ?_, ?_, ?_⟩, ?_⟩
    · rw [r.1 0 2 (by omega) (by omega)]; exact v 2 (by omega)
    · rw [r.1 0 3 (by omega) (by omega)]; exact v 3 (by omega)
    · rw [r.1 0 4 (by omega) (by omega)]; exact v 4 (by omega)
    · rw [r.1 0 72 (by omega) (by omega)]; exact v 72 (by omega)
    · rw [r.1 0 83 (by omega) (by omega)]; exact v 83 (by omega)
    · rw [r.1 0 49 (by omega) (by omega)]; exact v49
  refine pq_al (pq_al (pq_al ?_))
  have u : ∀ j k, setA (setA (setA γ 0 12 (-1)) 0 13 0) 0 14 0 j k = if j = 0 ∧ k = 14 then 0 else if j = 0 ∧ k = 13 then 0 else if j = 0 ∧ k = 12 then -1 else γ j k := fun j k => by rw [stA, stA, stA]
  generalize setA (setA (setA γ 0 12 (-1)) 0 13 0) 0 14 0 = γ1 at *
  have uo : ∀ (j : Nat) (k : Int), j ≠ 0 ∨ k < 12 ∨ 14 < k → γ1 j k = γ j k := fun j k q => by rw [u, if_neg (by omega), if_neg (by omega), if_neg (by omega)]
  rw [uo 0 10 (by omega), e10]
  have sc := s2_scan (γ := γ1) (L := δ 0 1) (by omega) (fun i q1 q2 => by rw [uo 13 i (by omega)]; exact hK i q1 q2) (fun k q1 q2 => by rw [uo 13 k (by omega), ← eb k q1 q2]; exact h3 k)
  refine pq_bl sc.pc (fun r γ2 y => pq_al ?_)
  obtain ⟨⟨y1, y2, y3, y4, y5⟩, y6⟩ := y
  have y1 : TkR γ2 := y1
  have y2 : FrT γ1 γ2 := y2
  have y3 : γ2 1 7 = 0 := y3
  have y4 : γ2 1 6 = 0 := y4
  have y5 : ∀ w, 0 ≤ w → w < γ2 2 8 → γ2 22 w = 0 ∧ γ2 23 w = 0 := y5
  have y6 : TsE γ2 (δ 0 1) := y6
  obtain ⟨N, ts⟩ := y6.n
  unfold f_Nd_begin f_Cd_begin
  show pq (f_S_read_L49 f_S_read_b101 FU (setA (setA (setA (setA (setA (setA γ2 0 10 0) 3 9 0) 3 15 0) 4 4 0) 4 10 0) 4 12 0) 1 0) _ _
  have w : ∀ j k, setA (setA (setA (setA (setA (setA γ2 0 10 0) 3 9 0) 3 15 0) 4 4 0) 4 10 0) 4 12 0 j k = if j = 4 ∧ (k = 12 ∨ k = 10 ∨ k = 4) then 0 else if j = 3 ∧ (k = 15 ∨ k = 9) then 0 else if j = 0 ∧ k = 10 then 0 else γ2 j k := fun j k => by
    simp only [stA]
    grind
  generalize setA (setA (setA (setA (setA (setA γ2 0 10 0) 3 9 0) 3 15 0) 4 4 0) 4 10 0) 4 12 0 = γ3 at *
  have wo : ∀ (j : Nat) (k : Int), j ≠ 4 → j ≠ 3 → (j ≠ 0 ∨ k ≠ 10) → γ3 j k = γ2 j k := fun j k q1 q2 q3 => by rw [w, if_neg (by omega), if_neg (by omega), if_neg (by omega)]
  have v39 : γ3 3 9 = 0 := by rw [w]; simp
  have v315 : γ3 3 15 = 0 := by rw [w]; simp
  have v44 : γ3 4 4 = 0 := by rw [w]; simp
  have v410 : γ3 4 10 = 0 := by rw [w]; simp
  have v412 : γ3 4 12 = 0 := by rw [w]; simp
  have v010 : γ3 0 10 = 0 := by rw [w]; simp
  have g28 := wo 2 8 (by omega) (by omega) (by omega)
  have o2 : ∀ k, γ3 1 k = γ2 1 k := fun k => wo 1 k (by omega) (by omega) (by omega)
  have g6 : γ3 1 6 = 0 := by rw [o2]; exact y4
  have g7 : γ3 1 7 = 0 := by rw [o2]; exact y3
  have hTop : TopI γ3 := by
    refine ⟨y1.ext (fun j k q => wo j k (by omega) (by omega) (by omega)), by omega, by omega, ⟨by omega, by omega, by omega, by rw [v44, v410]; rfl, fun e q1 q2 => by omega, fun q => by omega, fun e q1 q2 => by omega⟩, fun n q1 q2 => by omega, fun w q1 q2 => ?_⟩
    rw [g28] at q2
    have := y5 w q1 q2
    rw [v39, wo 22 w (by omega) (by omega) (by omega), wo 23 w (by omega) (by omega) (by omega)]
    omega
  have frS : ∀ γ', FrX γ3 γ' → RdS γ γ' := fun γ' r => by
    have q0 : ∀ k, γ' 0 k = γ3 0 k := fun k => r 0 k (by omega)
    have q2 : ∀ k, k ≠ 10 → γ3 0 k = γ1 0 k := fun k q => by rw [wo 0 k (by omega) (by omega) (by omega)]; exact y2 0 k (by omega) (by omega) (by omega)
    refine ⟨fun j k q => ?_, by rw [q0]; exact v010, ?_, ?_, ?_⟩
    · rw [r j k (by omega), wo j k (by omega) (by omega) (by omega), y2 j k (by omega) (by omega) (by omega), u, if_neg (by omega), if_neg (by omega), if_neg (by omega)]
    · rw [q0, q2 12 (by omega), u]; simp
    · rw [q0, q2 13 (by omega), u]; simp
    · rw [q0, q2 14 (by omega), u]; simp
  have e13 : ∀ k, γ3 13 k = γ 13 k := fun k => by rw [wo 13 k (by omega) (by omega) (by omega), y2 13 k (by omega) (by omega) (by omega)]; exact uo 13 k (by omega)
  have ts3 : TsN γ3 (δ 0 1) N := ts.fr (fun j k q => wo j k (by omega) (by omega) (by omega)) (o2 5) g28
  have bN := ts3.2.1
  have lx : LexR N γ3 δ1 := by
    refine ⟨t.1.1, fun k q1 q2 => ?_, by rw [e1]; exact ts3, by omega, ?_⟩
    · rw [e1] at q2
      rw [s 1 k (by omega) (by omega), e13]; exact eb k q1 q2
    · have a := (ts3.2.2.1 0 (Int.le_refl _) (by omega)).1
      unfold nxP at a
      rw [if_pos rfl] at a
      rw [g6, a]
      unfold sk
      rw [e1, e5]
      exact skP_ag (fun k q1 q2 => by rw [s 1 k (by omega) (by omega), e13]; exact eb k q1 q2) (Int.le_refl _)
  have pn : PnR N γ3 δ1 := by
    refine ⟨⟨⟨lx, by rw [o2]; exact y3⟩, ⟨fun w q1 q2 q3 => ?_, fun k q1 q2 => by exfalso; omega⟩, ⟨by omega, by omega, by omega, by omega⟩, fun w q1 q2 => ?_, fun k q1 q2 => by exfalso; omega⟩, fun f q1 q2 => by exfalso; omega, ⟨⟨by omega, by omega⟩, fun k q1 q2 => by exfalso; omega, fun k q1 q2 => by exfalso; omega⟩, ⟨⟨by omega, by omega⟩, fun k q1 q2 => by exfalso; omega⟩, fun f q1 q2 => by exfalso; omega, fun f q1 q2 => by exfalso; omega⟩
    · rw [g28] at q2
      exact absurd ((wo 23 w (by omega) (by omega) (by omega)).trans (y5 w q1 q2).2) q3
    · rw [g28] at q2
      have a := (wo 22 w (by omega) (by omega) (by omega)).trans (y5 w q1 q2).1
      omega
  exact pq_rdL (γ0 := γ3) (δ0 := δ1) (c := c) (fun γ' δ' q1 q2 q3 q4 q5 => bad γ' δ' q1 (frS γ' q2) q3 (frM δ' q5)) (fun γ' δ' q1 q2 q3 q4 q5 => fin N γ' δ' q1 q2 (frS γ' q3) q4 (frM δ' q5)) FU FU γ3 δ1 0 pn hTop FrX.rf m v49 t z0 Rf.rf (by omega)
