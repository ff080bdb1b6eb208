/-! equality: the class's linker takes parts -/
/-- how many cells a part has -/
def clW (k : Int) : Int := if k = 37 then 2 else if k = 35 ∨ k = 18 ∨ k = 36 then 1 else 0
/-- an operator's slot -/
def OpN (γ γ' : St) (S T C k sd clk : Int) : Prop := (∀ j i, (j ≠ 9 ∨ i ≠ 10) → (j ≠ 8 ∨ i ≠ 5 ∧ i ≠ 11) → (j < 54 ∨ 58 < j ∨ i ≠ S) → (j ≠ 61 ∧ j ≠ 62 ∨ i < C) → (j ≠ 68 ∨ i ≠ T) → γ' j i = γ j i) ∧ (γ' 9 10 = T + 1 ∧ γ' 8 5 = S + 1 ∧ γ' 8 11 = C + clW k ∧ γ' 68 T = S) ∧ (γ' 54 S = k ∧ γ' 58 S = C ∧ γ' 55 S = (if k = 35 then -1 else γ 68 T) ∧ γ' 56 S = (if k = 37 then -1 else if k = 36 then slC clk else if sd ≤ 1 then -1 else γ 68 (T + 1)) ∧ γ' 57 S = (if sd ≤ 2 then -1 else γ 68 (T + 2))) ∧ (k = 35 ∨ k = 36 → C < γ' 8 11 ∧ γ' 61 C = γ 68 T ∧ γ' 62 C = clk) ∧ (k = 18 ∨ k = 37 → C < γ' 8 11 ∧ γ' 61 C = γ 9 12 ∧ γ' 62 C = clk) ∧ (k = 37 → C + 1 < γ' 8 11 ∧ γ' 61 (C + 1) = (if sd ≤ 1 then -1 else γ 68 (T + 1)) ∧ γ' 62 (C + 1) = clk)
theorem b135_pc {γ γ8 : St} {S T C k sd clk b c : Int} (hk : 0 ≤ clk) (hc : c = if sd ≤ 2 then -1 else γ 68 (T + 2)) (hb : b = if sd ≤ 1 then -1 else γ 68 (T + 1)) (hC : C = γ 8 11) (s8 : ∀ j i, γ8 j i = if j = 56 ∧ i = S then b else if j = 55 ∧ i = S then γ 68 T else if j = 8 ∧ i = 5 then S + 1 else if j = 57 ∧ i = S then -1 else if j = 58 ∧ i = S then C else if j = 54 ∧ i = S then k else if j = 9 ∧ i = 10 then T else γ j i) : pc (f_Lk_takeOperator_b135 γ8 k clk S c S) (fun z => OpN γ z.2 S T C k sd clk) := by
  unfold f_Lk_takeOperator_b135
  refine pc_c (fun _ => pc_a ?_)
  have s9 : ∀ j i, setA γ8 57 S c j i = if j = 57 ∧ i = S then c else if j = 56 ∧ i = S then b else if j = 55 ∧ i = S then γ 68 T else if j = 8 ∧ i = 5 then S + 1 else if j = 58 ∧ i = S then C else if j = 54 ∧ i = S then k else if j = 9 ∧ i = 10 then T else γ j i := fun j i => by
    rw [stA]
    by_cases q : j = 57 ∧ i = S
    · rw [if_pos q, if_pos q]
    · rw [if_neg q, if_neg q, s8]
      by_cases q1 : j = 56 ∧ i = S
      · rw [if_pos q1, if_pos q1]
      · rw [if_neg q1, if_neg q1]
        by_cases q2 : j = 55 ∧ i = S
        · rw [if_pos q2, if_pos q2]
        · rw [if_neg q2, if_neg q2]
          by_cases q3 : j = 8 ∧ i = 5
          · rw [if_pos q3, if_pos q3]
          · rw [if_neg q3, if_neg q3, if_neg q]
  generalize setA γ8 57 S c = γ9 at *
  clear s8
  have v10 : γ9 9 10 = T := by rw [s9]; repeat (first | rw [if_neg (by omega)] | rw [if_pos (by omega)])
  have v12 : γ9 9 12 = γ 9 12 := by rw [s9]; repeat (first | rw [if_neg (by omega)] | rw [if_pos (by omega)])
  have v11 : γ9 8 11 = C := by rw [s9, hC]; repeat (first | rw [if_neg (by omega)] | rw [if_pos (by omega)])
  have v55 : γ9 55 S = γ 68 T := by rw [s9]; repeat (first | rw [if_neg (by omega)] | rw [if_pos (by omega)])
  have v56 : γ9 56 S = b := by rw [s9]; repeat (first | rw [if_neg (by omega)] | rw [if_pos (by omega)])
  have v57 : γ9 57 S = c := by rw [s9]; repeat (first | rw [if_neg (by omega)] | rw [if_pos (by omega)])
  have v58 : γ9 58 S = C := by rw [s9]; repeat (first | rw [if_neg (by omega)] | rw [if_pos (by omega)])
  have v54 : γ9 54 S = k := by rw [s9]; repeat (first | rw [if_neg (by omega)] | rw [if_pos (by omega)])
  have v5 : γ9 8 5 = S + 1 := by rw [s9]; repeat (first | rw [if_neg (by omega)] | rw [if_pos (by omega)])
  have vo : ∀ j i, (j ≠ 9 ∨ i ≠ 10) → (j ≠ 8 ∨ i ≠ 5) → (j < 54 ∨ 58 < j ∨ i ≠ S) → γ9 j i = γ j i := fun j i q1 q2 q3 => by
    rw [s9, if_neg (by omega), if_neg (by omega), if_neg (by omega), if_neg (by omega), if_neg (by omega), if_neg (by omega), if_neg (by omega)]
  clear s9
  -- the last push
  have fin : ∀ γa : St, γa 9 10 = T → pc (f_Lk_takeOperator_b289 γa S) (fun z => ∀ j i, z.2 j i = if j = 9 ∧ i = 10 then T + 1 else if j = 68 ∧ i = T then S else γa j i) := fun γa e => by
    unfold f_Lk_takeOperator_b289
    refine pc_b lpush_pc (fun r γ' e' => ?_)
    cases e'
    refine pc_s (fun j i => ?_)
    show setA (setA γa 68 (γa 9 10) S) 9 10 (γa 9 10 + 1) j i = _
    rw [e, stA, stA]
  have cell : ∀ (γa : St) (a : Int), γa 8 11 = C → pc (f_Sl_addCell γa a clk) (fun z => ∀ j i, z.2 j i = if j = 8 ∧ i = 11 then C + 1 else if j = 62 ∧ i = C then clk else if j = 61 ∧ i = C then a else γa j i) := fun γa a e => by
    refine pc_m acell_pc (fun y e' => ?_)
    intro j i
    rw [e']
    show setA (setA (setA γa 61 (γa 8 11) a) 62 (γa 8 11) clk) 8 11 (γa 8 11 + 1) j i = _
    rw [e, stA, stA, stA]
  refine pc_i (fun q1 => pc_i (fun q2 => pc_i (fun q3 => pc_i (fun q4 => ?_) (fun q4 => ?_)) (fun q3 => ?_)) (fun q2 => ?_)) (fun q1 => ?_)
  · refine pc_m (fin γ9 v10) (fun z hz => ?_)
    refine ⟨fun j i r1 r2 r3 r4 r5 => by rw [hz, if_neg (by omega), if_neg (by omega)]; exact vo j i (by omega) (by omega) r3, ⟨by rw [hz, if_pos ⟨rfl, rfl⟩], by rw [hz, if_neg (by omega), if_neg (by omega)]; exact v5, by rw [hz, if_neg (by omega), if_neg (by omega), v11]; unfold clW; rw [if_neg (by omega), if_neg (by omega)]; omega, by rw [hz, if_neg (by omega), if_pos ⟨rfl, rfl⟩]⟩, ⟨by rw [hz, if_neg (by omega), if_neg (by omega)]; exact v54, by rw [hz, if_neg (by omega), if_neg (by omega)]; exact v58, by rw [hz, if_neg (by omega), if_neg (by omega), if_neg q1]; exact v55, by rw [hz, if_neg (by omega), if_neg (by omega), if_neg q3, if_neg q4, v56]; exact hb, by rw [hz, if_neg (by omega), if_neg (by omega), v57]; exact hc⟩, fun r => by omega, fun r => by omega, fun r => by omega⟩
  · have k36 : k = 36 := by omega
    rw [v55]
    refine pc_c (fun _ => pc_b (cell γ9 _ v11) (fun r γa ha => pc_b (slc_pc hk) (fun r γb e => ?_)))
    cases e
    have ha : ∀ j i, γa j i = if j = 8 ∧ i = 11 then C + 1 else if j = 62 ∧ i = C then clk else if j = 61 ∧ i = C then γ 68 T else γ9 j i := ha
    refine pc_c (fun _ => pc_a ?_)
    have hb2 : ∀ j i, setA γa 56 S (slC clk) j i = if j = 56 ∧ i = S then slC clk else if j = 8 ∧ i = 11 then C + 1 else if j = 62 ∧ i = C then clk else if j = 61 ∧ i = C then γ 68 T else γ9 j i := fun j i => by rw [stA, ha]
    generalize setA γa 56 S (slC clk) = γb at *
    have b10 : γb 9 10 = T := by rw [hb2, if_neg (by omega), if_neg (by omega), if_neg (by omega), if_neg (by omega)]; exact v10
    refine pc_m (fin γb b10) (fun z hz => ?_)
    have zo : ∀ j i, (j ≠ 9 ∨ i ≠ 10) → (j ≠ 68 ∨ i ≠ T) → z.2 j i = if j = 56 ∧ i = S then slC clk else if j = 8 ∧ i = 11 then C + 1 else if j = 62 ∧ i = C then clk else if j = 61 ∧ i = C then γ 68 T else γ9 j i := fun j i r1 r2 => by rw [hz, if_neg (by omega), if_neg (by omega)]; exact hb2 j i
    have zp : ∀ j i, (j ≠ 9 ∨ i ≠ 10) → (j ≠ 68 ∨ i ≠ T) → (j ≠ 56 ∨ i ≠ S) → (j ≠ 8 ∨ i ≠ 11) → (j ≠ 61 ∧ j ≠ 62 ∨ i ≠ C) → z.2 j i = γ9 j i := fun j i r1 r2 r3 r4 r5 => by rw [zo j i r1 r2, if_neg (by omega), if_neg (by omega), if_neg (by omega), if_neg (by omega)]
    have z11 : z.2 8 11 = C + 1 := by rw [zo 8 11 (by omega) (by omega), if_neg (by omega), if_pos ⟨rfl, rfl⟩]
    refine ⟨fun j i r1 r2 r3 r4 r5 => by rw [zp j i r1 r5 (by omega) (by omega) (by omega)]; exact vo j i (by omega) (by omega) r3, ⟨by rw [hz, if_pos ⟨rfl, rfl⟩], by rw [zp 8 5 (by omega) (by omega) (by omega) (by omega) (by omega)]; exact v5, by rw [z11]; exact (by unfold clW; rw [if_neg (by omega), if_pos (by omega)]), by rw [hz, if_neg (by omega), if_pos ⟨rfl, rfl⟩]⟩, ⟨by rw [zp 54 S (by omega) (by omega) (by omega) (by omega) (by omega)]; exact v54, by rw [zp 58 S (by omega) (by omega) (by omega) (by omega) (by omega)]; exact v58, by rw [zp 55 S (by omega) (by omega) (by omega) (by omega) (by omega), if_neg q1]; exact v55, by rw [zo 56 S (by omega) (by omega), if_pos ⟨rfl, rfl⟩, if_neg q3, if_pos k36], by rw [zp 57 S (by omega) (by omega) (by omega) (by omega) (by omega), v57]; exact hc⟩, fun r => ⟨by omega, ?_, ?_⟩, fun r => by omega, fun r => by omega⟩
    · rw [zo 61 C (by omega) (by omega), if_neg (by omega), if_neg (by omega), if_neg (by omega), if_pos ⟨rfl, rfl⟩]
    · rw [zo 62 C (by omega) (by omega), if_neg (by omega), if_neg (by omega), if_pos ⟨rfl, rfl⟩]
  · have k37 : k = 37 := by omega
    rw [v12]
    refine pc_b (cell γ9 _ v11) (fun r γa ha => pc_c (fun _ => ?_))
    have ha : ∀ j i, γa j i = if j = 8 ∧ i = 11 then C + 1 else if j = 62 ∧ i = C then clk else if j = 61 ∧ i = C then γ 9 12 else γ9 j i := ha
    have ha56 : γa 56 S = b := by rw [ha, if_neg (by omega), if_neg (by omega), if_neg (by omega)]; exact v56
    have ha11 : γa 8 11 = C + 1 := by rw [ha, if_pos ⟨rfl, rfl⟩]
    rw [ha56]
    refine pc_b acell_pc (fun r γb e => ?_)
    cases e
    refine pc_c (fun _ => pc_a ?_)
    rw [ha11]
    have hb2 : ∀ j i, setA (setA (setA (setA γa 61 (C + 1) b) 62 (C + 1) clk) 8 11 (C + 1 + 1)) 56 S (-1) j i = if j = 56 ∧ i = S then -1 else if j = 8 ∧ i = 11 then C + 1 + 1 else if j = 62 ∧ i = C + 1 then clk else if j = 61 ∧ i = C + 1 then b else γa j i := fun j i => by rw [stA, stA, stA, stA]
    generalize setA (setA (setA (setA γa 61 (C + 1) b) 62 (C + 1) clk) 8 11 (C + 1 + 1)) 56 S (-1) = γb at *
    have b10 : γb 9 10 = T := by rw [hb2, if_neg (by omega), if_neg (by omega), if_neg (by omega), if_neg (by omega), ha, if_neg (by omega), if_neg (by omega), if_neg (by omega)]; exact v10
    refine pc_m (fin γb b10) (fun z hz => ?_)
    have zo : ∀ j i, (j ≠ 9 ∨ i ≠ 10) → (j ≠ 68 ∨ i ≠ T) → z.2 j i = if j = 56 ∧ i = S then -1 else if j = 8 ∧ i = 11 then C + 1 + 1 else if j = 62 ∧ i = C + 1 then clk else if j = 61 ∧ i = C + 1 then b else γa j i := fun j i r1 r2 => by rw [hz, if_neg (by omega), if_neg (by omega)]; exact hb2 j i
    have zp : ∀ j i, (j ≠ 9 ∨ i ≠ 10) → (j ≠ 68 ∨ i ≠ T) → (j ≠ 56 ∨ i ≠ S) → (j ≠ 8 ∨ i ≠ 11) → (j ≠ 61 ∧ j ≠ 62 ∨ i ≠ C ∧ i ≠ C + 1) → z.2 j i = γ9 j i := fun j i r1 r2 r3 r4 r5 => by rw [zo j i r1 r2, if_neg (by omega), if_neg (by omega), if_neg (by omega), if_neg (by omega), ha, if_neg (by omega), if_neg (by omega), if_neg (by omega)]
    have z11 : z.2 8 11 = C + 1 + 1 := by rw [zo 8 11 (by omega) (by omega), if_neg (by omega), if_pos ⟨rfl, rfl⟩]
    refine ⟨fun j i r1 r2 r3 r4 r5 => by rw [zp j i r1 r5 (by omega) (by omega) (by omega)]; exact vo j i (by omega) (by omega) r3, ⟨by rw [hz, if_pos ⟨rfl, rfl⟩], by rw [zp 8 5 (by omega) (by omega) (by omega) (by omega) (by omega)]; exact v5, by rw [z11]; exact (by unfold clW; rw [if_pos (by omega)]; omega), by rw [hz, if_neg (by omega), if_pos ⟨rfl, rfl⟩]⟩, ⟨by rw [zp 54 S (by omega) (by omega) (by omega) (by omega) (by omega)]; exact v54, by rw [zp 58 S (by omega) (by omega) (by omega) (by omega) (by omega)]; exact v58, by rw [zp 55 S (by omega) (by omega) (by omega) (by omega) (by omega), if_neg q1]; exact v55, by rw [zo 56 S (by omega) (by omega), if_pos ⟨rfl, rfl⟩, if_pos k37], by rw [zp 57 S (by omega) (by omega) (by omega) (by omega) (by omega), v57]; exact hc⟩, fun r => by omega, fun r => ⟨by omega, ?_, ?_⟩, fun r => ⟨by omega, ?_, ?_⟩⟩
    · rw [zo 61 C (by omega) (by omega), if_neg (by omega), if_neg (by omega), if_neg (by omega), if_neg (by omega), ha, if_neg (by omega), if_neg (by omega), if_pos ⟨rfl, rfl⟩]
    · rw [zo 62 C (by omega) (by omega), if_neg (by omega), if_neg (by omega), if_neg (by omega), if_neg (by omega), ha, if_neg (by omega), if_pos ⟨rfl, rfl⟩]
    · rw [zo 61 (C + 1) (by omega) (by omega), if_neg (by omega), if_neg (by omega), if_neg (by omega), if_pos ⟨rfl, rfl⟩]; exact hb
    · rw [zo 62 (C + 1) (by omega) (by omega), if_neg (by omega), if_neg (by omega), if_pos ⟨rfl, rfl⟩]
  · have k18 : k = 18 := by omega
    rw [v12]
    refine pc_b (cell γ9 _ v11) (fun r γa ha => ?_)
    have ha : ∀ j i, γa j i = if j = 8 ∧ i = 11 then C + 1 else if j = 62 ∧ i = C then clk else if j = 61 ∧ i = C then γ 9 12 else γ9 j i := ha
    have b10 : γa 9 10 = T := by rw [ha, if_neg (by omega), if_neg (by omega), if_neg (by omega)]; exact v10
    refine pc_m (fin γa b10) (fun z hz => ?_)
    have zo : ∀ j i, (j ≠ 9 ∨ i ≠ 10) → (j ≠ 68 ∨ i ≠ T) → z.2 j i = if j = 8 ∧ i = 11 then C + 1 else if j = 62 ∧ i = C then clk else if j = 61 ∧ i = C then γ 9 12 else γ9 j i := fun j i r1 r2 => by rw [hz, if_neg (by omega), if_neg (by omega)]; exact ha j i
    have zp : ∀ j i, (j ≠ 9 ∨ i ≠ 10) → (j ≠ 68 ∨ i ≠ T) → (j ≠ 8 ∨ i ≠ 11) → (j ≠ 61 ∧ j ≠ 62 ∨ i ≠ C) → z.2 j i = γ9 j i := fun j i r1 r2 r4 r5 => by rw [zo j i r1 r2, if_neg (by omega), if_neg (by omega), if_neg (by omega)]
    have z11 : z.2 8 11 = C + 1 := by rw [zo 8 11 (by omega) (by omega), if_pos ⟨rfl, rfl⟩]
    refine ⟨fun j i r1 r2 r3 r4 r5 => by rw [zp j i r1 r5 (by omega) (by omega)]; exact vo j i (by omega) (by omega) r3, ⟨by rw [hz, if_pos ⟨rfl, rfl⟩], by rw [zp 8 5 (by omega) (by omega) (by omega) (by omega)]; exact v5, by rw [z11]; exact (by unfold clW; rw [if_neg (by omega), if_pos (by omega)]), by rw [hz, if_neg (by omega), if_pos ⟨rfl, rfl⟩]⟩, ⟨by rw [zp 54 S (by omega) (by omega) (by omega) (by omega)]; exact v54, by rw [zp 58 S (by omega) (by omega) (by omega) (by omega)]; exact v58, by rw [zp 55 S (by omega) (by omega) (by omega) (by omega), if_neg q1]; exact v55, by rw [zp 56 S (by omega) (by omega) (by omega) (by omega), if_neg (by omega), if_neg (by omega), v56]; exact hb, by rw [zp 57 S (by omega) (by omega) (by omega) (by omega), v57]; exact hc⟩, fun r => by omega, fun r => ⟨by omega, ?_, ?_⟩, fun r => by omega⟩
    · rw [zo 61 C (by omega) (by omega), if_neg (by omega), if_neg (by omega), if_pos ⟨rfl, rfl⟩]
    · rw [zo 62 C (by omega) (by omega), if_neg (by omega), if_pos ⟨rfl, rfl⟩]
  · have k35 : k = 35 := by omega
    rw [v55]
    refine pc_c (fun _ => pc_b (cell γ9 _ v11) (fun r γa ha => pc_c (fun _ => pc_a ?_)))
    have ha : ∀ j i, γa j i = if j = 8 ∧ i = 11 then C + 1 else if j = 62 ∧ i = C then clk else if j = 61 ∧ i = C then γ 68 T else γ9 j i := ha
    have hb2 : ∀ j i, setA γa 55 S (-1) j i = if j = 55 ∧ i = S then -1 else if j = 8 ∧ i = 11 then C + 1 else if j = 62 ∧ i = C then clk else if j = 61 ∧ i = C then γ 68 T else γ9 j i := fun j i => by rw [stA, ha]
    generalize setA γa 55 S (-1) = γb at *
    have b10 : γb 9 10 = T := by rw [hb2, if_neg (by omega), if_neg (by omega), if_neg (by omega), if_neg (by omega)]; exact v10
    refine pc_m (fin γb b10) (fun z hz => ?_)
    have zo : ∀ j i, (j ≠ 9 ∨ i ≠ 10) → (j ≠ 68 ∨ i ≠ T) → z.2 j i = if j = 55 ∧ i = S then -1 else if j = 8 ∧ i = 11 then C + 1 else if j = 62 ∧ i = C then clk else if j = 61 ∧ i = C then γ 68 T else γ9 j i := fun j i r1 r2 => by rw [hz, if_neg (by omega), if_neg (by omega)]; exact hb2 j i
    have zp : ∀ j i, (j ≠ 9 ∨ i ≠ 10) → (j ≠ 68 ∨ i ≠ T) → (j ≠ 55 ∨ i ≠ S) → (j ≠ 8 ∨ i ≠ 11) → (j ≠ 61 ∧ j ≠ 62 ∨ i ≠ C) → z.2 j i = γ9 j i := fun j i r1 r2 r3 r4 r5 => by rw [zo j i r1 r2, if_neg (by omega), if_neg (by omega), if_neg (by omega), if_neg (by omega)]
    have z11 : z.2 8 11 = C + 1 := by rw [zo 8 11 (by omega) (by omega), if_neg (by omega), if_pos ⟨rfl, rfl⟩]
    refine ⟨fun j i r1 r2 r3 r4 r5 => by rw [zp j i r1 r5 (by omega) (by omega) (by omega)]; exact vo j i (by omega) (by omega) r3, ⟨by rw [hz, if_pos ⟨rfl, rfl⟩], by rw [zp 8 5 (by omega) (by omega) (by omega) (by omega) (by omega)]; exact v5, by rw [z11]; exact (by unfold clW; rw [if_neg (by omega), if_pos (by omega)]), by rw [hz, if_neg (by omega), if_pos ⟨rfl, rfl⟩]⟩, ⟨by rw [zp 54 S (by omega) (by omega) (by omega) (by omega) (by omega)]; exact v54, by rw [zp 58 S (by omega) (by omega) (by omega) (by omega) (by omega)]; exact v58, by rw [zo 55 S (by omega) (by omega), if_pos ⟨rfl, rfl⟩, if_pos k35], by rw [zp 56 S (by omega) (by omega) (by omega) (by omega) (by omega), if_neg (by omega), if_neg (by omega), v56]; exact hb, by rw [zp 57 S (by omega) (by omega) (by omega) (by omega) (by omega), v57]; exact hc⟩, fun r => ⟨by omega, ?_, ?_⟩, fun r => by omega, fun r => by omega⟩
    · rw [zo 61 C (by omega) (by omega), if_neg (by omega), if_neg (by omega), if_neg (by omega), if_pos ⟨rfl, rfl⟩]
    · rw [zo 62 C (by omega) (by omega), if_neg (by omega), if_neg (by omega), if_pos ⟨rfl, rfl⟩]
theorem top_pc {γ : St} {f p k : Int} (hk : 0 ≤ ccK (γ 64 f) (γ 65 f) (γ 41 p)) : pc (f_Lk_takeOperator γ f p k) (fun z => OpN γ z.2 (γ 8 5) (γ 9 10 - γ 40 p) (γ 8 11) k (γ 40 p) (ccK (γ 64 f) (γ 65 f) (γ 41 p))) := by
  unfold f_Lk_takeOperator
  refine pc_c (fun _ => pc_a (pc_c (fun _ => pc_b pic_pc (fun r γ1 e => ?_))))
  cases e
  generalize hT : γ 9 10 - γ 40 p = T
  refine pc_c (fun _ => pc_a ?_)
  have s1 : ∀ j i, setA γ 9 10 T j i = if j = 9 ∧ i = 10 then T else γ j i := fun j i => by rw [stA]
  generalize setA γ 9 10 T = γ1 at *
  have e11 : γ1 8 11 = γ 8 11 := by rw [s1, if_neg (by omega)]
  have e5 : γ1 8 5 = γ 8 5 := by rw [s1, if_neg (by omega)]
  rw [e11]
  refine pc_b sadd_pc (fun r γ2 e => ?_)
  rw [e5] at e
  have er : r = γ 8 5 := by cases e; rfl
  have s2 : ∀ j i, γ2 j i = if j = 8 ∧ i = 5 then γ 8 5 + 1 else if j = 57 ∧ i = γ 8 5 then -1 else if j = 56 ∧ i = γ 8 5 then -1 else if j = 55 ∧ i = γ 8 5 then -1 else if j = 58 ∧ i = γ 8 5 then γ 8 11 else if j = 54 ∧ i = γ 8 5 then k else γ1 j i := fun j i => by cases e; rw [stA, setS_v]
  clear e
  subst er
  have o2 : ∀ j i, (j = 9 ∨ j = 68) → γ2 j i = γ1 j i := fun j i q => by rw [s2, if_neg (by omega), if_neg (by omega), if_neg (by omega), if_neg (by omega), if_neg (by omega), if_neg (by omega)]
  have e10 : γ2 9 10 = T := by rw [o2 9 10 (by omega), s1, if_pos ⟨rfl, rfl⟩]
  have e68 : ∀ i, γ2 68 i = γ 68 i := fun i => by rw [o2 68 i (by omega), s1, if_neg (by omega)]
  rw [e10, e68]
  refine pc_c (fun _ => pc_c (fun _ => pc_a ?_))
  have s3 : ∀ j i, setA γ2 55 (γ 8 5) (γ 68 T) j i = if j = 55 ∧ i = γ 8 5 then γ 68 T else γ2 j i := fun j i => by rw [stA]
  generalize setA γ2 55 (γ 8 5) (γ 68 T) = γ3 at *
  have f10 : γ3 9 10 = T := by rw [s3, if_neg (by omega)]; exact e10
  have f68 : ∀ i, γ3 68 i = γ 68 i := fun i => by rw [s3, if_neg (by omega)]; exact e68 i
  have go : ∀ b, b = (if γ 40 p ≤ 1 then -1 else γ 68 (T + 1)) → pc (f_Lk_takeOperator_b104 γ3 k (γ 40 p) (ccK (γ 64 f) (γ 65 f) (γ 41 p)) (γ 8 5) b (γ 8 5)) (fun z => OpN γ z.2 (γ 8 5) T (γ 8 11) k (γ 40 p) (ccK (γ 64 f) (γ 65 f) (γ 41 p))) := fun b hb => by
    unfold f_Lk_takeOperator_b104
    refine pc_c (fun _ => pc_a ?_)
    have s4 : ∀ j i, setA γ3 56 (γ 8 5) b j i = if j = 56 ∧ i = γ 8 5 then b else γ3 j i := fun j i => by rw [stA]
    generalize setA γ3 56 (γ 8 5) b = γ4 at *
    have g10 : γ4 9 10 = T := by rw [s4, if_neg (by omega)]; exact f10
    have g68 : ∀ i, γ4 68 i = γ 68 i := fun i => by rw [s4, if_neg (by omega)]; exact f68 i
    have s8 : ∀ j i, γ4 j i = if j = 56 ∧ i = γ 8 5 then b else if j = 55 ∧ i = γ 8 5 then γ 68 T else if j = 8 ∧ i = 5 then γ 8 5 + 1 else if j = 57 ∧ i = γ 8 5 then -1 else if j = 58 ∧ i = γ 8 5 then γ 8 11 else if j = 54 ∧ i = γ 8 5 then k else if j = 9 ∧ i = 10 then T else γ j i := fun j i => by
      rw [s4]
      by_cases q1 : j = 56 ∧ i = γ 8 5
      · rw [if_pos q1, if_pos q1]
      · rw [if_neg q1, if_neg q1, s3]
        by_cases q2 : j = 55 ∧ i = γ 8 5
        · rw [if_pos q2, if_pos q2]
        · rw [if_neg q2, if_neg q2, s2]
          by_cases q3 : j = 8 ∧ i = 5
          · rw [if_pos q3, if_pos q3]
          · rw [if_neg q3, if_neg q3]
            by_cases q4 : j = 57 ∧ i = γ 8 5
            · rw [if_pos q4, if_pos q4]
            · rw [if_neg q4, if_neg q4, if_neg q1, if_neg q2, s1]
    rw [g10, g68]
    refine pc_i (fun q => b135_pc hk ?_ hb rfl s8) (fun q => pc_c (fun _ => pc_c (fun _ => b135_pc hk ?_ hb rfl s8)))
    · rw [if_pos q]
    · rw [if_neg q]
  rw [f10, f68]
  refine pc_i (fun q => go _ ?_) (fun q => pc_c (fun _ => pc_c (fun _ => go _ ?_)))
  · rw [if_pos q]
  · rw [if_neg q]
