/-! the class's order: a slot opens -/
set_option maxHeartbeats 2000000 in
theorem OdI.opn {γ0 γ γ' : St} {S c : Int} (hX : SdX γ0 S) (h : OdI γ0 S γ) (hc : 0 ≤ c ∧ c < S) (h69 : γ 69 c = 0) (hP : γ 10 10 = 0 ∨ 0 < γ 10 10 ∧ γ 71 (γ 73 (γ 10 10 - 1)) ≠ 3 ∧ sdV γ0 (γ 73 (γ 10 10 - 1)) (γ 71 (γ 73 (γ 10 10 - 1))) = c)
    (s0 : ∀ j k, γ' j k = if j = 10 ∧ k = 10 then γ 10 10 + 1 else if j = 73 ∧ k = γ 10 10 then c else if j = 10 ∧ k = 9 then γ 10 9 + 1 else if j = 72 ∧ k = γ 10 9 then c else if j = 71 ∧ k = c then 0 else if j = 70 ∧ k = c then γ 10 8 + 1 else if j = 69 ∧ k = c then γ 10 8 + 1 else if j = 10 ∧ k = 8 then γ 10 8 + 1 else if j = 71 ∧ 0 < γ 10 10 ∧ k = γ 73 (γ 10 10 - 1) then γ 71 k + 1 else γ j k) : OdI γ0 S γ' := by
  have ⟨hF, hN, hT, hE, hC⟩ := h
  have ⟨e1, e2, e3, e4, e5, e6⟩ := hE
  have ⟨n1, n2, n3, n4, n5, n6⟩ := hN
  have ⟨t1, t2, t3, t4, t5, t6⟩ := hT
  have cnt := hN.cnt hX.1.1
  have f : ∀ j k, (j < 69 ∨ 73 < j) → (j ≠ 10 ∨ k ≠ 8 ∧ k ≠ 9 ∧ k ≠ 10) → γ' j k = γ j k := fun j k q1 q2 => by rw [s0]; repeat rw [if_neg (by omega)]
  have k8 : γ' 10 8 = γ 10 8 + 1 := by rw [s0]; simp
  have k9 : γ' 10 9 = γ 10 9 + 1 := by rw [s0]; simp
  have k10 : γ' 10 10 = γ 10 10 + 1 := by rw [s0]; simp
  have k11 := f 10 11 (by omega) (by omega)
  have k13 := f 10 13 (by omega) (by omega)
  have c69 : γ' 69 c = γ 10 8 + 1 := by rw [s0]; simp
  have c70 : γ' 70 c = γ 10 8 + 1 := by rw [s0]; simp
  have c71 : γ' 71 c = 0 := by rw [s0]; simp
  have c72 : γ' 72 (γ 10 9) = c := by rw [s0]; simp
  have c73 : γ' 73 (γ 10 10) = c := by rw [s0]; simp
  have f69 : ∀ k, k ≠ c → γ' 69 k = γ 69 k := fun k q => by rw [s0]; simp [q]
  have f70 : ∀ k, k ≠ c → γ' 70 k = γ 70 k := fun k q => by rw [s0]; simp [q]
  have f72 : ∀ k, k ≠ γ 10 9 → γ' 72 k = γ 72 k := fun k q => by rw [s0]; simp [q]
  have f73 : ∀ k, k ≠ γ 10 10 → γ' 73 k = γ 73 k := fun k q => by rw [s0]; simp [q]
  have f71 : ∀ k, k ≠ c → (γ 10 10 = 0 ∨ k ≠ γ 73 (γ 10 10 - 1)) → γ' 71 k = γ 71 k := fun k q1 q2 => by
    rw [s0, if_neg (by omega), if_neg (by omega), if_neg (by omega), if_neg (by omega), if_neg (by omega), if_neg (by omega), if_neg (by omega), if_neg (by omega), if_neg (by omega)]
  have p71 : 0 < γ 10 10 → γ 73 (γ 10 10 - 1) ≠ c → γ' 71 (γ 73 (γ 10 10 - 1)) = γ 71 (γ 73 (γ 10 10 - 1)) + 1 := fun q1 q2 => by
    rw [s0, if_neg (by omega), if_neg (by omega), if_neg (by omega), if_neg (by omega), if_neg (by omega), if_neg (by omega), if_neg (by omega), if_neg (by omega), if_pos ⟨rfl, q1, rfl⟩]
  have f75 : ∀ k, γ' 75 k = γ 75 k := fun k => f 75 k (by omega) (by omega)
  -- the count
  have upd : ∀ w, sm (cnW γ' w) 0 S = sm (cnW γ w) 0 S + w c := fun w => by
    rw [sm_upd (f := cnW γ' w) (g := cnW γ w) hc.1 hc.2 (fun i _ _ q => by unfold cnW; rw [f69 i q])]
    have a : cnW γ w c = 0 := by unfold cnW; rw [if_neg (by omega)]
    have b : cnW γ' w c = w c := by unfold cnW; rw [if_pos (by omega)]
    omega
  have hS : γ 10 8 + 1 ≤ S := by
    have u := upd (fun _ => 1)
    rw [← n3] at u
    have := sm_le (f := cnW γ' (fun _ => 1)) hX.1.1 (fun i _ _ => by show (if γ' 69 i ≠ 0 then (1 : Int) else 0) ≤ 1; split <;> omega)
    omega
  have bd : ∀ y, Opn γ S y → 0 ≤ y → y < S → y ≠ c ∧ γ 69 y ≤ γ 10 8 := fun y q q1 q2 => by
    have z := n5 y q1 q2
    obtain ⟨z1, z2⟩ := q
    exact ⟨fun r => by rw [r] at z1; omega, by omega⟩
  have op : ∀ y, y ≠ c → (Opn γ' S y ↔ Opn γ S y) := fun y q => by unfold Opn; rw [f69 y q]
  have opc : Opn γ' S c := ⟨by omega, by omega⟩
  have pth : ∀ i, 0 ≤ i → i < γ 10 10 → γ 73 i ≠ c ∧ γ' 73 i = γ 73 i ∧ γ' 69 (γ' 73 i) = γ 69 (γ 73 i) ∧ γ 69 (γ 73 i) ≤ γ 10 8 := fun i q1 q2 => by
    have z := t4 i q1 q2
    have b := bd _ z.2 z.1.1 z.1.2
    have e := f73 i (by omega)
    exact ⟨b.1, e, by rw [e, f69 _ b.1], b.2⟩
  have trl : ∀ i, 0 ≤ i → i < γ 10 9 → γ 72 i ≠ c ∧ γ' 72 i = γ 72 i ∧ γ' 69 (γ' 72 i) = γ 69 (γ 72 i) ∧ γ 69 (γ 72 i) ≤ γ 10 8 := fun i q1 q2 => by
    have z := t1 i q1 q2
    have b := bd _ z.2 z.1.1 z.1.2
    have e := f72 i (by omega)
    exact ⟨b.1, e, by rw [e, f69 _ b.1], b.2⟩
  -- the last path slot of others
  have pio : ∀ y i, 0 ≤ y → y < S → y ≠ c → Opn γ S y → (piI γ' i y ↔ piI γ i y) := fun y i q1 q2 q3 q4 => by
    have b := bd y q4 q1 q2
    constructor
    · intro r
      obtain ⟨r1, r2, r3, r4⟩ := r
      have il : i < γ 10 10 := by
        rcases Int.lt_or_le i (γ 10 10) with z | z
        · exact z
        · have : i = γ 10 10 := by omega
          rw [this, c73, c69, f69 y q3] at r3
          omega
      have pi := pth i r1 il
      rw [pi.2.2.1, f69 y q3] at r3
      refine ⟨r1, il, r3, fun z => ?_⟩
      have w := r4 (by omega)
      rw [(pth (i + 1) (by omega) z).2.2.1, f69 y q3] at w
      exact w
    · intro r
      obtain ⟨r1, r2, r3, r4⟩ := r
      refine ⟨r1, by omega, by rw [(pth i r1 r2).2.2.1, f69 y q3]; exact r3, fun z => ?_⟩
      rw [f69 y q3]
      by_cases w : i + 1 = γ 10 10
      · rw [w, c73, c69]; omega
      · rw [(pth (i + 1) (by omega) (by omega)).2.2.1]; exact r4 (by omega)
  have pic : ∀ i, piI γ' i c → i = γ 10 10 := fun i r => by
    obtain ⟨r1, r2, r3, r4⟩ := r
    rcases Int.lt_or_le i (γ 10 10) with z | z
    · exfalso
      have w := r4 (by omega)
      rw [c69] at w
      by_cases v : i + 1 = γ 10 10
      · rw [v, c73, c69] at w; omega
      · have u := pth (i + 1) (by omega) (by omega)
        rw [u.2.2.1] at w
        omega
    · omega
  refine ⟨fun j k q1 q2 => by rw [f j k (by omega) (by omega)]; exact hF j k q1 q2, ?_, ?_, ?_, ?_⟩
  · refine ⟨by omega, by omega, ?_, fun w => ?_, fun s q1 q2 => ?_, fun i q1 q2 => by rw [f75]; exact n6 i q1 (by omega)⟩
    · rw [k8, upd, n3]
    · rw [upd, ← n4 w, k11, k9, sm_succ n1.1, show (fun i => w (γ' 75 i)) = (fun i => w (γ 75 i)) from funext fun i => by rw [f75], sm_ext (f := fun i => w (γ' 72 i)) (g := fun i => w (γ 72 i)) (fun i q1 q2 => by show w (γ' 72 i) = w (γ 72 i); rw [f72 i (by omega)])]
      show _ + (_ + w (γ' 72 (γ 10 9))) = _
      rw [c72]
      omega
    · rw [k8]
      by_cases q : s = c
      · rw [q, c69]; omega
      · rw [f69 s q]; have := n5 s q1 q2; omega
  · refine ⟨fun i q1 q2 => ?_, fun i j q1 q2 q3 => ?_, fun s q1 q2 q3 => ?_, fun i q1 q2 => ?_, fun i j q1 q2 q3 => ?_, fun i q1 q2 => ?_⟩
    · by_cases q : i = γ 10 9
      · rw [q, c72]; exact ⟨hc, opc⟩
      · have z := trl i q1 (by omega)
        have y := t1 i q1 (by omega)
        rw [z.2.1, op _ z.1]; exact y
    · have z := trl i q1 (by omega)
      by_cases q : j = γ 10 9
      · rw [q, c72, z.2.2.1, c69]; omega
      · rw [z.2.2.1, (trl j (by omega) (by omega)).2.2.1]; exact t2 i j q1 q2 (by omega)
    · by_cases q : s = c
      · exact ⟨γ 10 9, n1.1, by omega, by rw [c72, q]⟩
      · obtain ⟨i, r1, r2, r3⟩ := t3 s q1 q2 ((op s q).1 q3)
        exact ⟨i, r1, by omega, by rw [f72 i (by omega)]; exact r3⟩
    · by_cases q : i = γ 10 10
      · rw [q, c73]; exact ⟨hc, opc⟩
      · have z := pth i q1 (by omega)
        have y := t4 i q1 (by omega)
        rw [z.2.1, op _ z.1]; exact y
    · have z := pth i q1 (by omega)
      by_cases q : j = γ 10 10
      · rw [q, c73, z.2.2.1, c69]; omega
      · rw [z.2.2.1, (pth j (by omega) (by omega)).2.2.1]; exact t5 i j q1 q2 (by omega)
    · have z := pth i q1 (by omega)
      rw [z.2.1]
      by_cases q : i + 1 = γ 10 10
      · rw [q, c73]
        rcases hP with r | r
        · omega
        · have y := t4 (γ 10 10 - 1) (by omega) (by omega)
          have y2 := (e1 _ y.1.1 y.1.2 (by have := y.2.1; omega)).1
          have w := Ed.of (γ := γ0) (s := γ 73 (γ 10 10 - 1)) (j := γ 71 (γ 73 (γ 10 10 - 1))) (by rw [r.2.2]; exact hc.1) (by omega)
          rw [r.2.2] at w
          rw [show i = γ 10 10 - 1 by omega]
          exact w
      · rw [(pth (i + 1) (by omega) (by omega)).2.1]; exact t6 i q1 (by omega)
  · refine ⟨fun y q1 q2 q3 => ?_, fun y q1 q2 q3 d q4 => ?_, fun y q1 q2 q3 q4 => ?_, fun y q1 q2 q3 => ?_, fun y i q1 q2 q3 q4 => ?_, fun y q1 q2 q3 => ?_⟩
    · have vis : ∀ d, γ 69 d ≠ 0 → γ' 69 d ≠ 0 := fun d r => by
        by_cases q : d = c
        · rw [q, c69]; omega
        · rw [f69 d q]; exact r
      by_cases q : y = c
      · rw [q, c71]; exact ⟨by omega, fun j r1 r2 => by omega⟩
      · rw [f69 y q] at q3
        have z := e1 y q1 q2 q3
        by_cases r : 0 < γ 10 10 ∧ y = γ 73 (γ 10 10 - 1)
        · rcases hP with p | p
          · omega
          · rw [r.2] at z q ⊢
            rw [p71 r.1 q]
            refine ⟨by omega, fun j r1 r2 r3 => ?_⟩
            by_cases u : j = γ 71 (γ 73 (γ 10 10 - 1))
            · rw [u, p.2.2, c69]; omega
            · exact vis _ (z.2 j r1 (by omega) r3)
        · rw [f71 y q (by omega)]
          exact ⟨z.1, fun j r1 r2 r3 => vis _ (z.2 j r1 r2 r3)⟩
    · by_cases q : y = c
      · rw [q, c69] at q3; omega
      · rw [f69 y q] at q3
        have z := e2 y q1 q2 q3 d q4
        by_cases r : d = c
        · rw [r, h69] at z; omega
        · rw [f69 d r]; exact z
    · have yc : y ≠ c := fun r => q4 (γ 10 10) (by omega) (by omega) (by rw [c73, r])
      have q3' := (op y yc).1 q3
      have q4' : ∀ i, 0 ≤ i → i < γ 10 10 → γ 73 i ≠ y := fun i r1 r2 => by have := q4 i r1 (by omega); rw [f73 i (by omega)] at this; exact this
      have z := e3 y q1 q2 q3' q4'
      rw [f69 y yc, f70 y yc, f71 y yc ?_]
      · exact z
      · rcases Int.lt_or_le 0 (γ 10 10) with p | p
        · exact Or.inr (fun r => q4' (γ 10 10 - 1) (by omega) (by omega) r.symm)
        · exact Or.inl (by omega)
    · by_cases q : y = c
      · refine ⟨γ 10 10, by omega, by omega, by rw [c73, q]; exact Int.le_refl _, fun r => by omega⟩
      · have q3' := (op y q).1 q3
        obtain ⟨i, r⟩ := e4 y q1 q2 q3'
        exact ⟨i, (pio y i q1 q2 q q3').2 r⟩
    · by_cases q : y = c
      · rw [q] at q4 ⊢
        have : i = γ 10 10 := pic i q4
        rw [this, c73, c71]
        exact ⟨Rc.rf, Int.le_refl _, fun j r1 r2 => by omega⟩
      · have q3' := (op y q).1 q3
        have q4' := (pio y i q1 q2 q q3').1 q4
        have z := e5 y i q1 q2 q3' q4'
        have pi := pth i q4'.1 q4'.2.1
        have b := bd y q3' q1 q2
        have le : γ 70 (γ 73 i) ≤ γ 10 8 := by
          have y2 := t4 i q4'.1 q4'.2.1
          have := (e6 _ y2.1.1 y2.1.2 y2.2).1
          omega
        rw [pi.2.1, f70 _ pi.1, f70 y q]
        refine ⟨z.1, z.2.1, fun j r1 r2 r3 r4 => ?_⟩
        by_cases u : sdV γ0 y j = c
        · rw [u, c69]; omega
        · rw [f69 _ u]
          refine z.2.2 j r1 ?_ r3 ((op _ u).1 r4)
          by_cases r : 0 < γ 10 10 ∧ y = γ 73 (γ 10 10 - 1)
          · rcases hP with p | p
            · omega
            · rw [r.2] at r2 q u ⊢
              rw [p71 r.1 q] at r2
              by_cases v : j = γ 71 (γ 73 (γ 10 10 - 1))
              · exact absurd (by rw [v]; exact p.2.2) u
              · omega
          · rw [f71 y q (by omega)] at r2; exact r2
    · by_cases q : y = c
      · rw [q, c70, c69]
        exact ⟨Int.le_refl _, c, hc, opc, c69, Rc.rf⟩
      · have q3' := (op y q).1 q3
        have z := e6 y q1 q2 q3'
        rw [f70 y q, f69 y q]
        obtain ⟨d, z1, z2, z3, z4⟩ := z.2
        have bdd := bd d z2 z1.1 z1.2
        exact ⟨z.1, d, z1, (op d bdd.1).2 z2, by rw [f69 d bdd.1]; exact z3, z4⟩
  · have ⟨c1, c2, c3, c4⟩ := hC
    rw [OdC, k13]
    refine ⟨c1, c2, fun s q1 q2 q3 q4 => ?_, fun y j q1 q2 q3 q4 q5 q6 => ?_⟩
    · by_cases q : s = c
      · rw [q, c69] at q3; omega
      · rw [f69 s q] at q3; exact c3 s q1 q2 q3 q4
    · by_cases q : y = c
      · rw [q, c71] at q5; omega
      · rw [f69 y q] at q3
        by_cases r : 0 < γ 10 10 ∧ y = γ 73 (γ 10 10 - 1)
        · rcases hP with p | p
          · omega
          · rw [r.2] at q5 q6 q q3 q1 q2 ⊢
            rw [p71 r.1 q] at q5
            by_cases v : j = γ 71 (γ 73 (γ 10 10 - 1))
            · rw [v, p.2.2] at q6
              exact absurd q6.symm q
            · exact c4 _ j q1 q2 q3 q4 (by omega) q6
        · rw [f71 y q (by omega)] at q5
          exact c4 y j q1 q2 q3 q4 q5 q6
