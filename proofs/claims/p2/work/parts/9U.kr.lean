/-! the class: read is safe -/
/-- what a good text leads to, before the program is built -/
theorem w_causesFit {γ : St} (h : TkR γ) (hx : LkX γ (γ 3 9 - 1)) : wp (f_S_causesFit γ) (fun z => (∀ j k, (j < 8 ∧ (j ≠ 1 ∨ k < 6 ∨ 8 < k) ∨ 11 ≤ j ∧ j < 54 ∨ 75 < j) → z.2 j k = γ j k) ∧ (z.1 = 0 ∧ z.2 1 7 ≠ 0 ∨ z.1 = 1 ∧ z.2 1 7 = γ 1 7 ∧ LdI z.2 (γ 32 (γ 3 9 - 1)) ∧ SrI z.2 (γ 32 (γ 3 9 - 1)) (z.2 8 5))) := by
  have hm := hx.1
  unfold f_S_causesFit
  refine wp_chk (by omega) (wp_bnd (w_link hx) (fun r γ1 y => ?_))
  obtain ⟨y1, y2⟩ := y
  have y1 : FrLk γ γ1 := y1
  have y2 : LdI γ1 (γ 32 (γ 3 9 - 1)) := y2
  refine wp_bnd (w_sort y2) (fun r2 γ2 z => ?_)
  obtain ⟨z1, z2, z3, z4⟩ := z
  have z1 : OdF γ1 γ2 := z1
  have z2 : SrI γ2 (γ 32 (γ 3 9 - 1)) (γ1 8 5) := z2
  have e85 : γ2 8 5 = γ1 8 5 := z1 8 5 (by omega) (by omega)
  rw [← e85] at z2
  have f : ∀ j k, (j < 8 ∨ 11 ≤ j ∧ j < 54 ∨ 75 < j) → γ2 j k = γ j k := fun j k q => by rw [z1 j k (by omega) (by omega), y1 j k (by omega)]
  have l2 : LdI γ2 (γ 32 (γ 3 9 - 1)) := by
    have ⟨l1, l2, l3, l4, l5, l6⟩ := y2
    have e : ∀ j k, (j = 8 ∨ 54 ≤ j ∧ j ≤ 62) → γ2 j k = γ1 j k := fun j k q => z1 j k (by omega) (by omega)
    refine ⟨l1, by rw [e 8 5 (by omega)]; exact l2, by rw [e 8 8 (by omega)]; exact l3, by rw [e 8 11 (by omega)]; exact l4, fun s q1 q2 => ?_, fun i q1 q2 => ?_⟩
    · rw [e 8 5 (by omega)] at q2
      exact (l5 s q1 q2).up (fun j _ _ => e j s (by omega)) (Int.le_of_eq (e 8 5 (by omega)).symm) (Int.le_of_eq (e 8 11 (by omega)).symm)
    · rw [e 8 11 (by omega)] at q2
      rw [e 61 i (by omega), e 62 i (by omega), e 8 5 (by omega)]
      exact l6 i q1 q2
  have own := z2.2.2.2.2.2
  have hV := y2.1
  refine wp_ite (fun c => wp_some ⟨fun j k q => f j k (by omega), Or.inr ⟨rfl, f 1 7 (by omega), l2, z2⟩⟩) (fun c => ?_)
  have hT2 : TkR γ2 := h.ext (fun j k q => f j k (by omega))
  refine wp_chk (by omega) (wp_bnd (w_Tk_failAt hT2 (by omega)) (fun r3 γ3 q => ?_))
  obtain ⟨q1, q2, q3, q4, q5⟩ := q
  have q2 : FrC γ2 γ3 := q2
  have q3 : r3 = 0 := q3
  refine wp_ite (fun _ => wp_some ⟨fun j k q => ?_, Or.inl ⟨rfl, q5⟩⟩) (fun c => absurd q3 c)
  show γ3 j k = γ j k
  rw [q2 j k (by omega), f j k (by omega)]
/-- the end of read -/
theorem w_read_b177 {γ : St} {Q : Int × St → Prop} (h1 : 0 ≤ γ 0 12 → Q (γ 8 8, γ)) (h2 : γ 0 12 < 0 → Q (-1, γ)) : wp (f_S_read_b177 γ) Q := by
  unfold f_S_read_b177
  exact wp_ite (fun c => wp_some (h1 c)) (fun c => wp_some (h2 (by omega)))
set_option maxHeartbeats 1000000 in
theorem k_read {c : Int} {γ : St} (h : ClsI c γ) (hc : c < 512) : wp (f_S_read γ) (fun z => ClsI (c + 1) z.2 ∧ z.2 0 10 = 0) := by
  have ⟨b1, b2, b3, b4, b5, b6⟩ := h
  have := FU_v
  unfold f_S_read
  refine wp_sub (wp_sub (wp_sub ?_))
  have u : ∀ j k, setA (setA (setA γ 0 12 (-1)) 0 13 0) 0 14 0 j k = if j = 0 ∧ k = 14 then 0 else if j = 0 ∧ k = 13 then 0 else if j = 0 ∧ k = 12 then -1 else γ j k := fun j k => by rw [stA, stA, stA]
  generalize setA (setA (setA γ 0 12 (-1)) 0 13 0) 0 14 0 = γ1 at *
  have u10 : γ1 0 10 = γ 0 10 := by rw [u]; simp
  rw [u10]
  refine wp_bnd (w_Tk_scan (by omega)) (fun r γ2 y => wp_sub ?_)
  obtain ⟨y1, y2, y3, y4, y5⟩ := y
  have y1 : TkR γ2 := y1
  have y2 : FrT γ1 γ2 := y2
  have y3 : γ2 1 7 = 0 := y3
  have y4 : γ2 1 6 = 0 := y4
  have y5 : ∀ w, 0 ≤ w → w < γ2 2 8 → γ2 22 w = 0 ∧ γ2 23 w = 0 := y5
  unfold f_Nd_begin f_Cd_begin
  refine wp_bs (r := 0) (γ := setA (setA (setA γ2 0 10 0) 3 9 0) 3 15 0) rfl ?_
  refine wp_bs (r := 0) (γ := setA (setA (setA (setA (setA (setA γ2 0 10 0) 3 9 0) 3 15 0) 4 4 0) 4 10 0) 4 12 0) rfl ?_
  have v : ∀ j k, setA (setA (setA (setA (setA (setA γ2 0 10 0) 3 9 0) 3 15 0) 4 4 0) 4 10 0) 4 12 0 j k = if j = 4 ∧ (k = 12 ∨ k = 10 ∨ k = 4) then 0 else if j = 3 ∧ (k = 15 ∨ k = 9) then 0 else if j = 0 ∧ k = 10 then 0 else γ2 j k := fun j k => by
    simp only [stA]
    grind
  generalize setA (setA (setA (setA (setA (setA γ2 0 10 0) 3 9 0) 3 15 0) 4 4 0) 4 10 0) 4 12 0 = γ3 at *
  have vo : ∀ j k, j ≠ 4 → j ≠ 3 → (j ≠ 0 ∨ k ≠ 10) → γ3 j k = γ2 j k := fun j k q1 q2 q3 => by rw [v, if_neg (by omega), if_neg (by omega), if_neg (by omega)]
  have v39 : γ3 3 9 = 0 := by rw [v]; simp
  have v315 : γ3 3 15 = 0 := by rw [v]; simp
  have v44 : γ3 4 4 = 0 := by rw [v]; simp
  have v410 : γ3 4 10 = 0 := by rw [v]; simp
  have v412 : γ3 4 12 = 0 := by rw [v]; simp
  have v010 : γ3 0 10 = 0 := by rw [v]; simp
  have v16 : γ3 1 6 = 0 := by rw [vo 1 6 (by omega) (by omega) (by omega)]; exact y4
  have v17 : γ3 1 7 = 0 := by rw [vo 1 7 (by omega) (by omega) (by omega)]; exact y3
  have o11 : γ3 0 11 = γ 0 11 := by rw [vo 0 11 (by omega) (by omega) (by omega), y2 0 11 (by omega) (by omega) (by omega), u]; simp
  have o12 : γ3 0 12 = -1 := by rw [vo 0 12 (by omega) (by omega) (by omega), y2 0 12 (by omega) (by omega) (by omega), u]; simp
  have o13 : γ3 0 13 = 0 := by rw [vo 0 13 (by omega) (by omega) (by omega), y2 0 13 (by omega) (by omega) (by omega), u]; simp
  have o14 : γ3 0 14 = 0 := by rw [vo 0 14 (by omega) (by omega) (by omega), y2 0 14 (by omega) (by omega) (by omega), u]; simp
  have row : ∀ j k, 24 ≤ j → γ3 j k = γ j k := fun j k q => by rw [vo j k (by omega) (by omega) (by omega), y2 j k (by omega) (by omega) (by omega), u, if_neg (by omega), if_neg (by omega), if_neg (by omega)]
  have hTop : TopI γ3 := by
    refine ⟨y1.ext (fun j k q => vo j k (by omega) (by omega) (by omega)), by omega, by omega, ⟨by omega, by omega, by omega, by rw [v44, v410]; rfl, fun e q1 q2 => by omega, fun q => by omega, fun e q1 q2 => by omega⟩, fun n q1 q2 => by omega, fun w q1 q2 => ?_⟩
    rw [vo 2 8 (by omega) (by omega) (by omega)] at q2
    have := y5 w q1 q2
    rw [v39, vo 22 w (by omega) (by omega) (by omega), vo 23 w (by omega) (by omega) (by omega)]
    omega
  -- where nothing is built
  have bad : ∀ γ4 : St, (∀ j k, (j = 0 ∧ k ≠ 11 ∨ j = 78 ∨ j = 84 ∨ j = 85) → γ4 j k = γ3 j k) → (0 ≤ γ4 0 11 ∧ γ4 0 11 ≤ 30000) → wp (f_S_read_b177 γ4) (fun z => ClsI (c + 1) z.2 ∧ z.2 0 10 = 0) := fun γ4 e e11 => by
    have g12 := e 0 12 (by omega)
    have g10 := e 0 10 (by omega)
    have g13 := e 0 13 (by omega)
    have g14 := e 0 14 (by omega)
    refine w_read_b177 (fun q => by omega) (fun _ => ⟨⟨by omega, by show 0 ≤ γ4 0 10 ∧ γ4 0 10 ≤ _; omega, e11, by show 0 ≤ γ4 0 13 ∧ γ4 0 13 ≤ _ ∧ 0 ≤ γ4 0 14 ∧ γ4 0 14 ≤ _; omega, b5.ext (fun j k q => ?_), Or.inl ⟨by show γ4 0 12 = -1; omega, by show γ4 0 13 = 0; omega, by show γ4 0 14 = 0; omega⟩⟩, by show γ4 0 10 = 0; omega⟩)
    show γ4 j k = γ j k
    rw [e j k (by omega), row j k (by omega)]
  refine w_read_L49 (γ0 := γ3) (fun γ4 q1 q2 => ?_) (fun γ4 q1 q2 q3 q4 => ?_) FU γ3 0 hTop v17 FrX.rf (by omega) (by omega) (by omega) (by omega)
  · unfold f_S_read_b101
    refine wp_ite (fun _ => bad γ4 (fun j k q => q2 j k (by omega)) (by rw [q2 0 11 (by omega)]; omega)) (fun c => absurd q1 c)
  · unfold f_S_read_b101
    refine wp_ite (fun c => absurd q3 c) (fun _ => ?_)
    have t1 := q1.2.1
    have g11 : γ4 0 11 = γ 0 11 := by rw [q4 0 11 (by omega)]; exact o11
    have nd := q1.2.2.2.2.1 (γ4 3 9 - 1) (by omega) (by omega)
    have sz := nd.1.2.2.2.2.2
    have sz1 := sz.1
    have sz2 := sz.2
    have fl : wp (f_S_sizesFit_b54 γ4) (fun z => z.1 = 0 ∧ ∀ j k, j ≠ 1 → z.2 j k = γ4 j k) := by
      unfold f_S_sizesFit_b54
      refine wp_bs (fail_eq q1.1) (wp_some ⟨rfl, fun j k q => ?_⟩)
      exact (fail_T (a := 3) q1.1 (by omega)).2.1 j k (by omega)
    have sf : wp (f_S_sizesFit γ4) (fun z => z.1 = 0 ∧ (∀ j k, j ≠ 1 → z.2 j k = γ4 j k) ∨ z.1 = 1 ∧ γ4 31 (γ4 3 9 - 1) ≤ 3000 ∧ γ4 32 (γ4 3 9 - 1) ≤ 6000 ∧ (0 ≤ z.2 0 11 ∧ z.2 0 11 ≤ 30000) ∧ ∀ j k, (j ≠ 0 ∨ k ≠ 11) → z.2 j k = γ4 j k) := by
      unfold f_S_sizesFit
      refine wp_chk (by omega) (wp_sub (wp_chk (by omega) (wp_sub (wp_ite (fun _ => wp_mono fl (fun z hz => Or.inl hz)) (fun c1 => wp_chk (by omega) (wp_ite (fun _ => wp_mono fl (fun z hz => Or.inl hz)) (fun c2 => wp_chk (by omega) (wp_ite (fun c3 => ?_) (fun _ => wp_mono fl (fun z hz => Or.inl hz))))))))))
      refine wp_chk (by omega) (wp_sub (wp_some (Or.inr ⟨rfl, by omega, by omega, ?_, fun j k q => ?_⟩)))
      · have e : ∀ x, setA γ4 0 11 x 0 11 = x := fun x => by rw [stA, if_pos ⟨rfl, rfl⟩]
        show 0 ≤ setA γ4 0 11 (γ4 0 11 + γ4 31 (γ4 3 9 - 1)) 0 11 ∧ setA γ4 0 11 (γ4 0 11 + γ4 31 (γ4 3 9 - 1)) 0 11 ≤ 30000
        rw [e]; omega
      · show setA γ4 0 11 _ j k = _
        rw [stA, if_neg (by omega)]
    refine wp_bnd sf (fun r5 γ5 y => ?_)
    rcases y with y | y
    · have e0 : r5 = 0 := y.1
      have ye : ∀ j k, j ≠ 1 → γ5 j k = γ4 j k := y.2
      refine wp_ite (fun _ => bad γ5 (fun j k q => by rw [ye j k (by omega)]; exact q4 j k (by omega)) (by rw [ye 0 11 (by omega)]; omega)) (fun c => absurd e0 c)
    · obtain ⟨e1, e31, e32, e11, ye⟩ := y
      have e1 : r5 = 1 := e1
      have e11 : 0 ≤ γ5 0 11 ∧ γ5 0 11 ≤ 30000 := e11
      have ye : ∀ j k, (j ≠ 0 ∨ k ≠ 11) → γ5 j k = γ4 j k := ye
      refine wp_ite (fun c => by omega) (fun _ => ?_)
      have hx4 := q1.lk q2 e31 e32
      have y39 := ye 3 9 (by omega)
      have hT5 : TkR γ5 := q1.1.ext (fun j k q => ye j k (by omega))
      have hx5 : LkX γ5 (γ5 3 9 - 1) := by
        rw [y39]
        have ⟨x1, x2, x3, x4, x5, x6⟩ := hx4
        have z44 := ye 4 4 (by omega)
        have z410 := ye 4 10 (by omega)
        have z412 := ye 4 12 (by omega)
        refine ⟨x1, fun n r1 r2 => ⟨(x2 n r1 r2).1.ext r1 (fun j k _ _ _ _ => ye j k (by omega)) (fun j k _ _ => ye j k (by omega)) (fun j k _ _ _ => ye j k (by omega)) (fun k _ => ye 41 k (by omega)) (fun j k _ _ _ => ye j k (by omega)) (fun k _ => ye 47 k (by omega)) (by omega) (by omega) (by omega), ?_⟩, ?_, by omega, by omega, by omega⟩
        · rw [ye 25 n (by omega), ye 28 n (by omega)]; exact (x2 n r1 r2).2
        · rw [ye 31 _ (by omega), ye 32 _ (by omega)]; exact x3
      refine wp_bnd (w_causesFit hT5 hx5) (fun r6 γ6 w => ?_)
      obtain ⟨w1, w2⟩ := w
      have w1 : ∀ j k, (j < 8 ∧ (j ≠ 1 ∨ k < 6 ∨ 8 < k) ∨ 11 ≤ j ∧ j < 54 ∨ 75 < j) → γ6 j k = γ5 j k := w1
      have g6 : ∀ j k, (j = 0 ∧ k ≠ 11 ∨ j = 78 ∨ j = 84 ∨ j = 85) → γ6 j k = γ3 j k := fun j k q => by rw [w1 j k (by omega), ye j k (by omega), q4 j k (by omega)]
      have g611 : γ6 0 11 = γ5 0 11 := w1 0 11 (by omega)
      rcases w2 with w2 | w2
      · have e0 : r6 = 0 := w2.1
        refine wp_ite (fun _ => bad γ6 g6 (by omega)) (fun c => absurd e0 c)
      · obtain ⟨d1, d2, d3, d4⟩ := w2
        have d1 : r6 = 1 := d1
        have d3 : LdI γ6 (γ5 32 (γ5 3 9 - 1)) := d3
        have d4 : SrI γ6 (γ5 32 (γ5 3 9 - 1)) (γ6 8 5) := d4
        refine wp_ite (fun c => by omega) (fun _ => ?_)
        have k39 : γ6 3 9 = γ4 3 9 := by rw [w1 3 9 (by omega)]; exact y39
        rw [k39]
        refine wp_chk (by omega) (wp_sub ?_)
        have s : ∀ j k, setA γ6 0 12 (γ4 3 9 - 1) j k = if j = 0 ∧ k = 12 then γ4 3 9 - 1 else γ6 j k := fun j k => by rw [stA]
        generalize setA γ6 0 12 (γ4 3 9 - 1) = γ7 at *
        have so : ∀ j k, (j ≠ 0 ∨ k ≠ 12) → γ7 j k = γ6 j k := fun j k q => by rw [s, if_neg (by omega)]
        have s12 : γ7 0 12 = γ4 3 9 - 1 := by rw [s]; simp
        have m : ∀ j, 25 ≤ j → j ≤ 32 → γ7 j (γ4 3 9 - 1) = γ4 j (γ4 3 9 - 1) := fun j r1 r2 => by rw [so j _ (by omega), w1 j _ (by omega), ye j _ (by omega)]
        have m25 := m 25 (by omega) (by omega)
        have m26 := m 26 (by omega) (by omega)
        have m27 := m 27 (by omega) (by omega)
        have m28 := m 28 (by omega) (by omega)
        have nd1 := nd.1.1
        rw [s12, m26, m28]
        refine wp_chk (by omega) (wp_chk (by omega) ?_)
        have hV : γ5 32 (γ5 3 9 - 1) = γ4 32 (γ4 3 9 - 1) := by rw [y39, ye 32 _ (by omega)]
        rw [hV] at d3 d4
        have l7 : LdI γ7 (γ4 32 (γ4 3 9 - 1)) := by
          have ⟨l1, l2, l3, l4, l5, l6⟩ := d3
          refine ⟨l1, by rw [so 8 5 (by omega)]; exact l2, by rw [so 8 8 (by omega)]; exact l3, by rw [so 8 11 (by omega)]; exact l4, fun x r1 r2 => ?_, fun i r1 r2 => ?_⟩
          · rw [so 8 5 (by omega)] at r2
            exact (l5 x r1 r2).up (fun j _ _ => so j x (by omega)) (Int.le_of_eq (so 8 5 (by omega)).symm) (Int.le_of_eq (so 8 11 (by omega)).symm)
          · rw [so 8 11 (by omega)] at r2
            rw [so 61 i (by omega), so 62 i (by omega), so 8 5 (by omega)]
            exact l6 i r1 r2
        have s7 : SrI γ7 (γ4 32 (γ4 3 9 - 1)) (γ7 8 5) := by
          have ⟨a, b, c', d, e, f⟩ := d4
          rw [so 8 5 (by omega)]
          refine ⟨by rw [so 10 11 (by omega)]; exact a, fun i r1 r2 => by rw [so 75 i (by omega)]; exact b i r1 r2, fun w => ?_, fun k r1 r2 => by rw [so 74 k (by omega)]; exact d k r1 r2, by rw [so 10 12 (by omega)]; exact e, by rw [so 10 13 (by omega)]; exact f⟩
          rw [show (fun i => w (γ7 75 i)) = (fun i => w (γ6 75 i)) from funext fun i => by rw [so 75 i (by omega)]]
          exact c' w
        have r7 : RowI γ7 := b5.ext (fun j k q => by rw [so j k (by omega), g6 j k (by omega), row j k (by omega)])
        have vars : γ4 28 (γ4 3 9 - 1) ≤ γ4 32 (γ4 3 9 - 1) := by
          have x2 := sz2.2.2 (by omega)
          have nn := hx4.nn (n := γ4 3 9 - 1) (by omega) (by omega)
          have := sm_nn (f := cvF γ4) (fun i r1 r2 => (nn i r1 r2).2)
          omega
        refine wp_bnd (w_build l7 s7 r7 (by omega) (by omega)) (fun r8 γ8 z => wp_sub ?_)
        obtain ⟨z1, z2, z3, z4⟩ := z
        have z3 : γ8 11 5 = γ4 28 (γ4 3 9 - 1) := z3
        have z1 : PgI γ8 := z1
        have z2 : FrG γ7 γ8 := z2
        have t : ∀ j k, j ≠ 12 → flA γ8 12 0 99 0 j k = γ8 j k := fun j k q => by show (if _ then _ else _) = _; rw [if_neg (by omega)]
        generalize flA γ8 12 0 99 0 = γ9 at *
        have tz : ∀ j k, j ≠ 12 → j ≠ 11 → j ≠ 61 → j ≠ 62 → (j < 76 ∨ 87 < j) → γ9 j k = γ7 j k := fun j k r1 r2 r3 r4 r5 => by rw [t j k r1, z2 j k r2 r3 r4 r5]
        have h12 : γ9 0 12 = γ4 3 9 - 1 := by rw [tz 0 12 (by omega) (by omega) (by omega) (by omega) (by omega)]; exact s12
        have n7 : ∀ k, k ≠ 12 → k ≠ 11 → γ9 0 k = γ3 0 k := fun k r r2 => by rw [tz 0 k (by omega) (by omega) (by omega) (by omega) (by omega), so 0 k (by omega), g6 0 k (by omega)]
        have p10 := n7 10 (by omega) (by omega)
        have p13 := n7 13 (by omega) (by omega)
        have p14 := n7 14 (by omega) (by omega)
        have p11 : γ9 0 11 = γ5 0 11 := by rw [tz 0 11 (by omega) (by omega) (by omega) (by omega) (by omega), so 0 11 (by omega)]; exact g611
        have z9 : PgI γ9 := z1.ext (fun j k q => t j k (by omega))
        have nm : ∀ j, 25 ≤ j → j ≤ 32 → γ9 j (γ4 3 9 - 1) = γ4 j (γ4 3 9 - 1) := fun j r1 r2 => by rw [tz j _ (by omega) (by omega) (by omega) (by omega) (by omega)]; exact m j r1 r2
        have k5 : γ9 11 5 = γ4 28 (γ4 3 9 - 1) := by rw [t 11 5 (by omega)]; exact z3
        refine w_read_b177 (fun _ => ⟨⟨by omega, by show 0 ≤ γ9 0 10 ∧ γ9 0 10 ≤ _; omega, by show 0 ≤ γ9 0 11 ∧ γ9 0 11 ≤ _; omega, by show 0 ≤ γ9 0 13 ∧ γ9 0 13 ≤ _ ∧ 0 ≤ γ9 0 14 ∧ γ9 0 14 ≤ _; omega, z9.1, Or.inr ⟨?_, z9, ?_, ?_, ?_⟩⟩, by show γ9 0 10 = 0; omega⟩) (fun q => by omega)
        · show 0 ≤ γ9 0 12 ∧ γ9 0 12 < 59; omega
        · show AskI (c + 1) γ9
          have ⟨a, b, c', d, e, f⟩ := s7
          refine ⟨by rw [tz 10 12 (by omega) (by omega) (by omega) (by omega) (by omega), e]; omega, fun x r1 r2 => ?_⟩
          rw [tz 8 5 (by omega) (by omega) (by omega) (by omega) (by omega)] at r2
          rw [tz 74 x (by omega) (by omega) (by omega) (by omega) (by omega), tz 10 12 (by omega) (by omega) (by omega) (by omega) (by omega), d x r1 r2, e]
          omega
        · show 0 ≤ γ9 26 (γ9 0 12) ∧ 0 ≤ γ9 27 (γ9 0 12) ∧ γ9 26 (γ9 0 12) + γ9 27 (γ9 0 12) ≤ γ9 28 (γ9 0 12) ∧ γ9 28 (γ9 0 12) ≤ 99 ∧ 0 ≤ γ9 25 (γ9 0 12) ∧ γ9 25 (γ9 0 12) + γ9 28 (γ9 0 12) ≤ 5841
          rw [h12, nm 25 (by omega) (by omega), nm 26 (by omega) (by omega), nm 27 (by omega) (by omega), nm 28 (by omega) (by omega)]
          omega
        · show γ9 11 5 = γ9 28 (γ9 0 12)
          rw [h12, nm 28 (by omega) (by omega)]
          exact k5
