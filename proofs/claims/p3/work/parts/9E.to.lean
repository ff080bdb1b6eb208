/-! the class's linker: operators -/
/-- what the state before a take (the part is counted) is to the frame's state -/
def PrS (γ γ1 : St) (f : Int) : Prop := ∀ j k, γ1 j k = if j = 67 ∧ k = f then γ 67 f + 1 else γ j k
set_option maxHeartbeats 4000000 in
theorem w_op_tail {γ0 γ γ8 : St} {m f : Int} (hx : LkX γ0 m) (h : LkI γ0 m γ) (hf : f = γ 9 8 - 1) (h0 : 0 ≤ f) (hq : γ 66 f < enF γ0 γ f) (hp : γ 67 f < γ0 44 (γ 66 f)) {s T kd oc v0 v1 v2 : Int} (hkd : kd = γ0 38 (γ 67 f)) (hk : kd ≠ 43 ∧ kd ≠ 2 ∧ kd ≠ 3) (hs : s = γ 8 5) (hT : T = γ 9 10 - γ0 40 (γ 67 f)) (h40 : 1 ≤ γ0 40 (γ 67 f)) (hoc : 0 ≤ oc ∧ oc ≤ 2 * γ0 32 m) (hv0 : 0 ≤ v0 ∧ v0 < s) (hv1 : -1 ≤ v1 ∧ v1 < s) (hv2 : -1 ≤ v2 ∧ v2 < s) (h37 : kd = 37 → 0 ≤ v1)
    (o8 : ∀ j k, γ8 j k = if j = 56 ∧ k = s then v1 else if j = 55 ∧ k = s then v0 else if j = 8 ∧ k = 5 then s + 1 else if j = 57 ∧ k = s then -1 else if j = 58 ∧ k = s then γ 8 11 else if j = 54 ∧ k = s then kd else if j = 9 ∧ k = 10 then T else if j = 67 ∧ k = f then γ 67 f + 1 else γ j k) : wp (f_Lk_takeOperator_b135 γ8 kd oc s v2 s) (fun z => LkQ γ0 m γ z.2) := by
  have tp := h.tp hx hf h0 hq
  have tp1 := tp.1 hp
  have ⟨b1, b2, b3, b4, b5, b6, b7⟩ := h.2.2.1
  have hV := hx.2.2.1
  unfold f_Lk_takeOperator_b135
  refine wp_chk (by omega) (wp_sub ?_)
  have o9 : ∀ j k, setA γ8 57 s v2 j k = if j = 57 ∧ k = s then v2 else if j = 56 ∧ k = s then v1 else if j = 55 ∧ k = s then v0 else if j = 8 ∧ k = 5 then s + 1 else if j = 58 ∧ k = s then γ 8 11 else if j = 54 ∧ k = s then kd else if j = 9 ∧ k = 10 then T else if j = 67 ∧ k = f then γ 67 f + 1 else γ j k := fun j k => by
    rw [stA, o8]
    by_cases q : j = 57 ∧ k = s
    · rw [if_pos q, if_pos q]
    · rw [if_neg q, if_neg q, if_neg q]
  generalize setA γ8 57 s v2 = γ9 at *
  have p55 : γ9 55 s = v0 := by rw [o9]; simp
  have p56 : γ9 56 s = v1 := by rw [o9]; simp
  have p811 : γ9 8 11 = γ 8 11 := by rw [o9]; simp
  have p912 : γ9 9 12 = γ0 32 m := by rw [o9]; simp; omega
  have p910 : γ9 9 10 = T := by rw [o9]; simp
  -- the push at the end
  have fin : ∀ γa : St, ∀ w55 w56 cc, (-1 ≤ w55 ∧ w55 < s) → (-1 ≤ w56 ∧ w56 < s) → (γ 8 11 ≤ cc ∧ cc ≤ γ 8 11 + 2) → ((kd = 18 ∨ kd = 35 ∨ kd = 36) → γ 8 11 < cc) → (kd = 37 → γ 8 11 + 1 < cc) → (∀ j k, (j = 61 ∨ j = 62) ∧ γ 8 11 ≤ k ∨ γa j k = if j = 55 ∧ k = s then w55 else if j = 56 ∧ k = s then w56 else if j = 8 ∧ k = 11 then cc else γ9 j k) → (∀ i, γ 8 11 ≤ i → i < cc → (0 ≤ γa 61 i ∧ γa 61 i < s + 1) ∧ 0 ≤ γa 62 i ∧ γa 62 i ≤ 2 * γ0 32 m) → wp (f_Lk_takeOperator_b289 γa s) (fun z => LkQ γ0 m γ z.2) := by
    intro γa w55 w56 cc a1 a2 a3 a4 a5 a6 a7
    have r : ∀ j k, (j ≠ 61 ∧ j ≠ 62 ∨ k < γ 8 11) → γa j k = if j = 55 ∧ k = s then w55 else if j = 56 ∧ k = s then w56 else if j = 8 ∧ k = 11 then cc else γ9 j k := fun j k q => by
      rcases a6 j k with y | y
      · exfalso; omega
      · exact y
    have r10 : γa 9 10 = T := by rw [r 9 10 (by omega)]; simp; exact p910
    unfold f_Lk_takeOperator_b289
    refine wp_bs (lpush_eq (by omega)) (wp_some ?_)
    rw [r10]
    generalize hh : setA (setA γa 68 T s) 9 10 (T + 1) = γf
    have ff : ∀ j k, γf j k = if j = 9 ∧ k = 10 then T + 1 else if j = 68 ∧ k = T then s else γa j k := fun j k => by rw [← hh, stA, stA]
    have fo : ∀ j k, (j ≠ 9 ∨ k ≠ 10) → (j ≠ 68 ∨ k ≠ T) → γf j k = γa j k := fun j k q1 q2 => by rw [ff, if_neg (by omega), if_neg (by omega)]
    have c85 : γf 8 5 = s + 1 := by rw [fo 8 5 (by omega) (by omega), r 8 5 (by omega)]; simp; rw [o9]; simp
    have c811 : γf 8 11 = cc := by rw [fo 8 11 (by omega) (by omega), r 8 11 (by omega)]; simp
    have c54 : γf 54 s = kd := by rw [fo 54 s (by omega) (by omega), r 54 s (by omega)]; simp; rw [o9]; simp
    have c55 : γf 55 s = w55 := by rw [fo 55 s (by omega) (by omega), r 55 s (by omega)]; simp
    have c56 : γf 56 s = w56 := by rw [fo 56 s (by omega) (by omega), r 56 s (by omega)]; simp
    have c57 : γf 57 s = v2 := by rw [fo 57 s (by omega) (by omega), r 57 s (by omega)]; simp; rw [o9]; simp
    have c58 : γf 58 s = γ 8 11 := by rw [fo 58 s (by omega) (by omega), r 58 s (by omega)]; simp; rw [o9]; simp
    refine one_fin (s := s) (T := T) (C := γ 8 11) hx h hf h0 hq hp (by omega) hs hT rfl (fun j k q1 q2 q3 q4 q5 q6 => ?_) ?_ ?_ (Or.inr ⟨c85, ?_⟩) (by show γ 8 11 ≤ γf 8 11 ∧ γf 8 11 ≤ γ 8 11 + 2; omega) ?_ (fun i q1 q2 => ?_)
    · show γf j k = γ j k
      rw [fo j k q1 q5, r j k (by omega), if_neg (by omega), if_neg (by omega), if_neg (by omega), o9]; repeat rw [if_neg (by omega)]
    · show γf 67 f = _
      rw [fo 67 f (by omega) (by omega), r 67 f (by omega)]; simp; rw [o9]; simp
    · show γf 9 10 = _; rw [ff]; simp
    · show SlI _ γf s
      refine ⟨by omega, by omega, by omega, fun q => by omega, fun q => by omega, fun q => ?_, fun q => ?_, fun q => by omega⟩
      · have := a4 (by omega); omega
      · have := a5 (by omega); omega
    · show 0 ≤ γf 68 T ∧ γf 68 T < γf 8 5
      have : γf 68 T = s := by rw [ff]; simp
      omega
    · have q2 : i < γf 8 11 := q2
      have y := a7 i q1 (by omega)
      show (0 ≤ γf 61 i ∧ γf 61 i < γf 8 5) ∧ 0 ≤ γf 62 i ∧ γf 62 i ≤ 2 * γ0 32 m
      rw [fo 61 i (by omega) (by omega), fo 62 i (by omega) (by omega), c85]
      exact y
  refine wp_ite (fun c1 => wp_ite (fun c2 => wp_ite (fun c3 => wp_ite (fun c4 => ?_) (fun c4 => ?_)) (fun c3 => ?_)) (fun c2 => ?_)) (fun c1 => ?_)
  · -- plain
    refine fin γ9 v0 v1 (γ 8 11) (by omega) hv1 (by omega) (fun q => by omega) (fun q => by omega) (fun j k => Or.inr ?_) (fun i q1 q2 => by omega)
    by_cases q : j = 55 ∧ k = s
    · rw [if_pos q, q.1, q.2]; exact p55
    · by_cases q2 : j = 56 ∧ k = s
      · rw [if_neg q, if_pos q2, q2.1, q2.2]; exact p56
      · by_cases q3 : j = 8 ∧ k = 11
        · rw [if_neg q, if_neg q2, if_pos q3, q3.1, q3.2]; exact p811
        · rw [if_neg q, if_neg q2, if_neg q3]
  · -- current
    rw [p55]
    refine wp_chk (by omega) (wp_bs (acell_eq (by omega)) ?_)
    rw [p811]
    refine wp_bnd (w_slotOfC (V := γ0 32 m) hoc (by omega)) (fun r γ2 y => ?_)
    obtain ⟨y0, y1, y2⟩ := y
    have y0 : γ2 = _ := y0
    have y1 : -1 ≤ r := y1
    have y2 : r < γ0 32 m ∨ r = -1 := y2
    subst y0
    refine wp_chk (by omega) (wp_sub ?_)
    refine fin _ v0 r (γ 8 11 + 1) (by omega) (by omega) (by omega) (fun q => by omega) (fun q => by omega) (fun j k => ?_) (fun i q1 q2 => ?_)
    · by_cases q : (j = 61 ∨ j = 62) ∧ γ 8 11 ≤ k
      · exact Or.inl q
      · refine Or.inr ?_
        simp only [stA]
        by_cases q1 : j = 55 ∧ k = s
        · rw [if_pos q1, if_neg (by omega), if_neg (by omega), if_neg (by omega), if_neg (by omega), q1.1, q1.2]; exact p55
        · by_cases q2 : j = 56 ∧ k = s
          · rw [if_pos q2, if_neg q1, if_pos q2]
          · rw [if_neg q2, if_neg q1, if_neg q2]
            by_cases q3 : j = 8 ∧ k = 11
            · rw [if_pos q3, if_pos q3]
            · rw [if_neg q3, if_neg q3, if_neg (by omega), if_neg (by omega)]
    · have : i = γ 8 11 := by omega
      subst this
      simp [stA]
      omega
  · -- fby
    rw [p912]
    refine wp_bs (acell_eq (by omega)) (wp_chk (by omega) ?_)
    rw [p811]
    have t56 : setA (setA (setA γ9 61 (γ 8 11) (γ0 32 m)) 62 (γ 8 11) oc) 8 11 (γ 8 11 + 1) 56 s = v1 := by simp [stA]; exact p56
    have t811 : setA (setA (setA γ9 61 (γ 8 11) (γ0 32 m)) 62 (γ 8 11) oc) 8 11 (γ 8 11 + 1) 8 11 = γ 8 11 + 1 := by simp [stA]
    rw [t56]
    refine wp_bs (acell_eq (by omega)) (wp_chk (by omega) (wp_sub ?_))
    rw [t811]
    have v37 := h37 (by omega)
    refine fin _ v0 (-1) (γ 8 11 + 1 + 1) (by omega) (by omega) (by omega) (fun q => by omega) (fun q => by omega) (fun j k => ?_) (fun i q1 q2 => ?_)
    · by_cases q : (j = 61 ∨ j = 62) ∧ γ 8 11 ≤ k
      · exact Or.inl q
      · refine Or.inr ?_
        simp only [stA]
        by_cases q1 : j = 55 ∧ k = s
        · rw [if_pos q1]; repeat rw [if_neg (by omega)]
          rw [q1.1, q1.2]; exact p55
        · by_cases q2 : j = 56 ∧ k = s
          · rw [if_pos q2, if_neg q1, if_pos q2]
          · rw [if_neg q2, if_neg q1, if_neg q2]
            by_cases q3 : j = 8 ∧ k = 11
            · rw [if_pos q3, if_pos q3]
            · rw [if_neg q3, if_neg q3]; repeat rw [if_neg (by omega)]
    · by_cases q : i = γ 8 11
      · subst q
        simp [stA]
        omega
      · have : i = γ 8 11 + 1 := by omega
        subst this
        simp [stA]
        omega
  · -- arrow
    rw [p912]
    refine wp_bs (acell_eq (by omega)) ?_
    rw [p811]
    refine fin _ v0 v1 (γ 8 11 + 1) (by omega) (by omega) (by omega) (fun q => by omega) (fun q => by omega) (fun j k => ?_) (fun i q1 q2 => ?_)
    · by_cases q : (j = 61 ∨ j = 62) ∧ γ 8 11 ≤ k
      · exact Or.inl q
      · refine Or.inr ?_
        simp only [stA]
        by_cases q1 : j = 55 ∧ k = s
        · rw [if_pos q1]; repeat rw [if_neg (by omega)]
          rw [q1.1, q1.2]; exact p55
        · by_cases q2 : j = 56 ∧ k = s
          · rw [if_neg q1, if_pos q2]; repeat rw [if_neg (by omega)]
            rw [q2.1, q2.2]; exact p56
          · rw [if_neg q1, if_neg q2]
            by_cases q3 : j = 8 ∧ k = 11
            · rw [if_pos q3, if_pos q3]
            · rw [if_neg q3, if_neg q3]; repeat rw [if_neg (by omega)]
    · have : i = γ 8 11 := by omega
      subst this
      simp [stA]
      omega
  · -- pre
    rw [p55]
    refine wp_chk (by omega) (wp_bs (acell_eq (by omega)) (wp_chk (by omega) (wp_sub ?_)))
    rw [p811]
    refine fin _ (-1) v1 (γ 8 11 + 1) (by omega) (by omega) (by omega) (fun q => by omega) (fun q => by omega) (fun j k => ?_) (fun i q1 q2 => ?_)
    · by_cases q : (j = 61 ∨ j = 62) ∧ γ 8 11 ≤ k
      · exact Or.inl q
      · refine Or.inr ?_
        simp only [stA]
        by_cases q1 : j = 55 ∧ k = s
        · rw [if_pos q1, if_pos q1]
        · by_cases q2 : j = 56 ∧ k = s
          · rw [if_neg q1, if_neg q1, if_pos q2]; repeat rw [if_neg (by omega)]
            rw [q2.1, q2.2]; exact p56
          · rw [if_neg q1, if_neg q1, if_neg q2]
            by_cases q3 : j = 8 ∧ k = 11
            · rw [if_pos q3, if_pos q3]
            · rw [if_neg q3, if_neg q3]; repeat rw [if_neg (by omega)]
    · have : i = γ 8 11 := by omega
      subst this
      simp [stA]
      omega
set_option maxHeartbeats 2000000 in
theorem w_takeOperator {γ0 γ γ1 : St} {m f : Int} (hx : LkX γ0 m) (h : LkI γ0 m γ) (hf : f = γ 9 8 - 1) (h0 : 0 ≤ f) (hq : γ 66 f < enF γ0 γ f) (hp : γ 67 f < γ0 44 (γ 66 f)) (hk : γ0 38 (γ 67 f) ≠ 43 ∧ γ0 38 (γ 67 f) ≠ 2 ∧ γ0 38 (γ 67 f) ≠ 3 ∧ γ0 38 (γ 67 f) ≠ 27 ∧ γ0 38 (γ 67 f) ≠ 40 ∧ γ0 38 (γ 67 f) ≠ 41) (h1 : PrS γ γ1 f) : wp (f_Lk_takeOperator γ1 f (γ 67 f) (γ0 38 (γ 67 f))) (fun z => LkQ γ0 m γ z.2) := by
  have tp := h.tp hx hf h0 hq
  have tp1 := tp.1 hp
  have ⟨b1, b2, b3, b4, b5, b6, b7⟩ := h.2.2.1
  have hV := hx.2.2.1
  have ⟨w1, w2, hn, w3, w4⟩ := h.top hx hf h0 hq
  have ⟨g1, g2, g3, g4, g5, g6, g7⟩ := h.2.1 f h0 (by omega)
  have g5 := g5 hq
  have pt := w1.2.2.2.2.2 (γ 67 f) g5.1 hp
  have w11 := w1.1
  have cd := (w2.1 (γ 67 f) g5.1 hp).2
  have pnn := hx.pn hn.1 hn.2
  have c44 := hx.2.2.2.1
  have s3 : 1 ≤ γ0 40 (γ 67 f) ∧ γ0 40 (γ 67 f) ≤ 3 ∧ (γ0 38 (γ 67 f) = 37 → γ0 40 (γ 67 f) = 2) := by
    have := pt.1
    unfold sdK at this
    omega
  have e : ∀ j k, (j ≠ 67 ∨ k ≠ f) → γ1 j k = γ j k := fun j k q => by rw [h1, if_neg (by omega)]
  have hF1 : ∀ j k, (j < 8 ∨ 10 ≤ j ∧ j < 54 ∨ 68 < j) → γ1 j k = γ0 j k := fun j k q => by rw [e j k (by omega)]; exact h.1 j k q
  have hm := hx.1
  have st := h.2.2.2.1
  unfold f_Lk_takeOperator
  rw [hF1 40 _ (by omega), hF1 41 _ (by omega)]
  refine wp_chk (by omega) (wp_sub (wp_chk (by omega) ?_))
  refine wp_bnd (w_putIn hx (by rw [e 64 f (by omega)]; omega) (by rw [e 65 f (by omega)]; omega) (by omega) (by omega)) (fun oc γ2 y => ?_)
  obtain ⟨y0, y1, y2⟩ := y
  have y0 : γ2 = γ1 := y0
  have y1 : 0 ≤ oc := y1
  have y2 : oc = γ1 65 f ∨ 0 ≤ γ0 41 (γ 67 f) ∧ oc = 1 + 2 * γ1 64 f + γ0 41 (γ 67 f) := y2
  rw [e 65 f (by omega), e 64 f (by omega)] at y2
  subst y0
  have e10 := e 9 10 (by omega)
  have e811 := e 8 11 (by omega)
  have e85 := e 8 5 (by omega)
  rw [e10]
  refine wp_chk (by omega) (wp_sub ?_)
  have a85 : setA γ2 9 10 (γ 9 10 - γ0 40 (γ 67 f)) 8 5 = γ 8 5 := by rw [stA, if_neg (by omega)]; exact e85
  have a811 : setA γ2 9 10 (γ 9 10 - γ0 40 (γ 67 f)) 8 11 = γ 8 11 := by rw [stA, if_neg (by omega)]; exact e811
  rw [a811]
  refine wp_bs (sadd_eq (by omega)) ?_
  rw [a85]
  generalize hh : setA (setS (setA γ2 9 10 (γ 9 10 - γ0 40 (γ 67 f))) (γ 8 5) (γ0 38 (γ 67 f)) (γ 8 11)) 8 5 (γ 8 5 + 1) = γ3
  have u0 : ∀ j k, γ3 j k = if j = 8 ∧ k = 5 then γ 8 5 + 1 else if j = 57 ∧ k = γ 8 5 then -1 else if j = 56 ∧ k = γ 8 5 then -1 else if j = 55 ∧ k = γ 8 5 then -1 else if j = 58 ∧ k = γ 8 5 then γ 8 11 else if j = 54 ∧ k = γ 8 5 then γ0 38 (γ 67 f) else if j = 9 ∧ k = 10 then γ 9 10 - γ0 40 (γ 67 f) else γ2 j k := fun j k => by rw [← hh, stA, setS_v, stA]
  have u10 : γ3 9 10 = γ 9 10 - γ0 40 (γ 67 f) := by rw [u0]; simp
  have u68 : ∀ k, γ3 68 k = γ 68 k := fun k => by rw [u0]; simp; exact e 68 k (by omega)
  have st0 := st (γ 9 10 - γ0 40 (γ 67 f)) (by omega) (by omega)
  rw [u10, u68]
  refine wp_chk (by omega) (wp_chk (by omega) (wp_sub ?_))
  have v10 : setA γ3 55 (γ 8 5) (γ 68 (γ 9 10 - γ0 40 (γ 67 f))) 9 10 = γ 9 10 - γ0 40 (γ 67 f) := by rw [stA, if_neg (by omega)]; exact u10
  have v68 : ∀ k, setA γ3 55 (γ 8 5) (γ 68 (γ 9 10 - γ0 40 (γ 67 f))) 68 k = γ 68 k := fun k => by rw [stA, if_neg (by omega)]; exact u68 k
  have key : ∀ x1 x2, (-1 ≤ x1 ∧ x1 < γ 8 5) → (-1 ≤ x2 ∧ x2 < γ 8 5) → (γ0 38 (γ 67 f) = 37 → 0 ≤ x1) → wp (f_Lk_takeOperator_b135 (setA (setA γ3 55 (γ 8 5) (γ 68 (γ 9 10 - γ0 40 (γ 67 f)))) 56 (γ 8 5) x1) (γ0 38 (γ 67 f)) oc (γ 8 5) x2 (γ 8 5)) (fun z => LkQ γ0 m γ z.2) := by
    intro x1 x2 hx1 hx2 hx3
    refine w_op_tail (v0 := γ 68 (γ 9 10 - γ0 40 (γ 67 f))) (T := γ 9 10 - γ0 40 (γ 67 f)) hx h hf h0 hq hp rfl ⟨hk.1, hk.2.1, hk.2.2.1⟩ rfl rfl s3.1 (by omega) (by omega) hx1 hx2 hx3 (fun j k => ?_)
    rw [stA, stA, u0, h1]
    by_cases q1 : j = 56 ∧ k = γ 8 5
    · simp only [if_pos q1]
    · by_cases q2 : j = 55 ∧ k = γ 8 5
      · simp only [if_neg q1, if_pos q2]
      · simp only [if_neg q1, if_neg q2]
  have b104 : ∀ x1, (-1 ≤ x1 ∧ x1 < γ 8 5) → (γ0 38 (γ 67 f) = 37 → 0 ≤ x1) → wp (f_Lk_takeOperator_b104 (setA γ3 55 (γ 8 5) (γ 68 (γ 9 10 - γ0 40 (γ 67 f)))) (γ0 38 (γ 67 f)) (γ0 40 (γ 67 f)) oc (γ 8 5) x1 (γ 8 5)) (fun z => LkQ γ0 m γ z.2) := by
    intro x1 hx1 hx3
    unfold f_Lk_takeOperator_b104
    refine wp_chk (by omega) (wp_sub (wp_ite (fun _ => key x1 (-1) hx1 (by omega) hx3) (fun c => ?_)))
    have z10 : setA (setA γ3 55 (γ 8 5) (γ 68 (γ 9 10 - γ0 40 (γ 67 f)))) 56 (γ 8 5) x1 9 10 = γ 9 10 - γ0 40 (γ 67 f) := by rw [stA, if_neg (by omega)]; exact v10
    have z68 : ∀ k, setA (setA γ3 55 (γ 8 5) (γ 68 (γ 9 10 - γ0 40 (γ 67 f)))) 56 (γ 8 5) x1 68 k = γ 68 k := fun k => by rw [stA, if_neg (by omega)]; exact v68 k
    have st2 := st (γ 9 10 - γ0 40 (γ 67 f) + 2) (by omega) (by omega)
    rw [z10, z68]
    exact wp_chk (by omega) (wp_chk (by omega) (key x1 _ hx1 (by omega) hx3))
  refine wp_ite (fun c => b104 (-1) (by omega) (fun q => by omega)) (fun c => ?_)
  have st1 := st (γ 9 10 - γ0 40 (γ 67 f) + 1) (by omega) (by omega)
  rw [v10, v68]
  exact wp_chk (by omega) (wp_chk (by omega) (b104 _ (by omega) (fun _ => st1.1)))
