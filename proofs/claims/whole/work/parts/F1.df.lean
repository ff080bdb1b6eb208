/-! equality: where the class's variables are defined -/
def DvI (n b E0 : Int) (γ0 γ : St) (E : Int) : Prop := (γ 3 9 = n ∧ γ 25 n = b) ∧ (∀ v, v < b → γ 37 v = γ0 37 v) ∧ (∀ k, k < E0 → γ 42 k = γ0 42 k) ∧ E0 ≤ γ 4 10 ∧ ∀ k i, E0 ≤ k → k < E → γ 45 k ≤ i → i < γ 45 k + γ 46 k → i < γ 4 12 → ∃ k' i', (E0 ≤ k' ∧ k' < E) ∧ (γ 45 k' ≤ i' ∧ i' < γ 45 k' + γ 46 k' ∧ i' < γ 4 12) ∧ γ 47 i' = γ 47 i ∧ γ 37 (b + γ 47 i) = γ 42 k'
theorem DvI.fr {n b E0 E : Int} {γ0 γ γ' : St} (h : DvI n b E0 γ0 γ E) (f : ∀ j k, (j = 3 ∧ k = 9 ∨ j = 25 ∨ j = 37 ∨ j = 42 ∨ 45 ≤ j ∧ j ≤ 47 ∨ j = 4 ∧ (k = 10 ∨ k = 12)) → γ' j k = γ j k) : DvI n b E0 γ0 γ' E := by
  obtain ⟨h1, h2, h3, h4, h5⟩ := h
  refine ⟨by rw [f 3 9 (by omega), f 25 n (by omega)]; exact h1, fun v q => by rw [f 37 v (by omega)]; exact h2 v q, fun k q => by rw [f 42 k (by omega)]; exact h3 k q, by rw [f 4 10 (by omega)]; exact h4, fun k i q1 q2 q3 q4 q5 => ?_⟩
  rw [f 45 k (by omega)] at q3 q4
  rw [f 46 k (by omega)] at q4
  rw [f 4 12 (by omega)] at q5
  obtain ⟨k', i', a1, a2, a3, a4⟩ := h5 k i q1 q2 q3 q4 q5
  exact ⟨k', i', a1, by rw [f 45 k' (by omega), f 46 k' (by omega), f 4 12 (by omega)]; exact a2, by rw [f 47 _ (by omega), f 47 _ (by omega)]; exact a3, by rw [f 47 _ (by omega), f 37 _ (by omega), f 42 _ (by omega)]; exact a4⟩
theorem step_r {γ : St} : pc (f_Tk_step γ) (fun z => ∀ j k, j ≠ 1 → z.2 j k = γ j k) := by
  unfold f_Tk_step
  exact pc_c (fun _ => pc_i (fun _ => pc_s (fun _ _ _ => rfl)) (fun _ => pc_c (fun _ => pc_a (pc_s (fun j k q => by show setA γ 1 6 _ j k = _; rw [stA, if_neg (by omega)])))))
theorem fail_r {γ : St} {a : Int} : pc (f_Tk_fail γ a) (fun z => z.1 = 0 ∧ ∀ j k, j ≠ 1 → z.2 j k = γ j k) := by
  unfold f_Tk_fail
  exact pc_i (fun _ => pc_s ⟨rfl, fun _ _ _ => rfl⟩) (fun _ => pc_a (pc_c (fun _ => pc_a (pc_s ⟨rfl, fun j k q => by show setA (setA γ 1 7 a) 1 8 _ j k = _; rw [stA, if_neg (by omega), stA, if_neg (by omega)]⟩))))
theorem expect_r {γ : St} {a : Int} : pc (f_Tk_expect γ a) (fun z => ∀ j k, j ≠ 1 → z.2 j k = γ j k) := by
  unfold f_Tk_expect
  exact pc_c (fun _ => pc_i (fun _ => pc_b step_r (fun r γ' w => pc_s w)) (fun _ => pc_b fail_r (fun r γ' w => pc_s w.2)))
/-- one left side -/
theorem dv_left {n b E0 : Int} {γ0 γ : St} (h : LfI γ) (d : DvI n b E0 γ0 γ (γ 4 10 + 1)) : pc (f_Nr_readLeft γ) (fun z => z.1 ≠ 0 → LfI z.2 ∧ z.2 4 10 = γ 4 10 ∧ DvI n b E0 γ0 z.2 (z.2 4 10 + 1)) := by
  have wl := (w_readLeft h).pc
  have h26 : 0 ≤ γ 26 n := by have := h.1.2.2.2.2.2.1.1; rw [d.1.1] at this; exact this
  have h45 := h.2.2.1
  have main : pc (f_Nr_readLeft γ) (fun z => z.1 ≠ 0 → ∃ r, 0 ≤ r ∧ ∀ j k, j ≠ 1 → z.2 j k = if j = 46 ∧ k = γ 4 10 then γ 46 (γ 4 10) + 1 else if j = 4 ∧ k = 12 then γ 4 12 + 1 else if j = 47 ∧ k = γ 4 12 then r else if j = 37 ∧ k = b + r then γ 42 (γ 4 10) else if j = 36 ∧ k = b + r then γ 36 (b + r) + 1 else γ j k) := by
    unfold f_Nr_readLeft
    refine pc_b kind_pc (fun r2 γ3 e => ?_)
    cases e
    refine pc_i (fun q => ?_) (fun q => pc_b fail_r (fun r γ' w => pc_s (fun w2 => absurd w.1 w2)))
    refine pc_b vNow_pc (fun r5 γ6 w => ?_)
    have e6 : γ6 = γ := w.1
    rw [e6]
    refine pc_c (fun _ => pc_i (fun q2 => ?_) (fun q2 => pc_b fail_r (fun r γ' w => pc_s (fun w2 => absurd w.1 w2))))
    rw [d.1.1] at q2 ⊢
    rw [d.1.2]
    refine pc_c (fun _ => pc_c (fun _ => pc_a (pc_c (fun _ => pc_c (fun _ => pc_c (fun _ => pc_a ?_))))))
    have s1 : ∀ j k, setA γ 36 (b + r5) (γ 36 (b + r5) + 1) j k = if j = 36 ∧ k = b + r5 then γ 36 (b + r5) + 1 else γ j k := fun j k => by rw [stA]
    generalize setA γ 36 (b + r5) (γ 36 (b + r5) + 1) = γa at *
    have a1 : γa 4 10 = γ 4 10 := by rw [s1, if_neg (by omega)]
    have a2 : γa 42 (γ 4 10) = γ 42 (γ 4 10) := by rw [s1, if_neg (by omega)]
    rw [a1, a2]
    refine pc_c (fun _ => pc_c (fun _ => pc_a ?_))
    have s2 : ∀ j k, setA γa 37 (b + r5) (γ 42 (γ 4 10)) j k = if j = 37 ∧ k = b + r5 then γ 42 (γ 4 10) else γa j k := fun j k => by rw [stA]
    generalize setA γa 37 (b + r5) (γ 42 (γ 4 10)) = γb at *
    have b0 : ∀ j k, j ≠ 36 → j ≠ 37 → γb j k = γ j k := fun j k w1 w2 => by rw [s2, if_neg (by omega), s1, if_neg (by omega)]
    refine pc_b addLeft_pc (fun r γc e => ?_)
    cases e
    refine pc_b step_r (fun r γd w => pc_s (fun _ => ⟨r5, by omega, fun j k q3 => ?_⟩))
    show γd j k = _
    have w : ∀ j k, j ≠ 1 → γd j k = alS γb r5 j k := w
    rw [w j k q3]
    unfold alS
    rw [b0 4 10 (by omega) (by omega), b0 46 _ (by omega) (by omega), b0 4 12 (by omega) (by omega), s2, s1]
  intro z hz hz0
  obtain ⟨r, r0, s⟩ := main z hz hz0
  have L : LfI z.2 := by
    rcases wl z hz with w | w
    · exact absurd w.1 hz0
    · exact w.2.1
  have e10 : z.2 4 10 = γ 4 10 := by rw [s 4 10 (by omega), if_neg (by omega), if_neg (by omega), if_neg (by omega), if_neg (by omega), if_neg (by omega)]
  have e12 : z.2 4 12 = γ 4 12 + 1 := by rw [s 4 12 (by omega), if_neg (by omega), if_pos ⟨rfl, rfl⟩]
  have o45 : ∀ k, z.2 45 k = γ 45 k := fun k => by rw [s 45 k (by omega), if_neg (by omega), if_neg (by omega), if_neg (by omega), if_neg (by omega), if_neg (by omega)]
  have o42 : ∀ k, z.2 42 k = γ 42 k := fun k => by rw [s 42 k (by omega), if_neg (by omega), if_neg (by omega), if_neg (by omega), if_neg (by omega), if_neg (by omega)]
  have o46 : ∀ k, z.2 46 k = if k = γ 4 10 then γ 46 (γ 4 10) + 1 else γ 46 k := fun k => by
    by_cases q : k = γ 4 10
    · rw [if_pos q, s 46 k (by omega), if_pos ⟨rfl, q⟩]
    · rw [if_neg q, s 46 k (by omega), if_neg (by omega), if_neg (by omega), if_neg (by omega), if_neg (by omega), if_neg (by omega)]
  have o47 : ∀ i, i ≠ γ 4 12 → z.2 47 i = γ 47 i := fun i q => by rw [s 47 i (by omega), if_neg (by omega), if_neg (by omega), if_neg (by omega), if_neg (by omega), if_neg (by omega)]
  have n47 : z.2 47 (γ 4 12) = r := by rw [s 47 _ (by omega), if_neg (by omega), if_neg (by omega), if_pos ⟨rfl, rfl⟩]
  have o37 : ∀ v, v ≠ b + r → z.2 37 v = γ 37 v := fun v q => by rw [s 37 v (by omega), if_neg (by omega), if_neg (by omega), if_neg (by omega), if_neg (by omega), if_neg (by omega)]
  have n37 : z.2 37 (b + r) = γ 42 (γ 4 10) := by rw [s 37 _ (by omega), if_neg (by omega), if_neg (by omega), if_neg (by omega), if_pos ⟨rfl, rfl⟩]
  obtain ⟨⟨d1, d1'⟩, d2, d3, d4, d5⟩ := d
  refine ⟨L, e10, ⟨⟨?_, ?_⟩, fun v q => by rw [o37 v (by omega)]; exact d2 v q, fun k q => by rw [o42]; exact d3 k q, by omega, fun k i q1 q2 q3 q4 q5 => ?_⟩⟩
  · rw [s 3 9 (by omega), if_neg (by omega), if_neg (by omega), if_neg (by omega), if_neg (by omega), if_neg (by omega)]; exact d1
  · rw [s 25 n (by omega), if_neg (by omega), if_neg (by omega), if_neg (by omega), if_neg (by omega), if_neg (by omega)]; exact d1'
  · rw [o45] at q3 q4
    rw [o46] at q4
    by_cases q6 : z.2 47 i = r
    · refine ⟨γ 4 10, γ 4 12, by omega, by rw [o45, o46, if_pos rfl]; omega, by rw [n47, q6], by rw [q6, n37, o42]⟩
    · have ni : i ≠ γ 4 12 := fun w => q6 (by rw [w]; exact n47)
      have q4' : i < γ 45 k + γ 46 k := by
        by_cases w : k = γ 4 10
        · rw [if_pos w] at q4; rw [w] at q4 ⊢; omega
        · rw [if_neg w] at q4; exact q4
      obtain ⟨k', i', a1, a2, a3, a4⟩ := d5 k i q1 (by omega) q3 q4' (by omega)
      rw [o47 i ni] at q6 ⊢
      refine ⟨k', i', by omega, ?_, by rw [o47 i' (by omega)]; exact a3, by rw [o37 _ (by omega), o42]; exact a4⟩
      rw [o45, o46]
      by_cases w : k' = γ 4 10
      · rw [if_pos w]; rw [w] at a2 ⊢; omega
      · rw [if_neg w]; omega
theorem dv_lefts {n b E0 : Int} {γ0 : St} : ∀ (m : Nat) (γ : St) (x5 x6 : Int), (x5 ≠ 0 → LfI γ ∧ DvI n b E0 γ0 γ (γ 4 10 + 1)) → pc (f_Nr_readLefts_L14 f_Nr_readLefts_b59 m γ x5 x6) (fun z => z.1 ≠ 0 → LfI z.2 ∧ DvI n b E0 γ0 z.2 (z.2 4 10 + 1)) := by
  intro m
  induction m with
  | zero => intro γ x5 x6 _; exact pc_n
  | succ m ih =>
    intro γ x5 x6 h
    have hE : x5 ≠ 0 → pc (f_Nr_readLefts_b59 γ x5) (fun z => z.1 ≠ 0 → LfI z.2 ∧ DvI n b E0 γ0 z.2 (z.2 4 10 + 1)) := fun q => by
      obtain ⟨h1, h2⟩ := h q
      unfold f_Nr_readLefts_b59
      rw [if_neg q]
      have we := (w_Tk_expect (γ := γ) (a0 := 5) h1.1.1 (by omega)).pc
      refine pc_b (P := fun z => (TkR z.2 ∧ FrC γ z.2 ∧ (z.1 = 0 ∧ z.2 1 7 ≠ 0 ∧ z.2 1 6 = γ 1 6 ∨ z.1 = 1 ∧ z.2 1 7 = γ 1 7 ∧ z.2 1 6 = γ 1 6 + 1))) we (fun r γ1 w => pc_i (fun _ => pc_s (fun w2 => absurd rfl w2)) (fun q2 => pc_s (fun _ => ?_)))
      obtain ⟨z1, z2, z3⟩ := w
      have z1 : TkR γ1 := z1
      have z2 : FrC γ γ1 := z2
      have z3 : r = 0 ∧ γ1 1 7 ≠ 0 ∧ γ1 1 6 = γ 1 6 ∨ r = 1 ∧ γ1 1 7 = γ 1 7 ∧ γ1 1 6 = γ 1 6 + 1 := z3
      show LfI γ1 ∧ DvI n b E0 γ0 γ1 (γ1 4 10 + 1)
      refine ⟨h1.fr z1 z2 (by omega), ?_⟩
      rw [z2 4 10 (by omega)]
      exact h2.fr (fun j k w => z2 j k (by omega))
    unfold f_Nr_readLefts_L14
    refine pc_i (fun q => ?_) (fun q => pc_i (fun _ => hE q) (fun _ => pc_b kind_pc (fun r γ1 e => ?_)))
    · unfold f_Nr_readLefts_b59
      rw [if_pos q]
      exact pc_s (fun w => absurd rfl w)
    · cases e
      refine pc_i (fun _ => hE q) (fun q3 => ?_)
      obtain ⟨h1, h2⟩ := h q
      have ⟨s1, s2⟩ := h1.step (by omega)
      have st := step_eq h1.1.1 (by omega)
      refine pc_b (P := fun z => z = (0, nxS γ)) (fun y e => by rw [st] at e; cases e; rfl) (fun r γ2 e => ?_)
      cases e
      have nf : ∀ j k, j ≠ 1 → nxS γ j k = γ j k := fun j k w => nxS_o γ (by omega)
      have d2 : DvI n b E0 γ0 (nxS γ) (nxS γ 4 10 + 1) := by
        rw [nf 4 10 (by omega)]
        exact h2.fr (fun j k w => nf j k (by omega))
      refine pc_b (dv_left s1 d2) (fun r3 γ3 w => pc_c (fun _ => ih γ3 r3 _ (fun w2 => ?_)))
      obtain ⟨w3, _, w4⟩ := w w2
      exact ⟨w3, w4⟩
/-- an equation -/
theorem dv_eqn {n b E0 : Int} {γ0 γ : St} (h : NI γ) (d : DvI n b E0 γ0 γ (γ 4 10)) : pc (f_Nr_readEquation γ) (fun z => z.1 ≠ 0 → NI z.2 ∧ DvI n b E0 γ0 z.2 (z.2 4 10)) := by
  have we := (w_readEquation h).pc
  have b46 : ∀ γ1 x1 x2, (x1 = 0 ∨ x1 = 1) → (x2 ≠ 0 → LfI γ1 ∧ DvI n b E0 γ0 γ1 (γ1 4 10 + 1)) → pc (f_Nr_readEquation_b46 γ1 x1 x2) (fun z => z.1 ≠ 0 → DvI n b E0 γ0 z.2 (z.2 4 10)) := fun γ1 x1 x2 hx h1 => by
    unfold f_Nr_readEquation_b46
    refine pc_i (fun _ => pc_s (fun w => absurd rfl w)) (fun q => ?_)
    obtain ⟨h1, h2⟩ := h1 q
    have wx := (w_Tk_expect (γ := γ1) (a0 := 9) h1.1.1 (by omega)).pc
    refine pc_b wx (fun r γ2 w => pc_i (fun _ => pc_s (fun w => absurd rfl w)) (fun q2 => ?_))
    obtain ⟨z1, z2, z3⟩ := w
    have z1 : TkR γ2 := z1
    have z2 : FrC γ1 γ2 := z2
    have z3 : r = 0 ∧ γ2 1 7 ≠ 0 ∧ γ2 1 6 = γ1 1 6 ∨ r = 1 ∧ γ2 1 7 = γ1 1 7 ∧ γ2 1 6 = γ1 1 6 + 1 := z3
    have hL := h1.fr z1 z2 (by omega)
    have hE : EqI γ2 := ⟨z1, hL.1.2.1, hL.1.2.2.1.1, hL.2.1, hL.1.2.2.1.2.2.2.1⟩
    refine pc_b (w_readRightSide hE hx).pc (fun r2 γ3 w => pc_i (fun _ => pc_s (fun w => absurd rfl w)) (fun q3 => ?_))
    have fe : FrE γ2 γ3 := w.2.1.1
    have f3 : ∀ j k, (j = 3 ∧ k = 9 ∨ j = 25 ∨ j = 37 ∨ j = 42 ∨ 45 ≤ j ∧ j ≤ 47 ∨ j = 4 ∧ (k = 10 ∨ k = 12)) → γ3 j k = γ1 j k := fun j k q => by rw [fe j k (by omega) (by omega) (by omega) (by omega)]; exact z2 j k (by omega)
    have d3 := h2.fr f3
    have e10 := f3 4 10 (by omega)
    unfold f_Cd_closeEquation
    refine pc_b (P := fun z => ∀ j k, z.2 j k = if j = 4 ∧ k = 10 then γ3 4 10 + 1 else if j = 44 ∧ k = γ3 4 10 then γ3 4 4 else γ3 j k) ?_ (fun r γ4 w => pc_s (fun _ => ?_))
    · refine pc_c (fun _ => pc_a ?_)
      have e : setA γ3 44 (γ3 4 10) (γ3 4 4) 4 10 = γ3 4 10 := by rw [stA, if_neg (by omega)]
      rw [e]
      refine pc_c (fun _ => pc_a (pc_s (fun j k => ?_)))
      show setA (setA γ3 44 (γ3 4 10) (γ3 4 4)) 4 10 (γ3 4 10 + 1) j k = _
      rw [stA, stA]
    · show DvI n b E0 γ0 γ4 (γ4 4 10)
      have w : ∀ j k, γ4 j k = if j = 4 ∧ k = 10 then γ3 4 10 + 1 else if j = 44 ∧ k = γ3 4 10 then γ3 4 4 else γ3 j k := w
      have e4 : γ4 4 10 = γ1 4 10 + 1 := by rw [w, if_pos ⟨rfl, rfl⟩, e10]
      have w0 : ∀ j k, (j ≠ 4 ∨ k ≠ 10) → j ≠ 44 → γ4 j k = γ3 j k := fun j k q1 q2 => by rw [w, if_neg (by omega), if_neg (by omega)]
      obtain ⟨⟨a1, a1'⟩, a2, a3, a4, a5⟩ := d3
      rw [e4]
      refine ⟨⟨by rw [w0 3 9 (by omega) (by omega)]; exact a1, by rw [w0 25 n (by omega) (by omega)]; exact a1'⟩, fun v q => by rw [w0 37 v (by omega) (by omega)]; exact a2 v q, fun k q => by rw [w0 42 k (by omega) (by omega)]; exact a3 k q, by omega, fun k i q1 q2 q3 q4 q5 => ?_⟩
      rw [w0 45 k (by omega) (by omega)] at q3 q4
      rw [w0 46 k (by omega) (by omega)] at q4
      rw [w0 4 12 (by omega) (by omega)] at q5
      obtain ⟨k', i', c1, c2, c3, c4⟩ := a5 k i q1 q2 q3 q4 q5
      exact ⟨k', i', c1, by rw [w0 45 k' (by omega) (by omega), w0 46 k' (by omega) (by omega), w0 4 12 (by omega) (by omega)]; exact c2, by rw [w0 47 _ (by omega) (by omega), w0 47 _ (by omega) (by omega)]; exact c3, by rw [w0 47 _ (by omega) (by omega), w0 37 _ (by omega) (by omega), w0 42 _ (by omega) (by omega)]; exact c4⟩
  have main : pc (f_Nr_readEquation γ) (fun z => z.1 ≠ 0 → DvI n b E0 γ0 z.2 (z.2 4 10)) := by
    unfold f_Nr_readEquation
    refine pc_b place_pc (fun r γ1 e => ?_)
    cases e
    have ⟨o1, o2⟩ := h.oeq (a0 := γ 15 (γ 1 6))
    refine pc_b (P := fun z => z = (0, oeqS γ (γ 15 (γ 1 6)))) ?_ (fun r γ1 e => ?_)
    · unfold f_Cd_openEquation oeqS
      refine pc_c (fun _ => pc_a ?_)
      rw [show setA γ 42 (γ 4 10) (γ 15 (γ 1 6)) 4 10 = γ 4 10 by rw [stA, if_neg (by omega)], show setA γ 42 (γ 4 10) (γ 15 (γ 1 6)) 4 4 = γ 4 4 by rw [stA, if_neg (by omega)]]
      refine pc_c (fun _ => pc_a ?_)
      rw [show setA (setA γ 42 (γ 4 10) (γ 15 (γ 1 6))) 43 (γ 4 10) (γ 4 4) 4 10 = γ 4 10 by rw [stA, if_neg (by omega), stA, if_neg (by omega)], show setA (setA γ 42 (γ 4 10) (γ 15 (γ 1 6))) 43 (γ 4 10) (γ 4 4) 4 12 = γ 4 12 by rw [stA, if_neg (by omega), stA, if_neg (by omega)]]
      refine pc_c (fun _ => pc_a ?_)
      rw [show setA (setA (setA γ 42 (γ 4 10) (γ 15 (γ 1 6))) 43 (γ 4 10) (γ 4 4)) 45 (γ 4 10) (γ 4 12) 4 10 = γ 4 10 by rw [stA, if_neg (by omega), stA, if_neg (by omega), stA, if_neg (by omega)]]
      exact pc_c (fun _ => pc_a (pc_s rfl))
    · cases e
      have s := oeqS_v γ (γ 15 (γ 1 6))
      generalize oeqS γ (γ 15 (γ 1 6)) = γ1 at *
      have o : ∀ j k, (j ≠ 42 ∧ j ≠ 43 ∧ j ≠ 45 ∧ j ≠ 46 ∨ k ≠ γ 4 10) → γ1 j k = γ j k := fun j k q => by rw [s, if_neg (by omega), if_neg (by omega), if_neg (by omega), if_neg (by omega)]
      have e10 : γ1 4 10 = γ 4 10 := o 4 10 (by omega)
      have z46 : γ1 46 (γ 4 10) = 0 := by rw [s, if_pos ⟨rfl, rfl⟩]
      have d1 : DvI n b E0 γ0 γ1 (γ1 4 10 + 1) := by
        obtain ⟨⟨a1, a1'⟩, a2, a3, a4, a5⟩ := d
        refine ⟨⟨by rw [o 3 9 (by omega)]; exact a1, by rw [o 25 n (by omega)]; exact a1'⟩, fun v q => by rw [o 37 v (by omega)]; exact a2 v q, fun k q => by rw [o 42 k (by omega)]; exact a3 k q, by omega, fun k i q1 q2 q3 q4 q5 => ?_⟩
        by_cases q6 : k = γ 4 10
        · rw [q6, z46] at q4
          rw [q6] at q3
          omega
        · rw [o 45 k (by omega)] at q3 q4
          rw [o 46 k (by omega)] at q4
          rw [o 4 12 (by omega)] at q5
          obtain ⟨k', i', c1, c2, c3, c4⟩ := a5 k i q1 (by omega) q3 q4 q5
          exact ⟨k', i', by omega, by rw [o 45 k' (by omega), o 46 k' (by omega), o 4 12 (by omega)]; exact c2, by rw [o 47 _ (by omega), o 47 _ (by omega)]; exact c3, by rw [o 47 _ (by omega), o 37 _ (by omega), o 42 _ (by omega)]; exact c4⟩
      refine pc_b kind_pc (fun r2 γ2 e => ?_)
      cases e
      unfold f_Nr_readEquation_b30
      refine pc_i (fun q => ?_) (fun q => ?_)
      · rw [if_pos rfl]
        refine pc_b (dv_left o1 d1) (fun r3 γ3 w => b46 γ3 0 r3 (by omega) (fun w2 => ⟨(w w2).1, (w w2).2.2⟩))
      · rw [if_neg (by decide)]
        unfold f_Nr_readLefts
        have ⟨s1, s2⟩ := o1.step (by omega)
        have st := step_eq o1.1.1 (by omega)
        refine pc_b (P := fun z => z.1 ≠ 0 → LfI z.2 ∧ DvI n b E0 γ0 z.2 (z.2 4 10 + 1)) ?_ (fun r3 γ3 w => b46 γ3 1 r3 (by omega) w)
        refine pc_b (P := fun z => z = (0, nxS γ1)) (fun y e => by rw [st] at e; cases e; rfl) (fun r γ2 e => ?_)
        cases e
        have nf : ∀ j k, j ≠ 1 → nxS γ1 j k = γ1 j k := fun j k w => nxS_o γ1 (by omega)
        have d2 : DvI n b E0 γ0 (nxS γ1) (nxS γ1 4 10 + 1) := by
          rw [nf 4 10 (by omega)]
          exact d1.fr (fun j k w => nf j k (by omega))
        refine pc_b (dv_left s1 d2) (fun r3 γ3 w => dv_lefts FU γ3 r3 0 (fun w2 => ⟨(w w2).1, (w w2).2.2⟩))
  intro z hz hz0
  refine ⟨?_, main z hz hz0⟩
  rcases we z hz with w | w
  · exact absurd w.1 hz0
  · exact w.2.1
