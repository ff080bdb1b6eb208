/-! the class's nodes: equations -/
theorem FzI.up {γ γ' : St} {B B' E E' : Int} (h : FzI γ B E) (hB : B ≤ B') (hE : E ≤ E') (e9 : γ' 3 9 = γ 3 9) (e1 : ∀ j k, 25 ≤ j → j ≤ 32 → k < γ 3 9 → γ' j k = γ j k) (e2 : ∀ j k, (j = 34 ∨ j = 35) → k < B → γ' j k = γ j k) (e3 : ∀ j k, 38 ≤ j → j ≤ 41 → k < γ 4 4 → γ' j k = γ j k) (e4 : ∀ j k, 43 ≤ j → j ≤ 46 → k < γ 4 10 → γ' j k = γ j k) (e5 : ∀ k, k < γ 4 12 → γ' 47 k = γ 47 k) (m4 : γ 4 4 ≤ γ' 4 4) (m10 : γ 4 10 ≤ γ' 4 10) (m12 : γ 4 12 ≤ γ' 4 12) : FzI γ' B' E' := by
  intro n h1 h2
  have ⟨w, w2⟩ := h n h1 (by omega)
  refine ⟨w.ext h1 (fun j k q1 q2 q3 q4 => e1 j k q1 q2 (by omega)) (fun j k q1 q2 => e2 j k q1 (by omega)) (fun j k q1 q2 q3 => e3 j k q1 (by omega) q3) (fun k q => e3 41 k (by omega) (by omega) (by have := w.l; omega)) e4 e5 m4 m10 m12, ?_⟩
  rw [e1 25 n (by omega) (by omega) (by omega), e1 28 n (by omega) (by omega) (by omega), e1 29 n (by omega) (by omega) (by omega), e1 30 n (by omega) (by omega) (by omega)]
  omega
/-- within an equation's left side -/
def LfI (γ : St) : Prop := NI γ ∧ γ 43 (γ 4 10) = γ 4 4 ∧ (0 ≤ γ 45 (γ 4 10) ∧ 0 ≤ γ 46 (γ 4 10) ∧ γ 45 (γ 4 10) + γ 46 (γ 4 10) = γ 4 12) ∧ ∀ i, γ 45 (γ 4 10) ≤ i → i < γ 4 12 → 0 ≤ γ 47 i ∧ γ 47 i < γ 28 (γ 3 9)
def FrL (γ γ' : St) : Prop := FrX γ γ' ∧ γ 1 6 ≤ γ' 1 6 ∧ ∀ j k, (j = 1 ∧ k = 5 ∨ j = 1 ∧ k = 7 ∨ j = 3 ∧ k = 9 ∨ j = 4 ∧ k = 10 ∨ j = 29) → γ' j k = γ j k
theorem FrL.rf {γ : St} : FrL γ γ := ⟨FrX.rf, Int.le_refl _, fun _ _ _ => rfl⟩
theorem FrL.tr {a b c : St} (h : FrL a b) (k : FrL b c) : FrL a c := ⟨h.1.tr k.1, Int.le_trans h.2.1 k.2.1, fun j i q => (k.2.2 j i q).trans (h.2.2 j i q)⟩
def LfP (γ : St) (z : Int × St) : Prop := FlP γ z ∨ z.1 = 1 ∧ LfI z.2 ∧ FrL γ z.2 ∧ 1 ≤ z.2 46 (z.2 4 10)
theorem LfI.fr {γ γ' : St} (h : LfI γ) (hT : TkR γ') (hF : FrC γ γ') (h6 : γ 1 6 ≤ γ' 1 6) : LfI γ' := by
  have ⟨a1, a2, a3, a4⟩ := h
  have b10 := hF 4 10 (by omega)
  have b12 := hF 4 12 (by omega)
  have b45 := hF 45 (γ 4 10) (by omega)
  have b46 := hF 46 (γ 4 10) (by omega)
  refine ⟨a1.fr hT hF h6, ?_, ?_, fun i q1 q2 => ?_⟩
  · rw [b10, hF 43 _ (by omega), hF 4 4 (by omega)]; exact a2
  · rw [b10, b45, b46, b12]; exact a3
  · rw [hF 47 i (by omega), hF 3 9 (by omega), hF 28 _ (by omega)]
    exact a4 i (by rw [b10, b45] at q1; exact q1) (by omega)
theorem FrC.L {a b : St} (h : FrC a b) (h6 : a 1 6 ≤ b 1 6) (h7 : b 1 7 = a 1 7) : FrL a b := ⟨h.X, h6, fun j k q => by
  rcases q with q | q | q | q | q
  · rw [q.1, q.2]; exact h 1 5 (by omega)
  · rw [q.1, q.2]; exact h7
  · exact h j k (by omega)
  · exact h j k (by omega)
  · exact h j k (by omega)⟩
theorem LfI.step {γ : St} (h : LfI γ) (hk : γ 14 (γ 1 6) ≠ 0) : LfI (stepS γ) ∧ FrL γ (stepS γ) := by
  have ⟨s1, s2⟩ := step_T h.1.1 hk
  have s6 : stepS γ 1 6 = γ 1 6 + 1 := by rw [stepS_v]; simp
  exact ⟨h.fr s1 s2 (by omega), s2.L (by omega) (by rw [stepS_v]; simp)⟩
/-- a left side more -/
def leftS (γ : St) (r : Int) : St := setA (setA (setA (setA (setA (setA γ 36 (γ 25 (γ 3 9) + r) (γ 36 (γ 25 (γ 3 9) + r) + 1)) 37 (γ 25 (γ 3 9) + r) (γ 42 (γ 4 10))) 47 (γ 4 12) r) 4 12 (γ 4 12 + 1)) 46 (γ 4 10) (γ 46 (γ 4 10) + 1)) 1 6 (γ 1 6 + 1)
theorem leftS_v (γ : St) (r : Int) (j : Nat) (k : Int) : leftS γ r j k = if j = 1 ∧ k = 6 then γ 1 6 + 1 else if j = 46 ∧ k = γ 4 10 then γ 46 (γ 4 10) + 1 else if j = 4 ∧ k = 12 then γ 4 12 + 1 else if j = 47 ∧ k = γ 4 12 then r else if j = 37 ∧ k = γ 25 (γ 3 9) + r then γ 42 (γ 4 10) else if j = 36 ∧ k = γ 25 (γ 3 9) + r then γ 36 (γ 25 (γ 3 9) + r) + 1 else γ j k := by simp [leftS, stA]
set_option maxHeartbeats 1000000 in
theorem LfI.left {γ : St} {r : Int} (h : LfI γ) (hk : γ 14 (γ 1 6) ≠ 0) (hr : 0 ≤ r ∧ r < γ 28 (γ 3 9)) : LfP γ (1, leftS γ r) := by
  have ⟨⟨hT, hV, hC, hZ, hU⟩, l1, l2, l3⟩ := h
  have ⟨v1, v2, v3, v4, v5⟩ := hV
  have ⟨c1, c2, c3, c4, c5, c6⟩ := hC
  have s0 := leftS_v γ r
  generalize leftS γ r = γs at *
  have e : ∀ j k, (j ≠ 1 ∨ k ≠ 6) → (j ≠ 46 ∨ k ≠ γ 4 10) → (j ≠ 4 ∨ k ≠ 12) → (j ≠ 47 ∨ k ≠ γ 4 12) → j ≠ 37 → j ≠ 36 → γs j k = γ j k := fun j k q1 q2 q3 q4 q5 q6 => by rw [s0]; repeat rw [if_neg (by omega)]
  have b9 : γs 3 9 = γ 3 9 := e 3 9 (by omega) (by omega) (by omega) (by omega) (by omega) (by omega)
  have b10 : γs 4 10 = γ 4 10 := e 4 10 (by omega) (by omega) (by omega) (by omega) (by omega) (by omega)
  have b4 : γs 4 4 = γ 4 4 := e 4 4 (by omega) (by omega) (by omega) (by omega) (by omega) (by omega)
  have b12 : γs 4 12 = γ 4 12 + 1 := by rw [s0]; simp
  have b16 : γs 1 6 = γ 1 6 + 1 := by rw [s0]; simp
  have b46 : γs 46 (γ 4 10) = γ 46 (γ 4 10) + 1 := by rw [s0]; simp
  have b45 : γs 45 (γ 4 10) = γ 45 (γ 4 10) := e 45 _ (by omega) (by omega) (by omega) (by omega) (by omega) (by omega)
  have b47 : γs 47 (γ 4 12) = r := by rw [s0]; simp
  have b25 : γs 25 (γ 3 9) = γ 25 (γ 3 9) := e 25 _ (by omega) (by omega) (by omega) (by omega) (by omega) (by omega)
  have b28 : γs 28 (γ 3 9) = γ 28 (γ 3 9) := e 28 _ (by omega) (by omega) (by omega) (by omega) (by omega) (by omega)
  refine Or.inr ⟨rfl, ⟨⟨?_, ?_, ?_, ?_, ?_⟩, ?_, ?_, ?_⟩, ⟨?_, ?_, ?_⟩, ?_⟩
  · refine (step_T hT hk).1.ext (fun j k hj => ?_)
    by_cases q : j = 1 ∧ k = 6
    · show γs j k = _; rw [s0, stepS_v, if_pos q, if_pos q]
    · show γs j k = _; rw [stepS_v, if_neg q]; exact e j k (by omega) (by omega) (by omega) (by omega) (by omega) (by omega)
  · exact hV.ext (fun j k q => e j k (by omega) (by omega) (by omega) (by omega) (by omega) (by omega))
  · show CoI γs
    refine ⟨by omega, by omega, by omega, ?_, fun x h1 h2 => ?_, fun h1 => ?_, fun x h1 h2 => ?_⟩
    · rw [b4, b10, Pf_ext (γ := γ) (fun i _ _ => e 40 i (by omega) (by omega) (by omega) (by omega) (by omega) (by omega))]; exact c4
    · rw [e 43 _ (by omega) (by omega) (by omega) (by omega) (by omega) (by omega), e 44 _ (by omega) (by omega) (by omega) (by omega) (by omega) (by omega)]; exact c5 x h1 (by omega)
    · rw [b4, b10, e 44 _ (by omega) (by omega) (by omega) (by omega) (by omega) (by omega)]; exact c6.1 (by omega)
    · rw [e 43 _ (by omega) (by omega) (by omega) (by omega) (by omega) (by omega), e 44 _ (by omega) (by omega) (by omega) (by omega) (by omega) (by omega)]; exact c6.2 x h1 (by omega)
  · show FzI γs (γs 25 (γs 3 9)) (γs 29 (γs 3 9))
    rw [b9, b25, e 29 _ (by omega) (by omega) (by omega) (by omega) (by omega) (by omega)]
    exact hZ.up (Int.le_refl _) (Int.le_refl _) b9 (fun j k _ _ _ => e j k (by omega) (by omega) (by omega) (by omega) (by omega) (by omega)) (fun j k _ _ => e j k (by omega) (by omega) (by omega) (by omega) (by omega) (by omega)) (fun j k _ _ _ => e j k (by omega) (by omega) (by omega) (by omega) (by omega) (by omega)) (fun j k _ _ _ => e j k (by omega) (by omega) (by omega) (by omega) (by omega) (by omega)) (fun k _ => e 47 k (by omega) (by omega) (by omega) (by omega) (by omega) (by omega)) (by omega) (by omega) (by omega)
  · show CuI γs (γs 3 9)
    rw [b9]
    have ⟨a1, a2, a3, a4, a5⟩ := hU
    have d : ∀ j, 24 ≤ j → j ≤ 29 → γs j (γ 3 9) = γ j (γ 3 9) := fun j _ _ => e j _ (by omega) (by omega) (by omega) (by omega) (by omega) (by omega)
    have d24 := d 24 (by omega) (by omega)
    have d26 := d 26 (by omega) (by omega)
    have d27 := d 27 (by omega) (by omega)
    have d29 := d 29 (by omega) (by omega)
    have d2 : γs 2 8 = γ 2 8 := e 2 8 (by omega) (by omega) (by omega) (by omega) (by omega) (by omega)
    refine ⟨by omega, by omega, by omega, fun v q1 q2 => ?_, fun w q1 q2 => ?_⟩
    · have := a4 v q1 (by omega)
      unfold VrI at this ⊢
      rw [b25, b12, e 34 _ (by omega) (by omega) (by omega) (by omega) (by omega) (by omega), e 35 _ (by omega) (by omega) (by omega) (by omega) (by omega) (by omega)]
      by_cases q : v = r
      · have e36 : γs 36 (γ 25 (γ 3 9) + v) = γ 36 (γ 25 (γ 3 9) + v) + 1 := by rw [s0, q]; simp
        omega
      · have e36 : γs 36 (γ 25 (γ 3 9) + v) = γ 36 (γ 25 (γ 3 9) + v) := by rw [s0]; repeat rw [if_neg (by omega)]
        omega
    · exact (a5 w (by omega) (by omega)).ext (by omega) (by omega) (Int.le_refl _) (fun j k _ _ _ => e j k (by omega) (by omega) (by omega) (by omega) (by omega) (by omega)) (fun j _ _ => e j w (by omega) (by omega) (by omega) (by omega) (by omega) (by omega)) (fun k _ => e 47 k (by omega) (by omega) (by omega) (by omega) (by omega) (by omega)) (by omega) (by omega)
  · show γs 43 (γs 4 10) = γs 4 4
    rw [b10, b4, e 43 _ (by omega) (by omega) (by omega) (by omega) (by omega) (by omega)]; exact l1
  · show 0 ≤ γs 45 (γs 4 10) ∧ 0 ≤ γs 46 (γs 4 10) ∧ γs 45 (γs 4 10) + γs 46 (γs 4 10) = γs 4 12
    rw [b10, b45, b46, b12]; omega
  · intro i q1 q2
    have q1 : γs 45 (γs 4 10) ≤ i := q1
    have q2 : i < γs 4 12 := q2
    show 0 ≤ γs 47 i ∧ γs 47 i < γs 28 (γs 3 9)
    rw [b10, b45] at q1
    rw [b9, b28]
    by_cases q : i = γ 4 12
    · rw [q, b47]; exact hr
    · rw [e 47 i (by omega) (by omega) (by omega) (by omega) (by omega) (by omega)]
      exact l3 i q1 (by omega)
  · intro j k q; exact e j k (by omega) (by omega) (by omega) (by omega) (by omega) (by omega)
  · show γ 1 6 ≤ γs 1 6; omega
  · intro j k q; exact e j k (by omega) (by omega) (by omega) (by omega) (by omega) (by omega)
  · show 1 ≤ γs 46 (γs 4 10)
    rw [b10, b46]; omega
set_option maxHeartbeats 1000000 in
theorem w_readLeft {γ : St} (h : LfI γ) : wp (f_Nr_readLeft γ) (LfP γ) := by
  have hT := h.1.1
  have hV := h.1.2.1
  have ⟨v1, v2, v3, v4, v5⟩ := hV
  have hC := h.1.2.2.1
  have fl : ∀ a, a ≠ 0 → wp (bndN (f_Tk_fail γ a) fun r γ' => some (r, γ')) (LfP γ) := fun a ha => wp_mono (TopI.fl hT ha) (fun z hz => Or.inl hz)
  unfold f_Nr_readLeft
  refine wp_bnd (w_Tk_kindNow hT) (fun r γ1 e => ?_)
  obtain ⟨e, er⟩ := e
  have e : γ1 = γ := e
  have er : r = γ 14 (γ 1 6) := er
  subst e
  refine wp_ite (fun c => ?_) (fun c => fl 1 (by omega))
  have hk : γ1 14 (γ1 1 6) = 2 := by omega
  have vb := varS_b hT hV hk
  have u := h.1.2.2.2.2.2.1
  refine wp_bs (var_eq hT hV hk) (wp_chk (by omega) (wp_ite (fun c1 => ?_) (fun c1 => fl 2 (by omega))))
  have t1 := hT.1.2.1
  have t2 := hT.2.1
  have c0 := hC.1
  have c2 := hC.2.1
  have c3 := hC.2.2.1
  have w := h.left (r := varS γ1) (by omega) (by omega)
  have u36 := (h.1.2.2.2.2.2.2.2.1 (varS γ1) (by omega) (by omega)).2
  have l2 := h.2.2.1
  generalize varS γ1 = x at *
  refine wp_chk (by omega) (wp_chk (by omega) (wp_sub (wp_chk (by omega) (wp_chk (by omega) (wp_chk (by omega) (wp_sub (wp_chk (by simp [stA]; omega) (wp_chk (by omega) (wp_sub ?_)))))))))
  refine wp_bs (r := 0) (γ := setA (setA (setA (setA (setA γ1 36 (γ1 25 (γ1 3 9) + x) (γ1 36 (γ1 25 (γ1 3 9) + x) + 1)) 37 (γ1 25 (γ1 3 9) + x) (γ1 42 (γ1 4 10))) 47 (γ1 4 12) x) 4 12 (γ1 4 12 + 1)) 46 (γ1 4 10) (γ1 46 (γ1 4 10) + 1)) ?_ ?_
  · unfold f_Cd_addLeft
    exact some_wp (wp_chk (by simp [stA]; omega) (wp_sub (wp_chk (by simp [stA]; omega) (wp_sub (wp_chk (by simp [stA]; omega) (wp_chk (by simp [stA]; omega) (wp_chk (by simp [stA]; omega) (wp_sub (wp_some (by simp [stA]))))))))))
  · refine wp_bs (step_eq (hT.ext (fun j k h1 => by simp [stA]; grind)) (by simp [stA]; omega)) (wp_some ?_)
    simpa [leftS, stepS, stA] using w
theorem LfP.pre {γ γ' : St} {z : Int × St} (h : LfP γ' z) (hF : FrL γ γ') : LfP γ z := by
  rcases h with h | h
  · exact Or.inl ⟨h.1, h.2.1, hF.1.tr h.2.2⟩
  · exact Or.inr ⟨h.1, h.2.1, hF.tr h.2.2.1, h.2.2.2⟩
theorem readLefts_L0 {n : Nat} {γ : St} {x6 : Int} (hn : 0 < n) : f_Nr_readLefts_L14 f_Nr_readLefts_b59 n γ 0 x6 = some (0, γ) := by
  cases n with
  | zero => exact absurd hn (by omega)
  | succ n =>
    unfold f_Nr_readLefts_L14 f_Nr_readLefts_b59
    rw [if_pos rfl, if_pos rfl]
theorem w_readLefts_L14 : ∀ (n : Nat) (γ : St) (x10 : Int), LfI γ → 1 ≤ γ 46 (γ 4 10) → 0 ≤ x10 → x10 ≤ γ 1 5 → γ 1 5 - x10 < n → wp (f_Nr_readLefts_L14 f_Nr_readLefts_b59 n γ 1 x10) (LfP γ) := by
  intro n
  induction n with
  | zero => intro γ x10 h h1 h2 h3 h4; exfalso; omega
  | succ n ih =>
    intro γ x10 h h1 h2 h3 h4
    have hT := h.1.1
    have t1 := hT.1.2.1
    have hE : wp (f_Nr_readLefts_b59 γ 1) (LfP γ) := by
      unfold f_Nr_readLefts_b59
      refine wp_ite (fun c => absurd c (by decide)) (fun _ => wp_bnd (w_Tk_expect hT (by omega)) (fun r γ1 hz => ?_))
      obtain ⟨z1, z2, z3⟩ := hz
      have z2 : FrC γ γ1 := z2
      have z3 : r = 0 ∧ γ1 1 7 ≠ 0 ∧ γ1 1 6 = γ 1 6 ∨ r = 1 ∧ γ1 1 7 = γ 1 7 ∧ γ1 1 6 = γ 1 6 + 1 := z3
      have z1 : TkR γ1 := z1
      have hL := h.fr z1 z2 (by omega)
      refine wp_ite (fun c => wp_some (Or.inl ⟨rfl, by show γ1 1 7 ≠ 0; omega, z2.X⟩)) (fun c => ?_)
      have hFL := z2.L (by omega) (by omega)
      refine wp_some (Or.inr ⟨rfl, hL, hFL, ?_⟩)
      show 1 ≤ γ1 46 (γ1 4 10)
      rw [z2 4 10 (by omega), z2 46 _ (by omega)]; exact h1
    unfold f_Nr_readLefts_L14
    refine wp_ite (fun _ => hE) (fun c => wp_ite (fun _ => hE) (fun c2 => wp_bnd (w_Tk_kindNow hT) (fun r γ1 e => ?_)))
    obtain ⟨e, er⟩ := e
    have e : γ1 = γ := e
    have er : r = γ 14 (γ 1 6) := er
    subst e
    refine wp_ite (fun _ => hE) (fun c3 => wp_bs (step_eq hT (by omega)) ?_)
    have ⟨s1, s2⟩ := h.step (by omega)
    refine wp_bnd (w_readLeft s1) (fun r2 γ2 q => wp_chk (by omega) ?_)
    have q : LfP γ1 (r2, γ2) := LfP.pre q s2
    rcases q with q | q
    · have e0 : r2 = 0 := q.1
      rw [e0]
      exact wp_eq (readLefts_L0 (by omega)) (Or.inl ⟨rfl, q.2.1, q.2.2⟩)
    · have e1 : r2 = 1 := q.1
      have e5 : γ2 1 5 = γ1 1 5 := q.2.2.1.2.2 1 5 (by omega)
      rw [e1]
      exact wp_mono (ih γ2 (x10 + 1) q.2.1 q.2.2.2 (by omega) (by omega) (by omega)) (fun z hz => hz.pre q.2.2.1)
theorem w_readLefts {γ : St} (h : LfI γ) (hk : γ 14 (γ 1 6) ≠ 0) : wp (f_Nr_readLefts γ) (LfP γ) := by
  have := FU_v
  unfold f_Nr_readLefts
  refine wp_bs (step_eq h.1.1 hk) ?_
  have ⟨s1, s2⟩ := h.step hk
  refine wp_bnd (w_readLeft s1) (fun r2 γ2 q => ?_)
  have q : LfP γ (r2, γ2) := LfP.pre q s2
  rcases q with q | q
  · have e0 : r2 = 0 := q.1
    rw [e0]
    exact wp_eq (readLefts_L0 (by omega)) (Or.inl ⟨rfl, q.2.1, q.2.2⟩)
  · have e1 : r2 = 1 := q.1
    have hL : LfI γ2 := q.2.1
    have t1 := hL.1.1.1.2.1
    rw [e1]
    exact wp_mono (w_readLefts_L14 FU γ2 0 hL q.2.2.2 (by omega) (by omega) (by omega)) (fun z hz => hz.pre q.2.2.1)
/-- an equation opens -/
def oeqS (γ : St) (a0 : Int) : St := setA (setA (setA (setA γ 42 (γ 4 10) a0) 43 (γ 4 10) (γ 4 4)) 45 (γ 4 10) (γ 4 12)) 46 (γ 4 10) 0
theorem oeqS_v (γ : St) (a0 : Int) (j : Nat) (k : Int) : oeqS γ a0 j k = if j = 46 ∧ k = γ 4 10 then 0 else if j = 45 ∧ k = γ 4 10 then γ 4 12 else if j = 43 ∧ k = γ 4 10 then γ 4 4 else if j = 42 ∧ k = γ 4 10 then a0 else γ j k := by simp [oeqS, stA]
theorem NI.oeq {γ : St} {a0 : Int} (h : NI γ) : LfI (oeqS γ a0) ∧ FrL γ (oeqS γ a0) := by
  have ⟨hT, hV, hC, hZ, hU⟩ := h
  have ⟨c1, c2, c3, c4, c5, c6⟩ := hC
  have s0 := oeqS_v γ a0
  generalize oeqS γ a0 = γs at *
  have e : ∀ j k, (j < 42 ∨ 46 < j ∨ j = 44 ∨ k ≠ γ 4 10) → γs j k = γ j k := fun j k q => by rw [s0]; repeat rw [if_neg (by omega)]
  have b9 := e 3 9 (by omega)
  have b10 := e 4 10 (by omega)
  have b12 := e 4 12 (by omega)
  have b4 := e 4 4 (by omega)
  have b16 := e 1 6 (by omega)
  have b46 : γs 46 (γ 4 10) = 0 := by rw [s0]; simp
  have b45 : γs 45 (γ 4 10) = γ 4 12 := by rw [s0]; simp
  have b43 : γs 43 (γ 4 10) = γ 4 4 := by rw [s0]; simp
  refine ⟨⟨⟨hT.ext (fun j k q => e j k (by omega)), hV.ext (fun j k q => e j k (by omega)), ?_, ?_, ?_⟩, ?_, ?_, ?_⟩, fun j k q => e j k (by omega), by omega, fun j k q => e j k (by omega)⟩
  · refine ⟨by omega, by omega, by omega, ?_, fun x h1 h2 => ?_, fun h1 => ?_, fun x h1 h2 => ?_⟩
    · rw [b4, b10, Pf_ext (γ := γ) (fun i _ _ => e 40 i (by omega))]; exact c4
    · rw [e 43 _ (by omega), e 44 _ (by omega)]; exact c5 x h1 (by omega)
    · rw [b4, b10, e 44 _ (by omega)]; exact c6.1 (by omega)
    · rw [e 43 _ (by omega), e 44 _ (by omega)]; exact c6.2 x h1 (by omega)
  · rw [b9, e 25 _ (by omega), e 29 _ (by omega)]
    exact hZ.up (Int.le_refl _) (Int.le_refl _) b9 (fun j k _ _ _ => e j k (by omega)) (fun j k _ _ => e j k (by omega)) (fun j k _ _ _ => e j k (by omega)) (fun j k _ _ _ => e j k (by omega)) (fun k _ => e 47 k (by omega)) (by omega) (by omega) (by omega)
  · rw [b9]
    have ⟨a1, a2, a3, a4, a5⟩ := hU
    have d : ∀ j, 24 ≤ j → j ≤ 29 → γs j (γ 3 9) = γ j (γ 3 9) := fun j _ _ => e j _ (by omega)
    have d24 := d 24 (by omega) (by omega)
    have d25 := d 25 (by omega) (by omega)
    have d26 := d 26 (by omega) (by omega)
    have d27 := d 27 (by omega) (by omega)
    have d28 := d 28 (by omega) (by omega)
    have d29 := d 29 (by omega) (by omega)
    have d2 := e 2 8 (by omega)
    refine ⟨by omega, by omega, by omega, fun v q1 q2 => ?_, fun w q1 q2 => ?_⟩
    · unfold VrI
      rw [d25, b12, e 34 _ (by omega), e 35 _ (by omega), e 36 _ (by omega)]
      exact a4 v q1 (by omega)
    · exact (a5 w (by omega) (by omega)).ext (by omega) (by omega) (Int.le_refl _) (fun j k _ _ _ => e j k (by omega)) (fun j _ _ => e j w (by omega)) (fun k _ => e 47 k (by omega)) (by omega) (by omega)
  · rw [b10, b43, b4]
  · rw [b10, b45, b46, b12]; omega
  · intro i q1 q2
    rw [b10, b45] at q1
    omega
/-- an equation closes -/
def ceqS (γ : St) : St := setA (setA γ 44 (γ 4 10) (γ 4 4)) 4 10 (γ 4 10 + 1)
theorem ceqS_v (γ : St) (j : Nat) (k : Int) : ceqS γ j k = if j = 4 ∧ k = 10 then γ 4 10 + 1 else if j = 44 ∧ k = γ 4 10 then γ 4 4 else γ j k := by simp [ceqS, stA]
/-- an equation is read -/
def EqP (γ : St) (z : Int × St) : Prop := FlP γ z ∨ z.1 = 1 ∧ NI z.2 ∧ FrX γ z.2 ∧ γ 1 6 < z.2 1 6 ∧ z.2 1 7 = γ 1 7 ∧ z.2 1 5 = γ 1 5 ∧ z.2 3 9 = γ 3 9 ∧ z.2 4 10 = γ 4 10 + 1 ∧ z.2 29 (γ 3 9) = γ 29 (γ 3 9)
set_option maxHeartbeats 1000000 in
theorem LfI.close {γ γ' : St} (h : LfI γ) (h46 : 1 ≤ γ 46 (γ 4 10)) (hR : RS γ') (hF : FrR γ γ') (h6 : γ 1 6 < γ' 1 6) (h68 : γ' 6 8 = 0) (h612 : γ' 6 12 = 0) : NI (ceqS γ') := by
  have ⟨⟨hT, hV, hC, hZ, hU⟩, l1, l2, l3⟩ := h
  have ⟨c1, c2, c3, c4, c5, c6⟩ := hC
  have ⟨⟨hT', j1, j2, j3, j4, j5, j6, j7⟩, ⟨⟨r1, r2⟩, r3, r4, r5, r6⟩, hV', hz⟩ := hR
  have f := fun j k q => hF.c j k q
  have e10 := f 4 10 (by omega)
  have e12 := f 4 12 (by omega)
  have e9 := f 3 9 (by omega)
  have e43 := f 43 (γ 4 10) (by omega)
  have e28 := f 28 (γ 3 9) (by omega)
  have m4 : γ 4 4 ≤ γ' 4 4 := hF.2.1
  have m9 : γ' 6 9 = 1 := by rw [h68] at j4; rw [j4, h612]; rfl
  have p1 : Pf γ' (γ' 4 4) = γ 4 10 + 1 := by rw [r4, m9, h68, e10, show inS γ' 0 = 0 from rfl]; omega
  have p0 : Pf γ' (γ 4 4) = γ 4 10 := by rw [← l1, ← e43, ← e10]; exact r3
  rw [e10, e43, l1] at r6
  have lt : γ 4 4 < γ' 4 4 := by
    have := Pf_le (γ := γ') c1.1 m4 (fun i q1 q2 => sdK_nn (r6 i q1 q2).1)
    omega
  have s0 := ceqS_v γ'
  generalize ceqS γ' = γs at *
  have e : ∀ j k, (j ≠ 4 ∨ k ≠ 10) → (j ≠ 44 ∨ k ≠ γ 4 10) → γs j k = γ' j k := fun j k q1 q2 => by rw [s0]; repeat rw [if_neg (by omega)]
  have g : ∀ j k, (j = 2 ∨ j = 3 ∨ 14 ≤ j ∧ j < 38 ∨ j = 4 ∧ k ≠ 4 ∧ k ≠ 10 ∨ 38 ≤ j ∧ j ≤ 41 ∧ k < γ 4 4 ∨ 42 ≤ j ∧ j < 48 ∧ (j ≠ 44 ∨ k ≠ γ 4 10)) → γs j k = γ j k := fun j k q => by
    rw [e j k (by omega) (by omega)]
    by_cases q2 : 38 ≤ j ∧ j ≤ 41
    · exact hF.2.2 j k q2.1 q2.2 (by omega)
    · exact f j k (by omega)
  have b9 : γs 3 9 = γ 3 9 := g 3 9 (by omega)
  have b10 : γs 4 10 = γ 4 10 + 1 := by rw [s0, e10]; simp
  have b12 : γs 4 12 = γ 4 12 := g 4 12 (by omega)
  have b4 : γs 4 4 = γ' 4 4 := e 4 4 (by omega) (by omega)
  have b16 : γs 1 6 = γ' 1 6 := e 1 6 (by omega) (by omega)
  have b44 : γs 44 (γ 4 10) = γ' 4 4 := by rw [s0, e10]; simp
  have b43 : γs 43 (γ 4 10) = γ 4 4 := by rw [g 43 _ (by omega)]; exact l1
  have b28 : γs 28 (γ 3 9) = γ 28 (γ 3 9) := g 28 _ (by omega)
  have bP : ∀ k, Pf γs k = Pf γ' k := fun k => Pf_ext (fun i _ _ => e 40 i (by omega) (by omega))
  refine ⟨hT'.ext (fun j k q => e j k (by omega) (by omega)), hV'.ext (fun j k q => e j k (by omega) (by omega)), ?_, ?_, ?_⟩
  · refine ⟨by omega, by omega, by omega, ?_, fun x h1 h2 => ?_, fun h1 => ?_, fun x h1 h2 => ?_⟩
    · rw [b4, b10, bP]; exact p1
    · by_cases q : x + 1 = γ 4 10
      · rw [q, b43, g 44 x (by omega)]
        rw [show x = γ 4 10 - 1 by omega]
        exact (c6.1 (by omega)).symm
      · rw [g 43 _ (by omega), g 44 _ (by omega)]; exact c5 x h1 (by omega)
    · rw [b4, b10, show γ 4 10 + 1 - 1 = γ 4 10 by omega]; exact b44
    · by_cases q : x = γ 4 10
      · rw [q, b43, b44]; omega
      · rw [g 43 _ (by omega), g 44 _ (by omega)]; exact c6.2 x h1 (by omega)
  · rw [b9, g 25 _ (by omega), g 29 _ (by omega)]
    exact hZ.up (Int.le_refl _) (Int.le_refl _) b9 (fun j k _ _ _ => g j k (by omega)) (fun j k _ _ => g j k (by omega)) (fun j k _ _ _ => g j k (by omega)) (fun j k _ _ _ => g j k (by omega)) (fun k _ => g 47 k (by omega)) (by omega) (by omega) (by omega)
  · rw [b9]
    have ⟨a1, a2, a3, a4, a5⟩ := hU
    have d : ∀ j, 24 ≤ j → j ≤ 29 → γs j (γ 3 9) = γ j (γ 3 9) := fun j _ _ => g j _ (by omega)
    have d24 := d 24 (by omega) (by omega)
    have d25 := d 25 (by omega) (by omega)
    have d26 := d 26 (by omega) (by omega)
    have d27 := d 27 (by omega) (by omega)
    have d29 := d 29 (by omega) (by omega)
    have d2 := g 2 8 (by omega)
    refine ⟨by omega, by omega, by omega, fun v q1 q2 => ?_, fun w q1 q2 => ?_⟩
    · unfold VrI
      rw [d25, b12, g 34 _ (by omega), g 35 _ (by omega), g 36 _ (by omega)]
      exact a4 v q1 (by omega)
    · by_cases q : w = γ 4 10
      · subst q
        refine ⟨?_, ?_, ?_, ?_, fun i q1 q2 => ?_, fun i q1 q2 => ?_⟩
        · rw [b43, b44, b4]; omega
        · rw [b43, bP]; exact p0
        · rw [b44, bP]; exact p1
        · rw [g 45 _ (by omega), g 46 _ (by omega), b12]; omega
        · rw [g 45 _ (by omega)] at q1
          rw [g 45 _ (by omega), g 46 _ (by omega)] at q2
          rw [g 47 i (by omega), b28]
          exact l3 i q1 (by omega)
        · rw [b43] at q1
          rw [b44] at q2
          have y := r6 i q1 q2
          rw [e9, e28] at y
          rw [b28]
          exact y.ext (by omega) (e 38 i (by omega) (by omega)) (e 39 i (by omega) (by omega)) (fun k _ _ => e 40 k (by omega) (by omega))
      · exact (a5 w (by omega) (by omega)).ext (by omega) (by omega) (Int.le_refl _) (fun j k _ _ _ => g j k (by omega)) (fun j _ _ => g j w (by omega)) (fun k _ => g 47 k (by omega)) (by omega) (by omega)
theorem w_readEquation_b46 {γ γ0 : St} {x1 : Int} (h : LfI γ) (h46 : 1 ≤ γ 46 (γ 4 10)) (hF0 : FrL γ0 γ) (hx : x1 = 0 ∨ x1 = 1) : wp (f_Nr_readEquation_b46 γ x1 1) (EqP γ0) := by
  have hT := h.1.1
  unfold f_Nr_readEquation_b46
  refine wp_ite (fun c => absurd c (by decide)) (fun _ => wp_bnd (w_Tk_expect hT (by omega)) (fun r γ1 hz => ?_))
  obtain ⟨z1, z2, z3⟩ := hz
  have z1 : TkR γ1 := z1
  have z2 : FrC γ γ1 := z2
  have z3 : r = 0 ∧ γ1 1 7 ≠ 0 ∧ γ1 1 6 = γ 1 6 ∨ r = 1 ∧ γ1 1 7 = γ 1 7 ∧ γ1 1 6 = γ 1 6 + 1 := z3
  have hL := h.fr z1 z2 (by omega)
  refine wp_ite (fun c => wp_some (Or.inl ⟨rfl, by show γ1 1 7 ≠ 0; omega, hF0.1.tr z2.X⟩)) (fun c => ?_)
  have hFL := hF0.tr (z2.L (by omega) (by omega))
  have hE : EqI γ1 := ⟨z1, hL.1.2.1, hL.1.2.2.1.1, hL.2.1, hL.1.2.2.1.2.2.2.1⟩
  refine wp_bnd (w_readRightSide hE hx) (fun r2 γ2 q => ?_)
  obtain ⟨q1, q2, q3, q4⟩ := q
  have q1 : RS γ2 := q1
  have q2 : FrR γ1 γ2 := q2
  have q3 : γ1 1 6 ≤ γ2 1 6 := q3
  have q4 : r2 = 0 ∧ γ2 1 7 ≠ 0 ∨ r2 = 1 ∧ γ2 1 7 = γ1 1 7 ∧ γ2 6 8 = 0 ∧ γ2 6 12 = 0 ∧ γ1 1 6 < γ2 1 6 := q4
  refine wp_ite (fun c2 => wp_some (Or.inl ⟨rfl, by show γ2 1 7 ≠ 0; omega, hFL.1.tr q2.X⟩)) (fun c2 => ?_)
  have hN := hL.close (by rw [z2 4 10 (by omega), z2 46 _ (by omega)]; exact h46) q1 q2 (by omega) (by omega) (by omega)
  have e10 := q2.c 4 10 (by omega)
  have c2 := hL.1.2.2.1.2.1
  have rm := q1.1.rm
  have c4 := q2.2.1
  have s0 := ceqS_v γ2
  refine wp_bs (r := 0) (γ := ceqS γ2) ?_ (wp_some (Or.inr ⟨rfl, hN, ?_, ?_, ?_, ?_, ?_, ?_, ?_⟩))
  · unfold f_Cd_closeEquation
    exact some_wp (wp_chk (by omega) (wp_sub (wp_chk (by simp [stA]; omega) (wp_sub (wp_some (by simp [ceqS, stA]))))))
  · intro j k q
    show ceqS γ2 j k = _
    rw [s0, if_neg (by omega), if_neg (by omega)]
    exact (hFL.1.tr q2.X) j k q
  · show γ0 1 6 < ceqS γ2 1 6
    rw [s0]; simp
    have := hFL.2.1
    omega
  · show ceqS γ2 1 7 = γ0 1 7
    rw [s0]; simp
    have := hFL.2.2 1 7 (by omega)
    omega
  · show ceqS γ2 1 5 = γ0 1 5
    rw [s0]; simp
    exact (q2.c 1 5 (by omega)).trans (hFL.2.2 1 5 (by omega))
  · show ceqS γ2 3 9 = γ0 3 9
    rw [s0]; simp
    exact (q2.c 3 9 (by omega)).trans (hFL.2.2 3 9 (by omega))
  · show ceqS γ2 4 10 = γ0 4 10 + 1
    rw [s0]; simp
    exact e10.trans (hFL.2.2 4 10 (by omega))
  · show ceqS γ2 29 _ = _
    rw [s0, if_neg (by omega), if_neg (by omega)]
    exact (q2.c 29 _ (by omega)).trans (hFL.2.2 29 _ (by omega))
theorem w_readEquation {γ : St} (h : NI γ) : wp (f_Nr_readEquation γ) (EqP γ) := by
  have hC := h.2.2.1
  have t1 := h.1.1.2.1
  have t2 := h.1.2.1
  have c1 := hC.1
  have c2 := hC.2.1
  unfold f_Nr_readEquation
  refine wp_bnd (w_Tk_placeNow h.1) (fun r γ1 e => ?_)
  obtain ⟨e, er⟩ := e
  have e : γ1 = γ := e
  subst e
  have ⟨o1, o2⟩ := h.oeq (a0 := r)
  refine wp_bs (r := 0) (γ := oeqS γ1 r) ?_ ?_
  · unfold f_Cd_openEquation
    exact some_wp (wp_chk (by omega) (wp_sub (wp_chk (by simp [stA]; omega) (wp_sub (wp_chk (by simp [stA]; omega) (wp_sub (wp_chk (by simp [stA]; omega) (wp_sub (wp_some (by simp [oeqS, stA]))))))))))
  · generalize oeqS γ1 r = γs at *
    refine wp_bnd (w_Tk_kindNow o1.1.1) (fun r2 γ2 e => ?_)
    obtain ⟨e, er2⟩ := e
    have e : γ2 = γs := e
    have er2 : r2 = γs 14 (γs 1 6) := er2
    subst e
    have key : ∀ x, (x = 0 ∨ x = 1) → ∀ r3 γ3, LfP γ2 (r3, γ3) → wp (f_Nr_readEquation_b46 γ3 x r3) (EqP γ1) := by
      intro x hx r3 γ3 q
      have q : LfP γ1 (r3, γ3) := LfP.pre q o2
      rcases q with q | q
      · have e0 : r3 = 0 := q.1
        rw [e0]
        unfold f_Nr_readEquation_b46
        exact wp_ite (fun _ => wp_some (Or.inl ⟨rfl, q.2.1, q.2.2⟩)) (fun c => absurd rfl c)
      · have e1 : r3 = 1 := q.1
        rw [e1]
        exact w_readEquation_b46 q.2.1 q.2.2.2 q.2.2.1 hx
    unfold f_Nr_readEquation_b30
    refine wp_ite (fun _ => wp_ite (fun _ => wp_bnd (w_readLeft o1) (key 0 (by omega))) (fun c => absurd rfl c)) (fun c => wp_ite (fun c => absurd c (by decide)) (fun _ => wp_bnd (w_readLefts o1 (by omega)) (key 1 (by omega))))
