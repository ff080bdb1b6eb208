/-! the class's expression reader: the right side -/
theorem w_readCloser {γ : St} {a0 : Int} (h : RS γ) (hn : γ 6 12 = 0) (ha : a0 = γ 14 (γ 1 6)) : wp (f_Er_readCloser γ a0) (RsP γ) := by
  have hT := h.1.1
  have i1 := h.1.2.1
  have nb := h.1.nb
  have key : ∀ t, (γ 6 8 ≤ 0 ∧ t = 0 ∨ 1 ≤ γ 6 8 ∧ t = γ 48 (γ 6 8 - 1)) → wp (f_Er_readCloser_b22 γ a0 t) (RsP γ) := by
    intro t ht
    have b157 : wp (f_Er_readCloser_b157 γ) (RsP γ) := w_fail h (by omega)
    have b116 : wp (f_Er_readCloser_b116 γ a0 t) (RsP γ) := by
      unfold f_Er_readCloser_b116
      refine wp_ite (fun _ => b157) (fun c => wp_ite (fun c2 => ?_) (fun _ => wp_ite (fun _ => b157) (fun c2 => ?_)))
      · exact w_closer_b133 h (by omega) hn (by omega) (by omega)
      · exact w_closer_b133 h (by omega) hn (by omega) (by omega)
    have b77 : wp (f_Er_readCloser_b77 γ a0 t) (RsP γ) := by
      unfold f_Er_readCloser_b77
      refine wp_ite (fun _ => b116) (fun c => wp_ite (fun _ => b116) (fun c2 => ?_))
      refine wp_chk (by omega) (wp_sub (wp_chk (by simp [stA]; omega) (wp_sub ?_)))
      have w := w_paren h (by omega) hn (by omega) (by omega)
      refine wp_bs (step_eq (hT.ext (fun j k h1 => by simp [stA]; grind)) (by simp [stA]; omega)) (wp_some ?_)
      simpa [stA] using w
    have b71 : t = 32 ∧ a0 = 33 ∨ t = 33 ∧ a0 = 34 → wp (f_Er_readCloser_b71 γ a0) (RsP γ) := fun q => wp_id (w_go h (by omega) hn (by omega) (by omega))
    have b59 : wp (f_Er_readCloser_b59 γ a0 t) (RsP γ) := by
      unfold f_Er_readCloser_b59
      exact wp_ite (fun _ => b77) (fun c => wp_ite (fun _ => b77) (fun c2 => b71 (by omega)))
    have b47 : wp (f_Er_readCloser_b47 γ a0 t) (RsP γ) := by
      unfold f_Er_readCloser_b47
      exact wp_ite (fun _ => b59) (fun c => wp_ite (fun c2 => b71 (by omega)) (fun _ => b59))
    unfold f_Er_readCloser_b22
    refine wp_ite (fun _ => b47) (fun c => wp_ite (fun _ => b47) (fun c2 => wp_sub ?_))
    have n0 : γ 6 8 = 0 := by
      rcases ht with q | q
      · omega
      · exact absurd (by omega) (h.2.2.2 (γ 6 8 - 1) (by omega) (by omega))
    have h1 : RS (setA γ 6 14 1) := h.ext (fun j k hj => by simp [stA]; grind)
    have hk1 : setA γ 6 14 1 14 (setA γ 6 14 1 1 6) ≠ 0 := by simp [stA]; omega
    refine wp_bs (step_eq h1.1.1 hk1) (wp_some ?_)
    have ⟨s1, s2⟩ := step_T h1.1.1 hk1
    have s0 : ∀ j k, stepS (setA γ 6 14 1) j k = if j = 1 ∧ k = 6 then γ 1 6 + 1 else if j = 6 ∧ k = 14 then 1 else γ j k := fun j k => by rw [stepS_v]; simp [stA]
    have h2 : RS (stepS (setA γ 6 14 1)) := h1.fr s1 s2 (by rw [stepS_v]; simp [stA]; omega)
    generalize stepS (setA γ 6 14 1) = γs at *
    refine ⟨h2, ⟨?_, ?_, fun j k q1 q2 q3 => ?_⟩, ?_, Or.inr ⟨?_, ?_⟩, Or.inr ⟨rfl, ?_, ?_⟩⟩
    · intro j k q1 q2 q3 q4; show γs j k = _; rw [s0]; repeat rw [if_neg (by omega)]
    · show γ 4 4 ≤ γs 4 4; rw [s0]; simp
    · show γs j k = _; rw [s0]; repeat rw [if_neg (by omega)]
    · show γ 1 6 ≤ γs 1 6; rw [s0]; simp; omega
    · show γs 6 8 = 0; rw [s0]; simpa using n0
    · show γs 6 12 = 0; rw [s0]; simpa using hn
    · show γs 1 7 = _; rw [s0]; simp
    · show γ 1 6 < γs 1 6; rw [s0]; simp; omega
  unfold f_Er_readCloser
  exact wp_ite (fun c => key 0 (Or.inl ⟨c, rfl⟩)) (fun c => wp_chk (by omega) (wp_chk (by omega) (key _ (Or.inr ⟨by omega, rfl⟩))))
theorem rank_two {k : Int} (h1 : 1 ≤ rankK k) (h8 : rankK k < 8) (h34 : k ≠ 34) : ndK k = 1 ∧ k ≠ 43 ∧ k ≠ 0 := by
  unfold rankK at h1 h8
  unfold ndK
  grind (splits := 60)
theorem w_readOperator {γ : St} (h : RS γ) (hn : γ 6 12 = 0) : wp (f_Er_readOperator γ) (RsP γ) := by
  have hT := h.1.1
  unfold f_Er_readOperator
  refine wp_bnd (w_Tk_kindNow hT) (fun r γ1 e => ?_)
  obtain ⟨e, er⟩ := e
  have e : γ1 = γ := e
  have er : r = γ 14 (γ 1 6) := er
  subst e
  have b75 : wp (f_Er_readOperator_b75 γ1 r) (RsP γ1) := by
    unfold f_Er_readOperator_b75
    refine wp_bnd (w_Er_reduce h.1 h.2.1 hn (by omega)) (fun r2 γ2 hz => ?_)
    have hz : RdP γ1 (r2, γ2) := hz
    have hR : RS γ2 := hz.N h.2.2
    have hF : FrR γ1 γ2 := hz.2.1
    have h12 : γ2 6 12 = 0 := hz.2.2.1
    have h16 : γ2 1 6 = γ1 1 6 := hz.2.2.2.2.1
    have h14 : γ2 6 14 = γ1 6 14 := hz.2.2.2.2.2.1 6 14 (by omega)
    have h7 : r2 = 0 ∧ γ2 1 7 ≠ 0 ∨ r2 = 1 ∧ γ2 1 7 = γ1 1 7 := hz.2.2.2.2.2.2.2
    refine wp_ite (fun c => wp_some ⟨hR, hF, Int.le_of_eq h16.symm, Or.inl h14, Or.inl ⟨rfl, by show γ2 1 7 ≠ 0; omega⟩⟩) (fun c => ?_)
    refine wp_bnd (w_readCloser hR h12 (by rw [h16, hF.c 14 _ (by omega)]; exact er)) (fun r3 γ3 q => ?_)
    have q : RsP γ1 (r3, γ3) := RsP.pre q hF (by omega) (by omega) h14
    have q5 : r3 = 0 ∧ γ3 1 7 ≠ 0 ∨ r3 = 1 ∧ γ3 1 7 = γ1 1 7 ∧ γ1 1 6 < γ3 1 6 := q.2.2.2.2
    refine wp_ite (fun c3 => wp_some ?_) (fun c3 => wp_some ?_)
    · rw [c3] at q; exact q
    · rw [show r3 = 1 by omega] at q; exact q
  have b43 : ∀ x, wp (f_Er_readOperator_b43 γ1 r x) (RsP γ1) := by
    intro x
    unfold f_Er_readOperator_b43
    refine wp_bs (f_S_rank_eq _ _) (wp_ite (fun _ => b75) (fun c1 => wp_ite (fun _ => b75) (fun c2 => wp_ite (fun _ => b75) (fun c3 => wp_ite (fun _ => b75) (fun _ => ?_)))))
    have rt := rank_two (k := r) (by omega) (by omega) c3
    exact wp_id (w_readTwoSided h hn (by omega) rt.1 rt.2 (by omega))
  have b27 : ∀ x, wp (f_Er_readOperator_b27 γ1 r x) (RsP γ1) := by
    intro x
    unfold f_Er_readOperator_b27
    exact wp_ite (fun _ => b43 x) (fun c => wp_ite (fun _ => b43 x) (fun _ => wp_id (w_readWhen h hn (by omega))))
  have b26 : wp (f_Er_readOperator_b26 γ1 r) (RsP γ1) := b27 0
  exact wp_ite (fun _ => b26) (fun _ => wp_ite (fun _ => b26) (fun _ => b27 1))
/-- the right side is read: it stands complete -/
def RrP (γ : St) (z : Int × St) : Prop := RS z.2 ∧ FrR γ z.2 ∧ γ 1 6 ≤ z.2 1 6 ∧ (z.1 = 0 ∧ z.2 1 7 ≠ 0 ∨ z.1 = 1 ∧ z.2 1 7 = γ 1 7 ∧ z.2 6 8 = 0 ∧ z.2 6 12 = 0 ∧ γ 1 6 < z.2 1 6)
theorem w_right_L57 : ∀ (n : Nat) (γ : St) (x6 x7 : Int), RS γ → (x6 = 0 ∧ γ 1 7 ≠ 0 ∨ x6 = 1) → (γ 6 14 = 0 ∨ γ 6 8 = 0 ∧ γ 6 12 = 0) → 0 ≤ x7 → (x6 = 1 → x7 ≤ γ 1 6) → x7 ≤ γ 1 5 → γ 1 5 - x7 < n → wp (f_Er_readRightSide_L57 n γ x6 x7) (fun z => RS z.2 ∧ FrR γ z.2 ∧ γ 1 6 ≤ z.2 1 6 ∧ (z.1 = 0 ∧ z.2 1 7 ≠ 0 ∨ x6 = 1 ∧ z.1 = 1 ∧ z.2 1 7 = γ 1 7 ∧ z.2 6 8 = 0 ∧ z.2 6 12 = 0 ∧ (γ 6 14 = 0 → γ 1 6 < z.2 1 6))) := by
  intro n
  induction n with
  | zero => intro γ x6 x7 h h1 h2 h3 h4 h5 h6; exfalso; omega
  | succ n ih =>
    intro γ x6 x7 h h1 h2 h3 h4 h5 h6
    have t1 := h.1.1.1.2.1
    have t2 := h.1.1.2.1
    have i3 := h.1.2.2.2.1
    unfold f_Er_readRightSide_L57
    refine wp_ite (fun c => wp_chk (by omega) (wp_some ⟨h, FrR.rf, Int.le_refl _, Or.inl ⟨c, by show γ 1 7 ≠ 0; omega⟩⟩)) (fun c => ?_)
    have c1 : x6 = 1 := by omega
    have h4 := h4 c1
    refine wp_ite (fun c2 => wp_chk (by omega) (wp_some ⟨h, FrR.rf, Int.le_refl _, Or.inr ⟨c1, c1, rfl, by show γ 6 8 = 0; omega, by show γ 6 12 = 0; omega, fun q => absurd q c2⟩⟩)) (fun c2 => ?_)
    refine wp_ite (fun c3 => by omega) (fun c3 => ?_)
    have key : ∀ r γ2, RsP γ (r, γ2) → wp (f_Er_readRightSide_b97 (f_Er_readRightSide_L57 n) γ2 x7 r) (fun z => RS z.2 ∧ FrR γ z.2 ∧ γ 1 6 ≤ z.2 1 6 ∧ (z.1 = 0 ∧ z.2 1 7 ≠ 0 ∨ x6 = 1 ∧ z.1 = 1 ∧ z.2 1 7 = γ 1 7 ∧ z.2 6 8 = 0 ∧ z.2 6 12 = 0 ∧ (γ 6 14 = 0 → γ 1 6 < z.2 1 6))) := by
      intro r γ2 q
      obtain ⟨a1, a2, a3, a4, a5⟩ := q
      have a1 : RS γ2 := a1
      have a2 : FrR γ γ2 := a2
      have a3 : γ 1 6 ≤ γ2 1 6 := a3
      have a4 : γ2 6 14 = γ 6 14 ∨ γ2 6 8 = 0 ∧ γ2 6 12 = 0 := a4
      have a5 : r = 0 ∧ γ2 1 7 ≠ 0 ∨ r = 1 ∧ γ2 1 7 = γ 1 7 ∧ γ 1 6 < γ2 1 6 := a5
      have e5 : γ2 1 5 = γ 1 5 := a2.c 1 5 (by omega)
      have t3 := a1.1.1.2.1
      unfold f_Er_readRightSide_b97
      refine wp_chk (by omega) (wp_mono (ih γ2 r (x7 + 1) a1 (by omega) (by omega) (by omega) (by omega) (by omega) (by omega)) (fun z hz => ?_))
      obtain ⟨b1, b2, b3, b4⟩ := hz
      exact ⟨b1, a2.tr b2, by omega, by omega⟩
    exact wp_ite (fun c4 => wp_bnd (w_readOperator h c4) key) (fun c4 => wp_bnd (w_readOperand h (by omega)) key)
/-- an equation's right side begins -/
def EqI (γ : St) : Prop := TkR γ ∧ NdV γ ∧ (0 ≤ γ 4 4 ∧ γ 4 4 ≤ γ 1 6) ∧ γ 43 (γ 4 10) = γ 4 4 ∧ Pf γ (γ 4 4) = γ 4 10
theorem w_readRightSide {γ : St} {a0 : Int} (h : EqI γ) (ha : a0 = 0 ∨ a0 = 1) : wp (f_Er_readRightSide γ a0) (RrP γ) := by
  have ⟨hT, hV, h4, h43, hP⟩ := h
  have t1 := hT.1.2.1
  have t2 := hT.2.1
  have := FU_v
  unfold f_Er_readRightSide
  refine wp_sub (wp_sub (wp_sub (wp_chk ha (wp_sub (wp_sub (wp_sub (wp_sub ?_)))))))
  generalize hs : setA _ 6 14 0 = γs
  have s0 : ∀ j k, γs j k = if j = 6 ∧ k = 14 then 0 else if j = 6 ∧ k = 13 then 1 else if j = 6 ∧ k = 12 then 1 else if j = 6 ∧ k = 11 then a0 else if j = 6 ∧ k = 10 then 0 else if j = 6 ∧ k = 9 then 0 else if j = 6 ∧ k = 8 then 0 else γ j k := fun j k => by rw [← hs]; simp [stA]
  have b8 : γs 6 8 = 0 := by rw [s0]; simp
  have b9 : γs 6 9 = 0 := by rw [s0]; simp
  have b10 : γs 6 10 = 0 := by rw [s0]; simp
  have b12 : γs 6 12 = 1 := by rw [s0]; simp
  have b14 : γs 6 14 = 0 := by rw [s0]; simp
  have b4 : γs 4 4 = γ 4 4 := by rw [s0]; simp
  have b410 : γs 4 10 = γ 4 10 := by rw [s0]; simp
  have b16 : γs 1 6 = γ 1 6 := by rw [s0]; simp
  have b15 : γs 1 5 = γ 1 5 := by rw [s0]; simp
  have b17 : γs 1 7 = γ 1 7 := by rw [s0]; simp
  have b43 : γs 43 (γ 4 10) = γ 4 4 := by rw [s0]; simpa using h43
  have bP : Pf γs (γ 4 4) = γ 4 10 := by rw [← hP]; exact Pf_ext (fun i _ _ => by rw [s0]; simp)
  have hR : RS γs := by
    refine ⟨⟨hT.ext (fun j k hj => by rw [s0]; repeat rw [if_neg (by omega)]), by omega, by omega, Or.inr b12, ?_, ?_, by omega, fun i q1 q2 => by omega⟩, ⟨?_, ?_, ?_, fun i q1 q2 => by omega, fun i q1 q2 => ?_⟩, hV.ext (fun j k hj => by rw [s0]; repeat rw [if_neg (by omega)]), fun i q1 q2 => by omega⟩
    · rw [b9, b8, b12]; rfl
    · rw [b10, b8]; rfl
    · rw [b410, b43, b4]; omega
    · rw [b410, b43]; exact bP
    · rw [b410, b4, b9, b8, bP, show inS γs 0 = 0 from rfl]; omega
    · rw [b410, b43] at q1; rw [b4] at q2; omega
  have hF : FrR γ γs := ⟨fun j k q1 q2 q3 q4 => by rw [s0]; repeat rw [if_neg (by omega)], by omega, fun j k q1 q2 q3 => by rw [s0]; repeat rw [if_neg (by omega)]⟩
  have b54 : ∀ γ2 x, RS γ2 → FrR γ γ2 → γ 1 6 ≤ γ2 1 6 → (x = 0 ∧ γ2 1 7 ≠ 0 ∨ x = 1 ∧ γ2 1 7 = γ 1 7) → (γ2 6 14 = 0 ∨ γ2 6 8 = 0 ∧ γ2 6 12 = 0) → (γ 1 6 < γ2 1 6 ∨ γ2 6 14 = 0) → wp (f_Er_readRightSide_b54 γ2 x) (RrP γ) := by
    intro γ2 x r1 r2 r3 r4 r5 r6
    have t3 := r1.1.1.1.2.1
    have t4 := r1.1.1.2.1
    unfold f_Er_readRightSide_b54
    refine wp_mono (w_right_L57 FU γ2 x 0 r1 (by omega) r5 (by omega) (by omega) (by omega) (by omega)) (fun z hz => ?_)
    obtain ⟨q1, q2, q3, q4⟩ := hz
    exact ⟨q1, r2.tr q2, by omega, by omega⟩
  refine wp_ite (fun _ => ?_) (fun _ => ?_)
  · exact b54 γs 1 hR hF (by omega) (by omega) (by omega) (by omega)
  · refine wp_bnd (w_readCalled hR b12) (fun r γ2 q => ?_)
    obtain ⟨a1, a2, a3, a4, a5⟩ := q
    have a1 : RS γ2 := a1
    have a2 : FrR γs γ2 := a2
    have a3 : γs 1 6 ≤ γ2 1 6 := a3
    have a4 : γ2 6 14 = γs 6 14 ∨ γ2 6 8 = 0 ∧ γ2 6 12 = 0 := a4
    have a5 : r = 0 ∧ γ2 1 7 ≠ 0 ∨ r = 1 ∧ γ2 1 7 = γs 1 7 ∧ γs 1 6 < γ2 1 6 := a5
    refine wp_ite (fun c => ?_) (fun c => ?_)
    · have hx : γ2 1 7 ≠ 0 := by omega
      unfold f_Er_readRightSide_b54
      have t3 := a1.1.1.1.2.1
      have t4 := a1.1.1.2.1
      refine wp_mono (w_right_L57 FU γ2 0 0 a1 (by omega) (by omega) (by omega) (by omega) (by omega) (by omega)) (fun z hz => ?_)
      obtain ⟨q1, q2, q3, q4⟩ := hz
      exact ⟨q1, hF.tr (a2.tr q2), by omega, by omega⟩
    · exact b54 γ2 1 a1 (hF.tr a2) (by omega) (by omega) (by omega) (by omega)
