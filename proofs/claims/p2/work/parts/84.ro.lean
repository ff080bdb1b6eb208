/-! the class's expression reader: operands -/
theorem TkR.wd {γ : St} (h : TkR γ) (hk : γ 14 (γ 1 6) = 2) : 22 ≤ γ 16 (γ 1 6) ∧ γ 16 (γ 1 6) < γ 2 8 ∧ γ 2 8 ≤ 5923 := by
  have ⟨h1, h2, h9⟩ := h
  have := (h1.2.2 (γ 1 6) h2.1 h2.2).2.2 hk
  have := h1.1.1
  omega
/-- the variable that is named here -/
def varS (γ : St) : Int := if γ 22 (γ 16 (γ 1 6)) = γ 3 9 + 1 then γ 21 (γ 16 (γ 1 6)) else -1
theorem var_eq {γ : St} (h : TkR γ) (hV : NdV γ) (hk : γ 14 (γ 1 6) = 2) : f_Er_variableNow γ = some (varS γ, γ) := by
  have a := h.wd hk
  have ⟨h1, h2, h9⟩ := h
  have := h1.2.1
  have := hV.1
  unfold f_Er_variableNow varS
  refine some_wp (wp_chk (by omega) (wp_sub (wp_chk (by omega) (wp_chk (by omega) (wp_ite (fun c => wp_some ?_) (fun c => wp_chk (by omega) (wp_some ?_)))))))
  · rw [if_neg c]
  · rw [if_pos (by omega)]
theorem varS_b {γ : St} (h : TkR γ) (hV : NdV γ) (hk : γ 14 (γ 1 6) = 2) : -1 ≤ varS γ ∧ varS γ < γ 28 (γ 3 9) ∧ (varS γ = -1 ∨ 0 ≤ varS γ) := by
  have a := h.wd hk
  have b := hV.2.2.2.2 (γ 16 (γ 1 6)) (by omega) (by omega)
  have c := hV.2.2.1
  unfold varS
  split
  · have := b.2.2 (by assumption); omega
  · omega
/-- reading a clock: the cursor and the fault change alone -/
def RcP (γ : St) (a0 : Int) (z : Int × St) : Prop := TkR z.2 ∧ FrC γ z.2 ∧ (z.1 = -1 ∧ z.2 1 7 ≠ 0 ∧ γ 1 6 ≤ z.2 1 6 ∨ 0 ≤ z.1 ∧ z.1 < 2 * a0 ∧ z.2 1 7 = γ 1 7 ∧ γ 1 6 < z.2 1 6 ∧ γ 33 (γ 25 (γ 3 9) + z.1 / 2) = 1 ∧ γ 35 (γ 25 (γ 3 9) + z.1 / 2) ≠ 8)
theorem w_readClock_b36 {γ : St} {x4 x5 : Int} (h : TkR γ) (hV : NdV γ) (h4 : 0 ≤ x4 ∧ x4 ≤ γ 28 (γ 3 9)) (h5 : x5 = 0 ∨ x5 = 1) : wp (f_Er_readClock_b36 γ x4 x5) (RcP γ x4) := by
  have ⟨v1, v2, v3, v4, v5⟩ := hV
  have ff : ∀ a, a ≠ 0 → wp (bndN (f_Tk_fail γ a) fun _ γ' => some (-1, γ')) (RcP γ x4) := fun a ha => by
    have ⟨f1, f2, f3, f4⟩ := fail_T (a := a) h ha
    exact wp_bs (fail_eq h) (wp_some ⟨f1, f2, Or.inl ⟨rfl, f4, Int.le_of_eq f3.symm⟩⟩)
  unfold f_Er_readClock_b36
  refine wp_bnd (w_Tk_kindNow h) (fun r γ1 e => ?_)
  obtain ⟨e, er⟩ := e
  have e : γ1 = γ := e
  have er : r = γ 14 (γ 1 6) := er
  subst e
  refine wp_ite (fun c => ?_) (fun c => ff 1 (by omega))
  have hk : γ1 14 (γ1 1 6) = 2 := by omega
  have vb := varS_b h hV hk
  refine wp_bs (var_eq h hV hk) (wp_chk (by omega) (wp_chk (by omega) (wp_sub ?_)))
  have f2 : wp (f_Er_readClock_b105 γ1) (RcP γ1 x4) := ff 2 (by omega)
  refine wp_ite (fun _ => f2) (fun c1 => wp_ite (fun _ => f2) (fun c2 => wp_chk (by omega) (wp_ite (fun c3 => wp_chk (by omega) (wp_ite (fun c4 => ?_) (fun _ => ff 3 (by omega)))) (fun _ => f2))))
  refine wp_bs (step_eq h (by omega)) (wp_chk (by omega) (wp_chk (by omega) (wp_some ?_)))
  have ⟨s1, s2⟩ := step_T h (by omega)
  have d : (2 * varS γ1 + x5) / 2 = varS γ1 := by omega
  refine ⟨s1, s2, Or.inr ⟨by show 0 ≤ 2 * varS γ1 + x5; omega, by show 2 * varS γ1 + x5 < 2 * x4; omega, ?_, ?_, ?_, ?_⟩⟩
  · show stepS γ1 1 7 = _; rw [stepS_v]; simp
  · show _ < stepS γ1 1 6; rw [stepS_v]; simp; omega
  · show γ1 33 (γ1 25 (γ1 3 9) + (2 * varS γ1 + x5) / 2) = 1; rw [d]; exact c3
  · show γ1 35 (γ1 25 (γ1 3 9) + (2 * varS γ1 + x5) / 2) ≠ 8; rw [d]; exact c4
theorem RcP.pre {γ γ' : St} {a0 : Int} {z : Int × St} (h : RcP γ' a0 z) (hF : FrC γ γ') (h6 : γ 1 6 ≤ γ' 1 6) (h7 : γ' 1 7 = γ 1 7) : RcP γ a0 z := by
  refine ⟨h.1, hF.tr h.2.1, ?_⟩
  rcases h.2.2 with q | q
  · exact Or.inl ⟨q.1, q.2.1, by omega⟩
  · refine Or.inr ⟨q.1, q.2.1, by omega, by omega, ?_, ?_⟩
    · have := q.2.2.2.2.1
      rw [hF 33 _ (by omega), hF 25 _ (by omega), hF 3 9 (by omega)] at this
      exact this
    · have := q.2.2.2.2.2
      rw [hF 35 _ (by omega), hF 25 _ (by omega), hF 3 9 (by omega)] at this
      exact this
theorem w_readClock {γ : St} {a0 : Int} (h : TkR γ) (hV : NdV γ) (hk : γ 14 (γ 1 6) ≠ 0) (h4 : 0 ≤ a0 ∧ a0 ≤ γ 28 (γ 3 9)) : wp (f_Er_readClock γ a0) (RcP γ a0) := by
  unfold f_Er_readClock
  refine wp_bs (step_eq h hk) ?_
  have ⟨s1, s2⟩ := step_T h hk
  have s6 : stepS γ 1 6 = γ 1 6 + 1 := by rw [stepS_v]; simp
  have s7 : stepS γ 1 7 = γ 1 7 := by rw [stepS_v]; simp
  generalize stepS γ = γs at *
  have hVs : NdV γs := hV.ext (fun j k hj => s2 j k (by omega))
  have h4s : 0 ≤ a0 ∧ a0 ≤ γs 28 (γs 3 9) := by rw [s2 28 _ (by omega), s2 3 9 (by omega)]; exact h4
  refine wp_bnd (w_Tk_kindNow s1) (fun r γ1 e => ?_)
  obtain ⟨e, er⟩ := e
  have e : γ1 = γs := e
  have er : r = γs 14 (γs 1 6) := er
  subst e
  refine wp_ite (fun c => ?_) (fun c => ?_)
  · unfold f_Er_readClock_b24
    refine wp_ite (fun _ => ?_) (fun c2 => absurd (show (1 : Int) ≠ 0 by decide) c2)
    exact wp_mono (w_readClock_b36 s1 hVs h4s (Or.inr rfl)) (fun z hz => hz.pre s2 (by omega) s7)
  · unfold f_Er_readClock_b24
    refine wp_ite (fun c2 => absurd rfl c2) (fun _ => ?_)
    refine wp_bs (step_eq s1 (by omega)) ?_
    have ⟨u1, u2⟩ := step_T s1 (by omega)
    have u6 : stepS γ1 1 6 = γ1 1 6 + 1 := by rw [stepS_v]; simp
    have u7 : stepS γ1 1 7 = γ1 1 7 := by rw [stepS_v]; simp
    generalize stepS γ1 = γu at *
    have hVu : NdV γu := hVs.ext (fun j k hj => u2 j k (by omega))
    have h4u : 0 ≤ a0 ∧ a0 ≤ γu 28 (γu 3 9) := by rw [u2 28 _ (by omega), u2 3 9 (by omega)]; exact h4s
    exact wp_mono (w_readClock_b36 u1 hVu h4u (Or.inl rfl)) (fun z hz => hz.pre (s2.tr u2) (by omega) (by omega))
/-- a call opens -/
def opnS (γ : St) (x : Int) : St := setA (setA (setA (pushS γ 43 1) 49 (γ 6 8) x) 50 (γ 6 8) 0) 51 (γ 6 8) 0
theorem opnS_v (γ : St) (x : Int) (j : Nat) (k : Int) : opnS γ x j k = if j = 51 ∧ k = γ 6 8 then 0 else if j = 50 ∧ k = γ 6 8 then 0 else if j = 49 ∧ k = γ 6 8 then x else if j = 1 ∧ k = 6 then γ 1 6 + 1 else if j = 6 ∧ k = 13 then 1 else if j = 6 ∧ k = 12 then 1 else if j = 6 ∧ k = 10 then γ 6 10 + nestK 43 else if j = 6 ∧ k = 8 then γ 6 8 + 1 else if j = 48 ∧ k = γ 6 8 then 43 else γ j k := by simp [opnS, stA, pushS_v]
theorem ErJ.ext {γ γ' : St} (h : ErJ γ) (e : ∀ j k, (j < 42 ∧ (j ≠ 6 ∨ k < 13) ∨ j = 48 ∨ j = 52) → γ' j k = γ j k) : ErJ γ' := by
  have ⟨hT, i1, i2, i3, i4, i5, i6, i7⟩ := h
  have e48 : γ' 48 = γ 48 := funext fun k => e 48 k (by omega)
  refine ⟨hT.ext (fun j k hj => e j k (by omega)), ?_, ?_, ?_, ?_, ?_, ?_, fun i h1 h2 => ?_⟩
  · rw [e 6 8 (by omega)]; exact i1
  · rw [e 6 9 (by omega)]; exact i2
  · rw [e 6 12 (by omega)]; exact i3
  · rw [e 6 9 (by omega), e 6 8 (by omega), e 6 12 (by omega), e48]; exact i4
  · rw [e 6 10 (by omega), e 6 8 (by omega), e48]; exact i5
  · rw [e 4 4 (by omega), e 6 8 (by omega), e 1 6 (by omega)]; exact i6
  · rw [e 6 9 (by omega)] at h2
    rw [e 52 i (by omega), e 4 4 (by omega)]
    exact i7 i h1 h2
theorem w_call {γ : St} {x : Int} (h : RS γ) (h8 : γ 6 8 < 512) (hn : γ 6 12 = 1) (hk : γ 14 (γ 1 6) ≠ 0) (hx : 0 ≤ x ∧ x < γ 3 9) : RsP γ (1, opnS γ x) := by
  have q1 : ErJ (pushS γ 43 1) := (eq_wp (w_Er_push (a0 := 43) h.1 (by rw [hn]; decide) hk (Or.inr rfl)) (push_eq h.1 h8 hk (Or.inr rfl))).1
  have s0 := opnS_v γ x
  have sp : ∀ j k, (j < 42 ∧ (j ≠ 6 ∨ k < 13) ∨ j = 48 ∨ j = 52) → opnS γ x j k = pushS γ 43 1 j k := fun j k hj => by rw [s0, if_neg (by omega), if_neg (by omega), if_neg (by omega), pushS_v]
  generalize opnS γ x = γs at *
  refine RsP.ok ⟨q1.ext sp, ?_, ?_, ?_⟩ ⟨?_, ?_, fun j k h1 h2 h3 => ?_⟩ ?_ ?_ ?_
  · refine h.2.1.push h.1.2.1.1 (fun j k hj => ?_) ?_ (fun c => ?_)
    · rw [s0]; repeat rw [if_neg (by omega)]
    · rw [s0]; simp
    · rw [s0 49, s0 50, s0 51]; simp; exact hx
  · exact h.2.2.1.ext (fun j k hj => by rw [s0]; repeat rw [if_neg (by omega)])
  · intro i h1 h2
    have := h.2.2.2 i h1
    rw [s0] at h2 ⊢
    simp at h2 ⊢
    grind
  · intro j k h1 h2 h3 h4; rw [s0]; repeat rw [if_neg (by omega)]
  · rw [s0]; simp
  · rw [s0]; repeat rw [if_neg (by omega)]
  · rw [s0]; simp
  · rw [s0]; simp
  · rw [s0]; simp; omega
set_option maxHeartbeats 1000000 in
theorem w_readCalled {γ : St} (h : RS γ) (hn : γ 6 12 = 1) : wp (f_Er_readCalled γ) (RsP γ) := by
  have hT := h.1.1
  have ⟨v1, v2, v3, v4, v5⟩ := h.2.2.1
  unfold f_Er_readCalled
  refine wp_bnd (w_Tk_kindNow hT) (fun r γ1 e => ?_)
  obtain ⟨e, er⟩ := e
  have e : γ1 = γ := e
  have er : r = γ 14 (γ 1 6) := er
  subst e
  refine wp_ite (fun c => ?_) (fun c => w_fail h (by omega))
  have hk : γ1 14 (γ1 1 6) = 2 := by omega
  have wd := hT.wd hk
  have v6 := v5 (γ1 16 (γ1 1 6)) (by omega) (by omega)
  refine wp_bnd (w_Tk_itemNow hT) (fun r2 γ2 e => ?_)
  obtain ⟨e, er2⟩ := e
  have e : γ2 = γ1 := e
  have er2 : r2 = γ1 16 (γ1 1 6) := er2
  subst e
  subst er2
  refine wp_chk (by omega) (wp_chk (by omega) (wp_sub (wp_ite (fun c1 => ?_) (fun c1 => w_fail h (by omega)))))
  refine wp_bs (step_eq hT (by omega)) ?_
  have ⟨s1, s2⟩ := step_T hT (show γ2 14 (γ2 1 6) ≠ 0 by omega)
  have s6 : stepS γ2 1 6 = γ2 1 6 + 1 := by rw [stepS_v]; simp
  have s7 : stepS γ2 1 7 = γ2 1 7 := by rw [stepS_v]; simp
  generalize stepS γ2 = γs at *
  have hs : RS γs := h.fr s1 s2 (by omega)
  have fl : wp (f_Er_readCalled_b82 γs) (RsP γ2) := wp_mono (w_fail (a := 1) hs (by omega)) (fun z hz => hz.pre s2.R (by omega) s7 (s2 6 14 (by omega)))
  refine wp_bnd (w_Tk_kindNow s1) (fun r3 γ3 e => ?_)
  obtain ⟨e, er3⟩ := e
  have e : γ3 = γs := e
  have er3 : r3 = γs 14 (γs 1 6) := er3
  subst e
  refine wp_ite (fun _ => fl) (fun c2 => ?_)
  have n3 : γ3 6 12 = 1 := by rw [s2 6 12 (by omega)]; exact hn
  have k3 : γ3 14 (γ3 1 6) ≠ 0 := by omega
  by_cases h8 : γ3 6 8 < 512
  · refine wp_bs (push_eq hs.1 h8 k3 (Or.inr rfl)) (wp_ite (fun _ => ?_) (fun c => absurd (show (1 : Int) ≠ 0 by decide) c))
    have p8 : pushS γ3 43 1 6 8 = γ3 6 8 + 1 := by rw [pushS_v]; simp
    have i1 := hs.1.2.1
    have w := (w_call (x := γ2 23 (γ2 16 (γ2 1 6)) - 1) hs h8 n3 k3 ⟨by omega, by rw [s2 3 9 (by omega)]; omega⟩).pre s2.R (by omega) s7 (s2 6 14 (by omega))
    refine wp_chk (by omega) (wp_chk (by omega) (wp_sub (wp_chk (by simp [stA]; omega) (wp_chk (by simp [stA]; omega) (wp_sub (wp_chk (by simp [stA]; omega) (wp_chk (by simp [stA]; omega) (wp_sub (wp_some ?_)))))))))
    have e : opnS γ3 (γ2 23 (γ2 16 (γ2 1 6)) - 1) = setA (setA (setA (pushS γ3 43 1) 49 (pushS γ3 43 1 6 8 - 1) (γ2 23 (γ2 16 (γ2 1 6)) - 1)) 50 (pushS γ3 43 1 6 8 - 1) 0) 51 (pushS γ3 43 1 6 8 - 1) 0 := by
      rw [p8, show γ3 6 8 + 1 - 1 = γ3 6 8 by omega]; rfl
    rw [e] at w
    simpa [stA] using w
  · have ep : f_Er_push γ3 43 1 = some (0, failS γ3 3) := by
      unfold f_Er_push
      rw [if_neg h8]
      exact some_wp (wp_bs (fail_eq s1) (wp_some rfl))
    refine wp_bs ep (wp_ite (fun c => absurd rfl c) (fun _ => ?_))
    have q := hs.fail (a := 3) (by omega)
    have q0 : RS (failS γ3 3) := q.1
    have q1 := q0.fail (a := 1) (by omega)
    unfold f_Er_readCalled_b82
    refine wp_bs (fail_eq q0.1.1) (wp_some ⟨q1.1, s2.R.tr (q.2.1.tr q1.2.1), ?_, Or.inl ?_, ?_⟩)
    · have a1 : γ3 1 6 ≤ failS γ3 3 1 6 := q.2.2.1
      have a2 : failS γ3 3 1 6 ≤ failS (failS γ3 3) 1 1 6 := q1.2.2.1
      show γ2 1 6 ≤ failS (failS γ3 3) 1 1 6
      omega
    · have f1 := (fail_T (a := 3) s1 (by omega)).2.1 6 14 (by omega)
      have f2 := (fail_T (a := 1) q0.1.1 (by omega)).2.1 6 14 (by omega)
      exact f2.trans (f1.trans (s2 6 14 (by omega)))
    · rcases q1.2.2.2.2 with a | a
      · exact Or.inl a
      · exact absurd a.1 (show ¬ (0 : Int) = 1 by decide)
theorem w_readVariable {γ : St} (h : RS γ) (hn : γ 6 12 = 1) (hk : γ 14 (γ 1 6) = 2) : wp (f_Er_readVariable γ) (RsP γ) := by
  have vb := varS_b h.1.1 h.2.2.1 hk
  unfold f_Er_readVariable
  refine wp_bs (var_eq h.1.1 h.2.2.1 hk) (wp_ite (fun c => wp_id (w_take h hn (by omega) (Or.inl ⟨rfl, by omega⟩))) (fun _ => w_fail h (by omega)))
theorem w_readOperand {γ : St} (h : RS γ) (hn : γ 6 12 = 1) : wp (f_Er_readOperand γ) (RsP γ) := by
  have hT := h.1.1
  unfold f_Er_readOperand
  refine wp_ite (fun _ => ?_) (fun _ => w_fail h (by omega))
  refine wp_bnd (w_Tk_kindNow hT) (fun r γ1 e => ?_)
  obtain ⟨e, er⟩ := e
  have e : γ1 = γ := e
  have er : r = γ 14 (γ 1 6) := er
  subst e
  refine wp_ite (fun c => ?_) (fun _ => wp_ite (fun c => ?_) (fun _ => wp_ite (fun c => ?_) (fun _ => wp_ite (fun c => ?_) (fun _ => wp_ite (fun c => ?_) (fun _ => wp_ite (fun c => ?_) (fun _ => wp_ite (fun c => ?_) (fun _ => wp_ite (fun c => ?_) (fun _ => wp_ite (fun c => ?_) (fun _ => wp_ite (fun c => ?_) (fun _ => w_fail h (by omega)))))))))))
  · refine wp_bnd (w_Tk_kindNext hT) (fun r2 γ2 e => ?_)
    have e : γ2 = γ1 := e
    subst e
    exact wp_ite (fun _ => wp_id (w_readVariable h hn (by omega))) (fun _ => wp_id (w_readCalled h hn))
  · refine wp_bnd (w_Tk_itemNow hT) (fun r2 γ2 e => ?_)
    obtain ⟨e, -⟩ := e
    have e : γ2 = γ1 := e
    subst e
    exact wp_id (w_take h hn (by omega) (by omega))
  · exact wp_id (w_push h (by rw [hn]; decide) (by omega) (by omega) ⟨by decide, by decide⟩)
  · exact wp_id (w_push h (by rw [hn]; decide) (by omega) (by omega) ⟨by decide, by decide⟩)
  · subst c
    exact wp_id (w_push h (by rw [hn]; decide) (by omega) (by omega) ⟨by decide, by decide⟩)
  · exact wp_ite (fun _ => w_fail h (by omega)) (fun _ => wp_id (w_push h (by rw [hn]; decide) (by omega) (by omega) ⟨by decide, by decide⟩))
  · subst c
    exact wp_id (w_push h (by rw [hn]; decide) (by omega) (by omega) ⟨by decide, by decide⟩)
  · subst c
    exact wp_id (w_push h (by rw [hn]; decide) (by omega) (by omega) ⟨by decide, by decide⟩)
  · exact wp_id (w_take h hn (by omega) (by omega))
  · exact wp_id (w_take h hn (by omega) (by omega))
