/-! the class's tokens: the scan and the cursor -/
section TZ2
variable {zz : Prop}
theorem w_Tk_signOfTwo {γ : St} {a0 a1 : Int} : wp (f_Tk_signOfTwo γ a0 a1) (fun z => z.2 = γ ∧ 1 ≤ z.1 ∧ z.1 < 20 ∧ z.1 ≠ 2) := by
  unfold f_Tk_signOfTwo
  have s : ∀ r : Int, 1 ≤ r → r < 20 → r ≠ 2 → wp (some (r, γ)) (fun z : Int × St => z.2 = γ ∧ 1 ≤ z.1 ∧ z.1 < 20 ∧ z.1 ≠ 2) := fun r h1 h2 h3 => wp_some ⟨rfl, h1, h2, h3⟩
  repeat (first | exact s _ (by omega) (by omega) (by omega) | refine wp_ite (fun _ => ?_) (fun _ => ?_))
theorem w_Tk_signOfOne {γ : St} {a0 : Int} : wp (f_Tk_signOfOne γ a0) (fun z => z.2 = γ ∧ 1 ≤ z.1 ∧ z.1 < 20 ∧ z.1 ≠ 2) := by
  unfold f_Tk_signOfOne
  have s : ∀ r : Int, 1 ≤ r → r < 20 → r ≠ 2 → wp (some (r, γ)) (fun z : Int × St => z.2 = γ ∧ 1 ≤ z.1 ∧ z.1 < 20 ∧ z.1 ≠ 2) := fun r h1 h2 h3 => wp_some ⟨rfl, h1, h2, h3⟩
  repeat (first | exact s _ (by omega) (by omega) (by omega) | refine wp_ite (fun _ => ?_) (fun _ => ?_))
theorem w_Tk_scanSign {N : Int} {γ : St} {a0 a1 a2 a3 : Int} (h : TkI zz N γ) (hN : N ≤ 65536) (h2 : 0 ≤ a2 ∧ a2 ≤ 65536) : wp (f_Tk_scanSign γ a0 a1 a2 a3) (fun z => TkP zz N γ z ∧ (z.1 = a3 ∨ (a2 < z.1 ∧ z.1 ≤ a2 + 2))) := by
  unfold f_Tk_scanSign
  refine wp_bnd w_Tk_signOfTwo (fun r γ1 e1 => ?_)
  obtain ⟨e1, r1⟩ := e1
  have e1 : γ1 = γ := e1
  have r1 : 1 ≤ r ∧ r < 20 ∧ r ≠ 2 := r1
  subst e1
  refine wp_ite (fun c1 => wp_bnd w_Tk_signOfOne (fun r2 γ2 e2 => ?_)) (fun c1 => ?_)
  · obtain ⟨e2, r3⟩ := e2
    have e2 : γ2 = γ1 := e2
    have r3 : 1 ≤ r2 ∧ r2 < 20 ∧ r2 ≠ 2 := r3
    subst e2
    refine wp_ite (fun c2 => ?_) (fun c2 => ?_)
    · exact wp_bnd (w_Tk_add h hN (by omega) h2 (by omega)) (fun r γ' hz => wp_chk (by omega) (wp_some ⟨⟨hz.1, hz.2.1, fun k hk => by rw [hz.2.2.2.2.1 k, if_neg hk]⟩, Or.inr (by omega)⟩))
    · exact wp_bnd (w_Tk_addBad h hN h2) (fun r γ' hz => wp_some ⟨hz.1, Or.inl hz.2⟩)
  · exact wp_bnd (w_Tk_add h hN (by omega) h2 (by omega)) (fun r γ' hz => wp_chk (by omega) (wp_some ⟨⟨hz.1, hz.2.1, fun k hk => by rw [hz.2.2.2.2.1 k, if_neg hk]⟩, Or.inr (by omega)⟩))
theorem w_Tk_scanAt_b26 {N : Int} {γ : St} {x7 x8 x9 x10 : Int} (h : TkI zz N γ) (hN : N ≤ 65536) (h1 : 0 ≤ x7 ∧ x7 < x8 ∧ x8 ≤ 65536) : wp (f_Tk_scanAt_b26 γ x7 x8 x9 x10) (fun z => TkP zz N γ z ∧ x7 ≤ z.1 ∧ z.1 ≤ 65538) := by
  have hz0 : ∀ r : Int, TkP zz N γ (r, γ) := fun r => ⟨h.up (by omega), FrT.rf, fun _ _ => rfl⟩
  have hs : wp (f_Tk_scanAt_b104 γ x7 x8 x9 x10) (fun z => TkP zz N γ z ∧ x7 ≤ z.1 ∧ z.1 ≤ 65538) := by
    unfold f_Tk_scanAt_b104
    exact wp_bnd (w_Tk_scanSign h hN (by omega)) (fun r γ' hz => wp_some ⟨hz.1, by have := hz.2; show x7 ≤ r; have : r = x8 ∨ (x7 < r ∧ r ≤ x7 + 2) := hz.2; omega, by show r ≤ 65538; have : r = x8 ∨ (x7 < r ∧ r ≤ x7 + 2) := hz.2; omega⟩)
  have h1s : wp (chk (i32 (x7 + 1)) (some (x7 + 1, γ))) (fun z : Int × St => TkP zz N γ z ∧ x7 ≤ z.1 ∧ z.1 ≤ 65538) := wp_chk (by omega) (wp_some ⟨hz0 _, by omega, by omega⟩)
  unfold f_Tk_scanAt_b26
  refine wp_ite (fun _ => h1s) (fun _ => wp_ite (fun _ => h1s) (fun _ => wp_ite (fun _ => h1s) (fun _ => wp_ite (fun _ => ?_) (fun _ => h1s))))
  refine wp_bnd w_Tk_isLetter (fun r γ1 e1 => ?_)
  have e1 : γ1 = γ := e1
  subst e1
  refine wp_ite (fun _ => wp_bnd w_Tk_isDigit (fun r2 γ2 e2 => ?_)) (fun _ => ?_)
  · have e2 : γ2 = γ1 := e2
    subst e2
    refine wp_ite (fun _ => wp_ite (fun _ => hs) (fun _ => wp_ite (fun _ => hs) (fun _ => ?_))) (fun _ => ?_)
    · refine wp_bnd (w_Tk_lineEnd (by omega)) (fun r3 γ3 e3 => ?_)
      obtain ⟨e3, r4⟩ := e3
      have e3 : γ3 = γ2 := e3
      have r4 : x7 ≤ r3 ∧ r3 ≤ x8 := r4
      subst e3
      exact wp_some ⟨hz0 _, by omega, by omega⟩
    · refine wp_bnd (w_Tk_scanNumber h hN (by omega)) (fun r3 γ3 e3 => wp_some ⟨e3.1, ?_⟩)
      have r4 : x7 ≤ r3 ∧ r3 ≤ x8 := e3.2
      exact ⟨by omega, by omega⟩
  · refine wp_bnd (w_Tk_scanWord h hN (by omega)) (fun r3 γ3 e3 => wp_some ⟨e3.1, ?_⟩)
    have r4 : x7 ≤ r3 ∧ r3 ≤ x8 := e3.2
    exact ⟨by omega, by omega⟩
theorem w_Tk_scanAt {N : Int} {γ : St} {a0 a1 : Int} (h : TkI zz N γ) (hN : N ≤ 65536) (h1 : 0 ≤ a0 ∧ a0 < a1 ∧ a1 ≤ 65536) : wp (f_Tk_scanAt γ a0 a1) (fun z => TkP zz N γ z ∧ a0 ≤ z.1 ∧ z.1 ≤ 65538) := by
  unfold f_Tk_scanAt
  refine wp_chk (by omega) (wp_sub (wp_chk (by omega) (wp_ite (fun _ => ?_) (fun _ => wp_chk (by omega) (wp_chk (by omega) ?_)))))
  · exact w_Tk_scanAt_b26 h hN h1
  · exact w_Tk_scanAt_b26 h hN h1
end TZ2
/-- tokens after the scan: one at least; the cursor at one of them -/
def TkR (γ : St) : Prop := TkI False 10241 γ ∧ (0 ≤ γ 1 6 ∧ γ 1 6 < γ 1 5) ∧ γ 14 (γ 1 5 - 1) = 0
theorem w_Tk_scan_L31 {x4 : Int} (h0 : 0 ≤ x4 ∧ x4 ≤ 65536) : ∀ (n : Nat) (γ : St) (x5 x6 : Int), TkI True x6 γ → 0 ≤ x5 → x5 ≤ 65538 → 0 ≤ x6 → x6 ≤ x4 → x4 - x6 < n → wp (f_Tk_scan_L31 f_Tk_scan_b54 n γ x4 x5 x6) (fun z => TkI True (x4 + 1) z.2 ∧ (0 < z.2 1 5 ∧ z.2 14 (z.2 1 5 - 1) = 0) ∧ FrT γ z.2 ∧ (∀ k, k ≠ 5 → z.2 1 k = γ 1 k)) := by
  intro n
  induction n with
  | zero => intro γ x5 x6 h h1 h2 h3 h4 h5; exfalso; omega
  | succ n ih =>
    intro γ x5 x6 h h1 h2 h3 h4 h5
    have hE : wp (f_Tk_scan_b54 γ x4) (fun z => TkI True (x4 + 1) z.2 ∧ (0 < z.2 1 5 ∧ z.2 14 (z.2 1 5 - 1) = 0) ∧ FrT γ z.2 ∧ (∀ k, k ≠ 5 → z.2 1 k = γ 1 k)) := by
      unfold f_Tk_scan_b54
      refine wp_bnd (w_Tk_add h (by omega) (by omega) h0 (by omega)) (fun r γ' hz => wp_some ⟨hz.1.up (by omega), ?_, hz.2.1, fun k hk => by rw [hz.2.2.2.2.1 k, if_neg hk]⟩)
      have e := hz.2.2.1
      have e : γ' 1 5 = γ 1 5 + 1 := e
      have := h.2.1
      have e2 : γ' 14 (γ 1 5) = 0 := hz.2.2.2.2.2.2
      show 0 < γ' 1 5 ∧ γ' 14 (γ' 1 5 - 1) = 0
      rw [e, show γ 1 5 + 1 - 1 = γ 1 5 by omega]
      exact ⟨by omega, e2⟩
    unfold f_Tk_scan_L31
    refine wp_ite (fun _ => hE) (fun c1 => wp_ite (fun _ => hE) (fun c2 => ?_))
    refine wp_bnd (w_Tk_scanAt h (by omega) (by omega)) (fun r γ' hz => wp_chk (by omega) ?_)
    have r4 : x5 ≤ r ∧ r ≤ 65538 := hz.2
    exact wp_mono (ih _ _ _ hz.1.1 (by omega) (by omega) (by omega) (by omega) (by omega)) (fun z h2 => ⟨h2.1, h2.2.1, hz.1.2.1.tr h2.2.2.1, fun k hk => (h2.2.2.2 k hk).trans (hz.1.2.2 k hk)⟩)
theorem TkI.wk {N M : Int} {γ : St} (h : TkI True N γ) (hm : N ≤ M) : TkI False M γ := by
  have ⟨⟨j1, j2, j3⟩, i1, i2⟩ := h
  exact ⟨⟨j1, j2, fun w h1 h2 => ⟨(j3 w h1 h2).1, (j3 w h1 h2).2.1, (j3 w h1 h2).2.2.1, (j3 w h1 h2).2.2.2.1, fun f => f.elim⟩⟩, ⟨i1.1, Int.le_trans i1.2 hm⟩, i2⟩
theorem w_Tk_scan {γ : St} {a0 : Int} (h0 : 0 ≤ a0 ∧ a0 ≤ 10240) : wp (f_Tk_scan γ a0) (fun z => TkR z.2 ∧ FrT γ z.2 ∧ z.2 1 7 = 0 ∧ z.2 1 6 = 0 ∧ ∀ w, 0 ≤ w → w < z.2 2 8 → z.2 22 w = 0 ∧ z.2 23 w = 0) := by
  have := FU_v
  unfold f_Tk_scan
  refine wp_bnd (w_Wd_begin (zz := True)) (fun r γ1 h => wp_sub (wp_sub (wp_sub (wp_sub ?_))))
  have ⟨j1, j2, j3⟩ := h.1
  have hT : TkI True 0 (setA (setA (setA (setA γ1 1 5 0) 1 6 0) 1 7 0) 1 8 0) := by
    refine ⟨⟨?_, ?_, ?_⟩, ?_, ?_⟩
    · simp [stA]; exact j1
    · intro h h1 h2; simp [stA]; exact j2 h h1 h2
    · intro w h1 h2; simp [stA] at h2 ⊢; have q := j3 w h1 h2; exact ⟨q.1, q.2.1, q.2.2.1, q.2.2.2.1, q.2.2.2.2 trivial⟩
    · simp [stA]
    · intro t h1 h2; simp [stA] at h2; omega
  have hF : FrT γ (setA (setA (setA (setA γ1 1 5 0) 1 6 0) 1 7 0) 1 8 0) := fun j k h1 h2 h3 => by
    rw [← h.2.T j k h1 h2 h3]
    simp [stA]
    grind
  refine wp_mono (w_Tk_scan_L31 (by omega) FU _ 0 0 hT (by omega) (by omega) (by omega) (by omega) (by omega)) (fun z hz => ?_)
  have e6 := hz.2.2.2 6 (by omega)
  have e7 := hz.2.2.2 7 (by omega)
  simp [stA] at e6 e7
  have h5 := hz.2.1.1
  exact ⟨⟨hz.1.wk (by omega), ⟨by omega, by omega⟩, hz.2.1.2⟩, hF.tr hz.2.2.1, e7, e6, fun w h1 h2 => (hz.1.1.2.2 w h1 h2).2.2.2.2 trivial⟩
/-- the cursor and the fault change alone -/
def FrC (γ γ' : St) : Prop := ∀ j k, (j ≠ 1 ∨ k < 6 ∨ 8 < k) → γ' j k = γ j k
theorem FrC.rf {γ : St} : FrC γ γ := fun _ _ _ => rfl
theorem FrC.tr {a b c : St} (h : FrC a b) (k : FrC b c) : FrC a c := fun j i h1 => (k j i h1).trans (h j i h1)
theorem TkR.fr {γ γ' : St} (h : TkR γ) (hF : FrC γ γ') (h6 : 0 ≤ γ' 1 6 ∧ γ' 1 6 < γ 1 5) : TkR γ' := by
  have ⟨⟨⟨j1, j2, j3⟩, i1, i2⟩, i3, i4⟩ := h
  have e : ∀ j k, (j ≠ 1 ∨ k < 6 ∨ 8 < k) → γ' j k = γ j k := hF
  have e5 := e 1 5 (by omega)
  have e8 := e 2 8 (by omega)
  refine ⟨⟨⟨?_, ?_, ?_⟩, ?_, ?_⟩, ⟨h6.1, by omega⟩, by rw [e5, e 14 _ (by omega)]; exact i4⟩
  · rw [e8]; exact j1
  · intro h h1 h2; rw [e 17 h (by omega), e8]; exact j2 h h1 h2
  · intro w h1 h2; rw [e8] at h2; rw [e8, e 20 w (by omega), e 18 w (by omega), e 19 w (by omega)]; exact ⟨(j3 w h1 h2).1, (j3 w h1 h2).2.1, (j3 w h1 h2).2.2.1, (j3 w h1 h2).2.2.2.1, fun f => f.elim⟩
  · rw [e5]; exact i1
  · intro t h1 h2; rw [e5] at h2; rw [e8, e 14 t (by omega), e 15 t (by omega), e 16 t (by omega)]; exact i2 t h1 h2
theorem w_Tk_kindNow {γ : St} (h : TkR γ) : wp (f_Tk_kindNow γ) (fun z => z.2 = γ ∧ z.1 = γ 14 (γ 1 6)) := by
  have ⟨h1, h2⟩ := h
  have := h1.2.1
  exact wp_chk (by omega) (wp_some ⟨rfl, rfl⟩)
theorem w_Tk_itemNow {γ : St} (h : TkR γ) : wp (f_Tk_itemNow γ) (fun z => z.2 = γ ∧ z.1 = γ 16 (γ 1 6)) := by
  have ⟨h1, h2⟩ := h
  have := h1.2.1
  exact wp_chk (by omega) (wp_some ⟨rfl, rfl⟩)
theorem w_Tk_placeNow {γ : St} (h : TkR γ) : wp (f_Tk_placeNow γ) (fun z => z.2 = γ ∧ z.1 = γ 15 (γ 1 6)) := by
  have ⟨h1, h2⟩ := h
  have := h1.2.1
  exact wp_chk (by omega) (wp_some ⟨rfl, rfl⟩)
theorem w_Tk_kindNext {γ : St} (h : TkR γ) : wp (f_Tk_kindNext γ) (fun z => z.2 = γ) := by
  have ⟨h1, h2⟩ := h
  have := h1.2.1
  unfold f_Tk_kindNext
  exact wp_chk (by omega) (wp_ite (fun _ => wp_some rfl) (fun _ => wp_chk (by omega) (wp_chk (by omega) (wp_some rfl))))
theorem w_Tk_fail {γ : St} {a0 : Int} (h : TkR γ) (h0 : a0 ≠ 0) : wp (f_Tk_fail γ a0) (fun z => TkR z.2 ∧ FrC γ z.2 ∧ z.1 = 0 ∧ z.2 1 6 = γ 1 6 ∧ z.2 1 7 ≠ 0) := by
  have ⟨h1, h2⟩ := h
  have := h1.2.1
  unfold f_Tk_fail
  refine wp_ite (fun c => wp_some ⟨h, FrC.rf, rfl, rfl, c⟩) (fun _ => wp_sub (wp_chk (by simp [stA]; omega) (wp_sub (wp_some ?_))))
  have hF : FrC γ (setA (setA γ 1 7 a0) 1 8 (setA γ 1 7 a0 15 (setA γ 1 7 a0 1 6))) := fun j k hj => by simp [stA]; grind
  exact ⟨h.fr hF (by simp [stA]; omega), hF, rfl, by simp [stA], by simp [stA]; exact h0⟩
theorem w_Tk_failAt {γ : St} {a0 a1 : Int} (h : TkR γ) (h0 : a0 ≠ 0) : wp (f_Tk_failAt γ a0 a1) (fun z => TkR z.2 ∧ FrC γ z.2 ∧ z.1 = 0 ∧ z.2 1 6 = γ 1 6 ∧ z.2 1 7 ≠ 0) := by
  have ⟨h1, h2⟩ := h
  have := h1.2.1
  unfold f_Tk_failAt
  refine wp_ite (fun c => wp_some ⟨h, FrC.rf, rfl, rfl, c⟩) (fun _ => wp_sub (wp_sub (wp_some ?_)))
  have hF : FrC γ (setA (setA γ 1 7 a0) 1 8 a1) := fun j k hj => by simp [stA]; grind
  exact ⟨h.fr hF (by simp [stA]; omega), hF, rfl, by simp [stA], by simp [stA]; exact h0⟩
theorem w_Tk_step {γ : St} (h : TkR γ) : wp (f_Tk_step γ) (fun z => TkR z.2 ∧ FrC γ z.2 ∧ z.2 1 7 = γ 1 7 ∧ γ 1 6 ≤ z.2 1 6 ∧ (γ 14 (γ 1 6) ≠ 0 → z.2 1 6 = γ 1 6 + 1)) := by
  have ⟨h1, h2, h9⟩ := h
  have := h1.2.1
  unfold f_Tk_step
  refine wp_chk (by omega) (wp_ite (fun c => wp_some ⟨h, FrC.rf, rfl, Int.le_refl _, fun c2 => absurd (show γ 14 (γ 1 6) = 0 by rw [show γ 1 6 = γ 1 5 - 1 by omega]; exact h9) c2⟩) (fun _ => wp_chk (by omega) (wp_sub (wp_some ?_))))
  have hF : FrC γ (setA γ 1 6 (γ 1 6 + 1)) := fun j k hj => by simp [stA]; grind
  exact ⟨h.fr hF (by simp [stA]; omega), hF, by simp [stA], by simp [stA]; omega, fun _ => by simp [stA]⟩
theorem w_Tk_expect {γ : St} {a0 : Int} (h : TkR γ) (h0 : a0 ≠ 0) : wp (f_Tk_expect γ a0) (fun z => TkR z.2 ∧ FrC γ z.2 ∧ (z.1 = 0 ∧ z.2 1 7 ≠ 0 ∧ z.2 1 6 = γ 1 6 ∨ z.1 = 1 ∧ z.2 1 7 = γ 1 7 ∧ z.2 1 6 = γ 1 6 + 1)) := by
  have ⟨h1, h2⟩ := h
  have := h1.2.1
  unfold f_Tk_expect
  refine wp_chk (by omega) (wp_ite (fun c => ?_) (fun c => ?_))
  · exact wp_bnd (w_Tk_step h) (fun r γ' hz => wp_some ⟨hz.1, hz.2.1, Or.inr ⟨rfl, hz.2.2.1, hz.2.2.2.2 (by rw [c]; exact h0)⟩⟩)
  · exact wp_bnd (w_Tk_fail h (by omega)) (fun r γ' hz => wp_some ⟨hz.1, hz.2.1, Or.inl ⟨hz.2.2.1, hz.2.2.2.2, hz.2.2.2.1⟩⟩)
