/-! the class's tokens: safe -/
section TZ
variable {zz : Prop}
theorem w_Wd_begin_L19 : ∀ (n : Nat) (γ : St) (x6 x7 : Int), WdX zz γ → 65536 ≤ x6 → x6 ≤ x7 → x7 ≤ 65638 → 65638 - x7 < n → wp (f_Wd_begin_L19 n γ x6 x7) (fun z => WdX zz z.2 ∧ FrW γ z.2) := by
  intro n
  induction n with
  | zero => intro γ x6 x7 hI h1 h2 h3 h4; exfalso; omega
  | succ n ih =>
    intro γ x6 x7 hI h1 h2 h3 h4
    unfold f_Wd_begin_L19
    refine wp_ite (fun _ => wp_some ⟨hI, FrW.rf⟩) (fun c1 => wp_chk (by omega) (wp_ite (fun _ => ?_) (fun _ => ?_)))
    · unfold f_Wd_begin_b52
      exact wp_chk (by omega) (ih _ _ _ hI (by omega) (by omega) (by omega) (by omega))
    · refine wp_chk (by omega) (wp_bnd (w_Wd_find hI (by omega)) (fun r γ' h => wp_chk (by omega) (wp_sub ?_)))
      unfold f_Wd_begin_b52
      refine wp_chk (by omega) (wp_mono (ih _ _ _ h.1 (by omega) (by omega) (by omega) (by omega)) (fun z hz => ⟨hz.1, h.2.2.2.1.tr hz.2⟩))
theorem w_Wd_begin {γ : St} : wp (f_Wd_begin γ) (fun z => WdX zz z.2 ∧ FrW γ z.2) := by
  have := FU_v
  unfold f_Wd_begin
  refine wp_sub (wp_sub ?_)
  have hI : WdX zz (setA (flA γ 17 0 512 (-1)) 2 8 0) := by
    refine ⟨by simp [stA], fun h h1 h2 => ?_, fun w h1 h2 => ?_⟩
    · simp [stA, flA, h1, h2]
    · simp [stA] at h2; omega
  refine wp_mono (w_Wd_begin_L19 FU _ _ _ hI (by omega) (by omega) (by omega) (by omega)) (fun z hz => ⟨hz.1, FrW.tr (fun j k h1 h2 => ?_) hz.2⟩)
  simp [stA, flA]
  grind
/-- tokens and words change alone -/
def FrT (γ γ' : St) : Prop := ∀ j k, (j < 14 ∨ 24 ≤ j) → (j ≠ 2 ∨ k ≠ 8) → (j ≠ 1 ∨ k < 5 ∨ 8 < k) → γ' j k = γ j k
theorem FrT.rf {γ : St} : FrT γ γ := fun _ _ _ _ _ => rfl
theorem FrT.tr {a b c : St} (h : FrT a b) (k : FrT b c) : FrT a c := fun j i h1 h2 h3 => (k j i h1 h2 h3).trans (h j i h1 h2 h3)
theorem FrW.T {a b : St} (h : FrW a b) : FrT a b := fun j k h1 h2 _ => h j k (by omega) h2
/-- tokens, at most N -/
def TkI (zz : Prop) (N : Int) (γ : St) : Prop := WdX zz γ ∧ (0 ≤ γ 1 5 ∧ γ 1 5 ≤ N) ∧ ∀ t, 0 ≤ t → t < γ 1 5 → (0 ≤ γ 14 t ∧ γ 14 t < 42) ∧ (0 ≤ γ 15 t ∧ γ 15 t ≤ 65536) ∧ (γ 14 t = 2 → 22 ≤ γ 16 t ∧ γ 16 t < γ 2 8)
theorem TkI.fr {N : Int} {γ γ' : St} (h : TkI zz N γ) (hI : WdX zz γ') (hF : FrW γ γ') (hm : γ 2 8 ≤ γ' 2 8) : TkI zz N γ' := by
  have e : ∀ j k, (j < 17 ∨ 24 ≤ j) → (j ≠ 2 ∨ k ≠ 8) → γ' j k = γ j k := hF
  refine ⟨hI, ?_, fun t h1 h2 => ?_⟩
  · rw [e 1 5 (by omega) (by omega)]; exact h.2.1
  · rw [e 1 5 (by omega) (by omega)] at h2
    have := h.2.2 t h1 h2
    rw [e 14 t (by omega) (by omega), e 15 t (by omega) (by omega), e 16 t (by omega) (by omega)]
    omega
theorem w_Tk_add {N : Int} {γ : St} {a0 a1 a2 : Int} (h : TkI zz N γ) (hN : N ≤ 65536) (h0 : 0 ≤ a0 ∧ a0 < 42) (h1 : 0 ≤ a1 ∧ a1 ≤ 65536) (h2 : a0 = 2 → 22 ≤ a2 ∧ a2 < γ 2 8) : wp (f_Tk_add γ a0 a1 a2) (fun z => TkI zz (N + 1) z.2 ∧ FrT γ z.2 ∧ z.2 1 5 = γ 1 5 + 1 ∧ z.2 2 8 = γ 2 8 ∧ (∀ k, z.2 1 k = if k = 5 then γ 1 5 + 1 else γ 1 k) ∧ z.2 15 (γ 1 5) = a1 ∧ z.2 14 (γ 1 5) = a0) := by
  have ⟨hI, i1, i2⟩ := h
  have ⟨j1, j2, j3⟩ := hI
  unfold f_Tk_add
  refine wp_chk (by omega) (wp_sub (wp_chk (by simp [stA]; omega) (wp_sub (wp_chk (by simp [stA]; omega) (wp_sub (wp_chk (by simp [stA]; omega) (wp_sub (wp_some ?_))))))))
  refine ⟨⟨⟨?_, ?_, ?_⟩, ?_, ?_⟩, ?_, ?_, ?_, ?_, ?_, ?_⟩
  · simp [stA]; exact j1
  · intro h h1 h2; simp [stA]; exact j2 h h1 h2
  · intro w h1 h2; simp [stA] at h2 ⊢; exact j3 w h1 h2
  · simp [stA]; omega
  · intro t h1 h2; simp [stA] at h2 ⊢; have := i2 t h1; grind
  · intro j k h1 h2 h3; simp [stA]; grind
  · simp [stA]
  · simp [stA]
  · intro k; simp [stA]
  · simp [stA]
  · simp [stA]
/-- tokens of one more at most -/
def TkP (zz : Prop) (N : Int) (γ : St) (z : Int × St) : Prop := TkI zz (N + 1) z.2 ∧ FrT γ z.2 ∧ (∀ k, k ≠ 5 → z.2 1 k = γ 1 k)
theorem TkI.up {N M : Int} {γ : St} (h : TkI zz N γ) (hm : N ≤ M) : TkI zz M γ := ⟨h.1, ⟨h.2.1.1, Int.le_trans h.2.1.2 hm⟩, h.2.2⟩
theorem w_Tk_addBad {N : Int} {γ : St} {a0 a1 : Int} (h : TkI zz N γ) (hN : N ≤ 65536) (h1 : 0 ≤ a0 ∧ a0 ≤ 65536) : wp (f_Tk_addBad γ a0 a1) (fun z => TkP zz N γ z ∧ z.1 = a1) := by
  unfold f_Tk_addBad
  exact wp_bnd (w_Tk_add h hN (by omega) h1 (by omega)) (fun r γ' hz => wp_some ⟨⟨hz.1, hz.2.1, fun k hk => by rw [hz.2.2.2.2.1 k, if_neg hk]⟩, rfl⟩)
theorem w_Tk_isLetter {γ : St} {a0 : Int} : wp (f_Tk_isLetter γ a0) (fun z => z.2 = γ) := by
  unfold f_Tk_isLetter f_Tk_isLetter_b12
  exact wp_ite (fun _ => wp_ite (fun _ => wp_some rfl) (fun _ => wp_ite (fun _ => wp_some rfl) (fun _ => wp_some rfl))) (fun _ => wp_ite (fun _ => wp_some rfl) (fun _ => wp_ite (fun _ => wp_some rfl) (fun _ => wp_ite (fun _ => wp_some rfl) (fun _ => wp_some rfl))))
theorem w_Tk_isDigit {γ : St} {a0 : Int} : wp (f_Tk_isDigit γ a0) (fun z => z.2 = γ) := by
  unfold f_Tk_isDigit
  exact wp_ite (fun _ => wp_some rfl) (fun _ => wp_ite (fun _ => wp_some rfl) (fun _ => wp_some rfl))
theorem w_Tk_scanWord_b102 {N : Int} {γ : St} {x1 x2 x3 x4 : Int} (h : TkI zz N γ) (hN : N ≤ 65536) (h1 : 0 ≤ x1 ∧ x1 ≤ 65536) (h4 : 0 ≤ x4 ∧ x4 < 42) (h3 : x4 = 2 → 22 ≤ x3 ∧ x3 < γ 2 8) : wp (f_Tk_scanWord_b102 γ x1 x2 x3 x4) (fun z => TkP zz N γ z ∧ z.1 = x2) := by
  unfold f_Tk_scanWord_b102
  exact wp_bnd (w_Tk_add h hN h4 h1 h3) (fun r γ' hz => wp_some ⟨⟨hz.1, hz.2.1, fun k hk => by rw [hz.2.2.2.2.1 k, if_neg hk]⟩, rfl⟩)
theorem w_Tk_scanWord_b71 {N : Int} {γ : St} {x7 x8 x9 x10 : Int} (h : TkI zz N γ) (hN : N ≤ 65536) (h7 : 0 ≤ x7 ∧ x7 ≤ 65536) (h10 : -1 ≤ x10 ∧ x10 < γ 2 8) : wp (f_Tk_scanWord_b71 γ x7 x8 x9 x10) (fun z => TkP zz N γ z ∧ (z.1 = x8 ∨ z.1 = x9)) := by
  unfold f_Tk_scanWord_b71
  refine wp_ite (fun c1 => wp_ite (fun c2 => ?_) (fun c2 => wp_chk (by omega) ?_)) (fun c1 => ?_)
  · exact wp_mono (w_Tk_scanWord_b102 h hN h7 (by omega) (by omega)) (fun z hz => ⟨hz.1, Or.inr hz.2⟩)
  · exact wp_mono (w_Tk_scanWord_b102 h hN h7 (by omega) (by omega)) (fun z hz => ⟨hz.1, Or.inr hz.2⟩)
  · exact wp_bnd (w_Tk_addBad h hN h7) (fun r γ' hz => wp_some ⟨hz.1, Or.inl hz.2⟩)
theorem w_Tk_scanWord_b48 {N : Int} {γ : St} {x14 x15 x16 : Int} (h : TkI zz N γ) (hN : N ≤ 65536) (h7 : 0 ≤ x14 ∧ x14 ≤ x16 ∧ x16 ≤ 65536) : wp (f_Tk_scanWord_b48 γ x14 x15 x16) (fun z => TkP zz N γ z ∧ (z.1 = x15 ∨ z.1 = x16)) := by
  have i1 := h.1.1
  unfold f_Tk_scanWord_b48
  refine wp_chk (by omega) (wp_ite (fun c1 => wp_chk (by omega) (wp_bnd (w_Wd_find h.1 (by omega)) (fun r γ' hz => ?_))) (fun c1 => ?_))
  · have hT := h.fr hz.1 hz.2.2.2.1 hz.2.2.2.2
    refine wp_mono (w_Tk_scanWord_b71 hT hN (by omega) ⟨hz.2.1, hz.2.2.1⟩) (fun z h2 => ⟨⟨h2.1.1, hz.2.2.2.1.T.tr h2.1.2.1, fun k hk => ?_⟩, h2.2⟩)
    rw [h2.1.2.2 k hk]
    exact hz.2.2.2.1 1 k (by omega) (by omega)
  · exact w_Tk_scanWord_b71 h hN (by omega) (by omega)
theorem w_Tk_scanWord_L2 {N : Int} {γ : St} (h : TkI zz N γ) (hN : N ≤ 65536) {x32 x33 : Int} (h1 : 0 ≤ x32 ∧ x33 ≤ 65536) : ∀ (n : Nat) (x34 : Int), x32 ≤ x34 → x34 ≤ x33 → x33 - x34 < n → wp (f_Tk_scanWord_L2 f_Tk_scanWord_b48 n γ x32 x33 x34) (fun z => TkP zz N γ z ∧ x32 ≤ z.1 ∧ z.1 ≤ x33) := by
  intro n
  induction n with
  | zero => intro x34 h2 h3 h4; exfalso; omega
  | succ n ih =>
    intro x34 h2 h3 h4
    have hE : wp (f_Tk_scanWord_b48 γ x32 x33 x34) (fun z => TkP zz N γ z ∧ x32 ≤ z.1 ∧ z.1 ≤ x33) := wp_mono (w_Tk_scanWord_b48 h hN (by omega)) (fun z hz => ⟨hz.1, by rcases hz.2 with e | e <;> omega, by rcases hz.2 with e | e <;> omega⟩)
    unfold f_Tk_scanWord_L2
    refine wp_ite (fun _ => hE) (fun c1 => wp_chk (by omega) (wp_bnd w_Tk_isLetter (fun r γ1 e1 => ?_)))
    have hb : wp (f_Tk_scanWord_b42 (f_Tk_scanWord_L2 f_Tk_scanWord_b48 n) f_Tk_scanWord_b48 γ x32 x33 x34) (fun z => TkP zz N γ z ∧ x32 ≤ z.1 ∧ z.1 ≤ x33) := by
      unfold f_Tk_scanWord_b42
      exact wp_chk (by omega) (ih _ (by omega) (by omega) (by omega))
    have e1 : γ1 = γ := e1
    subst e1
    refine wp_ite (fun _ => hb) (fun _ => wp_chk (by omega) (wp_bnd w_Tk_isDigit (fun r2 γ2 e2 => ?_)))
    have e2 : γ2 = γ1 := e2
    subst e2
    exact wp_ite (fun _ => hb) (fun _ => wp_chk (by omega) (wp_ite (fun _ => hE) (fun _ => hb)))
theorem w_Tk_scanWord {N : Int} {γ : St} {a0 a1 : Int} (h : TkI zz N γ) (hN : N ≤ 65536) (h1 : 0 ≤ a0 ∧ a0 ≤ a1 ∧ a1 ≤ 65536) : wp (f_Tk_scanWord γ a0 a1) (fun z => TkP zz N γ z ∧ a0 ≤ z.1 ∧ z.1 ≤ a1) := by
  have := FU_v
  unfold f_Tk_scanWord
  exact w_Tk_scanWord_L2 h hN (by omega) FU a0 (by omega) (by omega) (by omega)
theorem w_Tk_scanNumber_b45 {N : Int} {γ : St} {x1 x2 x3 x4 : Int} (h : TkI zz N γ) (hN : N ≤ 65536) (h7 : 0 ≤ x1 ∧ x1 ≤ x3 ∧ x3 ≤ 65536) : wp (f_Tk_scanNumber_b45 γ x1 x2 x3 x4) (fun z => TkP zz N γ z ∧ (z.1 = x2 ∨ z.1 = x3)) := by
  unfold f_Tk_scanNumber_b45
  refine wp_chk (by omega) (wp_ite (fun c1 => ?_) (fun c1 => ?_))
  · exact wp_bnd (w_Tk_add h hN (by omega) (by omega) (by omega)) (fun r γ' hz => wp_some ⟨⟨hz.1, hz.2.1, fun k hk => by rw [hz.2.2.2.2.1 k, if_neg hk]⟩, Or.inr rfl⟩)
  · exact wp_bnd (w_Tk_addBad h hN (by omega)) (fun r γ' hz => wp_some ⟨hz.1, Or.inl hz.2⟩)
theorem w_Tk_scanNumber_L5 {N : Int} {γ : St} (h : TkI zz N γ) (hN : N ≤ 65536) {x10 x11 : Int} (h1 : 0 ≤ x10 ∧ x11 ≤ 65536) : ∀ (n : Nat) (x12 x13 : Int), x10 ≤ x12 → x12 ≤ x11 → x11 - x12 < n → wp (f_Tk_scanNumber_L5 f_Tk_scanNumber_b45 n γ x10 x11 x12 x13) (fun z => TkP zz N γ z ∧ x10 ≤ z.1 ∧ z.1 ≤ x11) := by
  intro n
  induction n with
  | zero => intro x12 x13 h2 h3 h4; exfalso; omega
  | succ n ih =>
    intro x12 x13 h2 h3 h4
    have hE : wp (f_Tk_scanNumber_b45 γ x10 x11 x12 x13) (fun z => TkP zz N γ z ∧ x10 ≤ z.1 ∧ z.1 ≤ x11) := wp_mono (w_Tk_scanNumber_b45 h hN (by omega)) (fun z hz => ⟨hz.1, by rcases hz.2 with e | e <;> omega, by rcases hz.2 with e | e <;> omega⟩)
    unfold f_Tk_scanNumber_L5
    refine wp_ite (fun _ => hE) (fun c1 => wp_chk (by omega) (wp_bnd w_Tk_isDigit (fun r γ1 e1 => ?_)))
    have e1 : γ1 = γ := e1
    subst e1
    exact wp_ite (fun _ => hE) (fun _ => wp_chk (by omega) (wp_sub (wp_chk (by omega) (ih _ _ (by omega) (by omega) (by omega)))))
theorem w_Tk_scanNumber {N : Int} {γ : St} {a0 a1 : Int} (h : TkI zz N γ) (hN : N ≤ 65536) (h1 : 0 ≤ a0 ∧ a0 ≤ a1 ∧ a1 ≤ 65536) : wp (f_Tk_scanNumber γ a0 a1) (fun z => TkP zz N γ z ∧ a0 ≤ z.1 ∧ z.1 ≤ a1) := by
  have := FU_v
  unfold f_Tk_scanNumber
  exact w_Tk_scanNumber_L5 h hN (by omega) FU a0 0 (by omega) (by omega) (by omega)
theorem w_Tk_lineEnd_L2 {γ : St} {x1 : Int} (h1 : x1 ≤ 65536) : ∀ (n : Nat) (x2 : Int), 0 ≤ x2 → x2 ≤ x1 → x1 - x2 < n → wp (f_Tk_lineEnd_L2 n γ x1 x2) (fun z => z.2 = γ ∧ x2 ≤ z.1 ∧ z.1 ≤ x1) := by
  intro n
  induction n with
  | zero => intro x2 h2 h3 h4; exfalso; omega
  | succ n ih =>
    intro x2 h2 h3 h4
    unfold f_Tk_lineEnd_L2
    refine wp_ite (fun _ => wp_some ⟨rfl, Int.le_refl _, h3⟩) (fun c1 => wp_chk (by omega) (wp_ite (fun _ => wp_some ⟨rfl, Int.le_refl _, h3⟩) (fun _ => wp_chk (by omega) ?_)))
    exact wp_mono (ih _ (by omega) (by omega) (by omega)) (fun z hz => ⟨hz.1, by omega, hz.2.2⟩)
theorem w_Tk_lineEnd {γ : St} {a0 a1 : Int} (h1 : 0 ≤ a0 ∧ a0 ≤ a1 ∧ a1 ≤ 65536) : wp (f_Tk_lineEnd γ a0 a1) (fun z => z.2 = γ ∧ a0 ≤ z.1 ∧ z.1 ≤ a1) := by
  have := FU_v
  unfold f_Tk_lineEnd
  exact w_Tk_lineEnd_L2 (by omega) FU a0 (by omega) (by omega) (by omega)
end TZ
