/-! the class's checker: clocks -/
/-- the checker's stack and the equation's clocks change alone -/
def FrQ (γ0 : St) (e : Int) (γ' : St) : Prop := ∀ j k, (j ≠ 7 ∨ k ≠ 4) → j ≠ 53 → (j ≠ 41 ∨ k < γ0 43 e ∨ γ0 44 e ≤ k) → γ' j k = γ0 j k
theorem FrQ.s4 {γ0 γ : St} {e v : Int} (h : FrQ γ0 e γ) : FrQ γ0 e (setA γ 7 4 v) := fun j k q1 q2 q3 => by rw [stA, if_neg (by omega)]; exact h j k q1 q2 q3
theorem FrQ.s53 {γ0 γ : St} {e i v : Int} (h : FrQ γ0 e γ) : FrQ γ0 e (setA γ 53 i v) := fun j k q1 q2 q3 => by rw [stA, if_neg (by omega)]; exact h j k q1 q2 q3
theorem FrQ.s41 {γ0 γ : St} {e i v : Int} (h : FrQ γ0 e γ) (h1 : γ0 43 e ≤ i) (h2 : i < γ0 44 e) : FrQ γ0 e (setA γ 41 i v) := fun j k q1 q2 q3 => by rw [stA, if_neg (by omega)]; exact h j k q1 q2 q3
theorem FrQ.X {γ0 γ : St} {e : Int} (h : FrQ γ0 e γ) : FrX γ0 γ := fun j k q => h j k (by omega) (by omega) (by omega)
theorem FrQ.T {γ0 γ : St} {e : Int} (h : FrQ γ0 e γ) (hT : TkR γ0) : TkR γ := hT.ext (fun j k q => h j k (by omega) (by omega) (by omega))
theorem CkX.cl {γ0 : St} {e v : Int} (hx : CkX γ0 e) (h1 : 0 ≤ v) (h2 : v < γ0 28 (γ0 3 9)) : -1 ≤ γ0 34 (γ0 7 5 + v) ∧ γ0 34 (γ0 7 5 + v) < 2 * γ0 28 (γ0 3 9) := by
  have q := (hx.1.2.2.2.2.2.2.2.1 v h1 h2).1.1
  rw [hx.2.1]
  omega
theorem w_clockOfC {γ0 γ : St} {e a : Int} (hx : CkX γ0 e) (hF : FrQ γ0 e γ) (ha : 0 ≤ a ∧ a < 2 * γ0 28 (γ0 3 9)) : wp (f_Ck_clockOfC γ a) (fun z => z.2 = γ ∧ -1 ≤ z.1 ∧ z.1 < 2 * γ0 28 (γ0 3 9)) := by
  have v := hx.v
  have c := hx.cl (v := a / 2) (by omega) (by omega)
  unfold f_Ck_clockOfC
  rw [ishr_1 (by omega), hF 7 5 (by omega) (by omega) (by omega), hF 34 _ (by omega) (by omega) (by omega)]
  exact wp_chk (by omega) (wp_chk (by omega) (wp_some ⟨rfl, c.1, c.2⟩))
theorem w_joined_L5 {γ : St} {x8 M : Int} (h8 : 0 ≤ γ 7 4 ∧ γ 7 4 + x8 ≤ 32769) (hs : ∀ s, γ 7 4 ≤ s → s < γ 7 4 + x8 → -2 ≤ γ 53 s ∧ γ 53 s < M) (hM : 0 ≤ M) : ∀ (n : Nat) (x9 x10 : Int), -3 ≤ x9 → x9 < M → 0 ≤ x10 → x10 ≤ x8 → x8 - x10 < n → wp (f_Ck_joined_L5 n γ x8 x9 x10) (fun z => z.2 = γ ∧ (-3 ≤ z.1 ∧ z.1 < M) ∧ (x8 = 1 → x10 = 0 → x9 = -2 → z.1 = γ 53 (γ 7 4)) ∧ (x8 ≤ x10 → z.1 = x9)) := by
  intro n
  induction n with
  | zero => intro x9 x10 h1 h2 h3 h4 h5; exfalso; omega
  | succ n ih =>
    intro x9 x10 h1 h2 h3 h4 h5
    unfold f_Ck_joined_L5
    refine wp_ite (fun c => wp_some ⟨rfl, ⟨h1, h2⟩, fun q1 q2 => by omega, fun _ => rfl⟩) (fun c => ?_)
    have s := hs (γ 7 4 + x10) (by omega) (by omega)
    refine wp_chk (by omega) (wp_chk (by omega) (wp_sub ?_))
    have g : ∀ y, -3 ≤ y → y < M → (x9 = -2 → y = γ 53 (γ 7 4 + x10)) → wp (f_Ck_joined_b51 (f_Ck_joined_L5 n) γ x8 y x10) (fun z => z.2 = γ ∧ (-3 ≤ z.1 ∧ z.1 < M) ∧ (x8 = 1 → x10 = 0 → x9 = -2 → z.1 = γ 53 (γ 7 4)) ∧ (x8 ≤ x10 → z.1 = x9)) := by
      intro y y1 y2 y3
      unfold f_Ck_joined_b51
      refine wp_chk (by omega) (wp_mono (ih y (x10 + 1) y1 y2 (by omega) (by omega) (by omega)) (fun z hz => ⟨hz.1, hz.2.1, fun q1 q2 q3 => ?_, fun q => by omega⟩))
      rw [hz.2.2.2 (by omega), y3 q3, q2, Int.add_zero]
    refine wp_ite (fun c2 => wp_ite (fun _ => g _ h1 h2 (fun q => absurd q c2)) (fun _ => wp_ite (fun _ => g _ h1 h2 (fun q => absurd q c2)) (fun _ => g _ (by omega) (by omega) (fun q => absurd q c2)))) (fun c2 => g _ (by omega) (by omega) (fun _ => rfl))
/-- the stack within the check of clocks, before the part i -/
def CsI (γ0 : St) (e : Int) (γ : St) (i : Int) : Prop := FrQ γ0 e γ ∧ γ 7 4 = Pf γ0 i - e ∧ (∀ s, 0 ≤ s → s < γ 7 4 → -2 ≤ γ 53 s ∧ γ 53 s < 2 * γ0 28 (γ0 3 9)) ∧ (γ0 43 e < i → γ 53 (γ 7 4 - 1) = γ 41 (i - 1)) ∧ ∀ k, γ0 43 e ≤ k → k < i → (-2 ≤ γ 41 k ∧ γ 41 k < 2 * γ0 28 (γ0 3 9)) ∧ (γ0 38 k = 36 → γ0 43 e < k ∧ 0 ≤ γ 41 (k - 1))
/-- the end of checkClock -/
theorem w_cc_b141 {γ0 γ : St} {e i x : Int} (hx : CkX γ0 e) (hF : FrQ γ0 e γ) (h1 : γ0 43 e ≤ i) (h2 : i < γ0 44 e) (ht : γ 7 4 = Pf γ0 i - e - γ0 40 i) (hs : ∀ s, 0 ≤ s → s < γ 7 4 → -2 ≤ γ 53 s ∧ γ 53 s < 2 * γ0 28 (γ0 3 9)) (hk : ∀ k, γ0 43 e ≤ k → k < i → (-2 ≤ γ 41 k ∧ γ 41 k < 2 * γ0 28 (γ0 3 9)) ∧ (γ0 38 k = 36 → γ0 43 e < k ∧ 0 ≤ γ 41 (k - 1))) (hxx : -2 ≤ x ∧ x < 2 * γ0 28 (γ0 3 9)) (h36 : γ0 38 i = 36 → γ0 43 e < i ∧ 0 ≤ γ 41 (i - 1)) : wp (f_Ck_checkClock_b141 γ i x) (fun z => z.1 = 1 ∧ CsI γ0 e z.2 (i + 1)) := by
  have b := hx.b
  have p := hx.p h1 h2
  have D := hx.D h1 (by omega)
  have pn := sdK_nn p.1
  have pl := p.2.2.2.2
  have ps := Pf_succ (γ := γ0) (k := i) (by omega)
  unfold f_Ck_checkClock_b141
  refine wp_chk (by omega) (wp_sub (wp_chk (by simp [stA]; omega) (wp_sub (wp_chk (by simp [stA]; omega) (wp_sub (wp_some ⟨rfl, ?_⟩))))))
  generalize hh : setA _ 7 4 _ = γs
  have s0 : ∀ j k, γs j k = if j = 7 ∧ k = 4 then γ 7 4 + 1 else if j = 53 ∧ k = γ 7 4 then x else if j = 41 ∧ k = i then x else γ j k := fun j k => by rw [← hh]; simp [stA]
  have b74 : γs 7 4 = γ 7 4 + 1 := by rw [s0]; simp
  refine ⟨fun j k q1 q2 q3 => ?_, ?_, fun s q1 q2 => ?_, fun q => ?_, fun k q1 q2 => ?_⟩
  · show γs j k = _
    rw [s0, if_neg (by omega), if_neg (by omega), if_neg (by omega)]; exact hF j k q1 q2 q3
  · show γs 7 4 = _; omega
  · have q2 : s < γs 7 4 := q2
    show -2 ≤ γs 53 s ∧ γs 53 s < _
    by_cases q : s = γ 7 4
    · rw [s0, q]; simp; exact hxx
    · rw [s0, if_neg (by omega), if_neg (by omega), if_neg (by omega)]; exact hs s q1 (by omega)
  · show γs 53 (γs 7 4 - 1) = γs 41 (i + 1 - 1)
    rw [b74, show γ 7 4 + 1 - 1 = γ 7 4 by omega, show i + 1 - 1 = i by omega, s0 53, s0 41]
    simp
  · show (-2 ≤ γs 41 k ∧ γs 41 k < _) ∧ (_ → _ ∧ 0 ≤ γs 41 (k - 1))
    have e1 : γs 41 (k - 1) = γ 41 (k - 1) := by rw [s0, if_neg (by omega), if_neg (by omega), if_neg (by omega)]
    rw [e1]
    by_cases q : k = i
    · subst q
      refine ⟨?_, h36⟩
      rw [s0]; simp; exact hxx
    · rw [s0, if_neg (by omega), if_neg (by omega), if_neg (by omega)]; exact hk k q1 (by omega)
set_option maxHeartbeats 1000000 in
theorem w_checkClock {γ0 γ : St} {e i : Int} (hx : CkX γ0 e) (h : CsI γ0 e γ i) (h1 : γ0 43 e ≤ i) (h2 : i < γ0 44 e) : wp (f_Ck_checkClock γ i) (fun z => z.1 = 0 ∧ FrQ γ0 e z.2 ∨ z.1 = 1 ∧ CsI γ0 e z.2 (i + 1)) := by
  have ⟨hF, ht, hs, hl, hk⟩ := h
  have b := hx.b
  have v := hx.v
  have p := hx.p h1 h2
  have D := hx.D h1 (by omega)
  have pn := sdK_nn p.1
  have pl := p.2.2.2.2
  have eP := (hx.1.2.2.2.2.2.2.2.2 e hx.2.2.1 hx.2.2.2).2.1
  have e38 := hF 38 i (by omega) (by omega) (by omega)
  have e39 := hF 39 i (by omega) (by omega) (by omega)
  have e40 := hF 40 i (by omega) (by omega) (by omega)
  have := FU_v
  unfold f_Ck_checkClock
  refine wp_chk (by omega) (wp_sub (wp_chk (by omega) (wp_sub ?_)))
  rw [e38, e40]
  refine wp_chk (by omega) (wp_sub ?_)
  have hF1 : FrQ γ0 e (setA γ 7 4 (γ 7 4 - γ0 40 i)) := hF.s4
  have t1 : setA γ 7 4 (γ 7 4 - γ0 40 i) 7 4 = γ 7 4 - γ0 40 i := by rw [stA, if_pos ⟨rfl, rfl⟩]
  have r1 : ∀ j k, j ≠ 7 → setA γ 7 4 (γ 7 4 - γ0 40 i) j k = γ j k := fun j k q => by rw [stA, if_neg (by omega)]
  generalize setA γ 7 4 (γ 7 4 - γ0 40 i) = γ1 at *
  have hs1 : ∀ s, 0 ≤ s → s < γ1 7 4 → -2 ≤ γ1 53 s ∧ γ1 53 s < 2 * γ0 28 (γ0 3 9) := fun s q1 q2 => by rw [r1 53 s (by omega)]; exact hs s q1 (by omega)
  have hk1 : ∀ k, γ0 43 e ≤ k → k < i → (-2 ≤ γ1 41 k ∧ γ1 41 k < 2 * γ0 28 (γ0 3 9)) ∧ (γ0 38 k = 36 → γ0 43 e < k ∧ 0 ≤ γ1 41 (k - 1)) := fun k q1 q2 => by rw [r1 41 k (by omega), r1 41 (k - 1) (by omega)]; exact hk k q1 q2
  have f39 := hF1 39 i (by omega) (by omega) (by omega)
  -- the tail
  have b120 : ∀ y, -2 ≤ y → y < 2 * γ0 28 (γ0 3 9) → (γ0 38 i = 36 → 0 ≤ y → γ0 43 e < i ∧ 0 ≤ γ1 41 (i - 1)) → wp (f_Ck_checkClock_b120 γ1 i (γ0 38 i) y) (fun z => z.1 = 0 ∧ FrQ γ0 e z.2 ∨ z.1 = 1 ∧ CsI γ0 e z.2 (i + 1)) := by
    intro y y1 y2 y3
    unfold f_Ck_checkClock_b120
    refine wp_ite (fun c => ?_) (fun c => wp_ite (fun c2 => ?_) (fun _ => wp_some (Or.inl ⟨rfl, hF1⟩)))
    · exact wp_mono (w_cc_b141 hx hF1 h1 h2 (by omega) hs1 hk1 ⟨y1, y2⟩ (fun q => absurd q c)) (fun z hz => Or.inr hz)
    · refine wp_bnd (w_clockOfC hx hF1 ⟨c2, y2⟩) (fun r γ2 q => ?_)
      obtain ⟨q0, q1, q2⟩ := q
      have q0 : γ2 = γ1 := q0
      have q1 : -1 ≤ r := q1
      have q2 : r < 2 * γ0 28 (γ0 3 9) := q2
      subst q0
      exact wp_mono (w_cc_b141 hx hF1 h1 h2 (by omega) hs1 hk1 (by omega) (fun q => y3 q c2)) (fun z hz => Or.inr hz)
  have b65 : ∀ y, -3 ≤ y → y < 2 * γ0 28 (γ0 3 9) → (γ0 38 i = 36 → 0 ≤ y → γ0 43 e < i ∧ 0 ≤ γ1 41 (i - 1)) → wp (f_Ck_checkClock_b65 γ1 i (γ0 38 i) y) (fun z => z.1 = 0 ∧ FrQ γ0 e z.2 ∨ z.1 = 1 ∧ CsI γ0 e z.2 (i + 1)) := by
    intro y y1 y2 y3
    unfold f_Ck_checkClock_b65
    have b109 : γ0 38 i = 27 → wp (f_Ck_checkClock_b109 γ1 i (γ0 38 i)) (fun z => z.1 = 0 ∧ FrQ γ0 e z.2 ∨ z.1 = 1 ∧ CsI γ0 e z.2 (i + 1)) := by
      intro q
      have pw := p.2.2.2.1 q
      unfold f_Ck_checkClock_b109
      refine wp_chk (by omega) (wp_sub ?_)
      rw [f39]
      exact b120 _ (by omega) (by omega) (fun q2 => by omega)
    refine wp_ite (fun c => wp_ite (fun c2 => b120 y (by omega) y2 y3) (fun c2 => wp_ite (fun _ => b109 (by omega)) (fun _ => wp_chk (by omega) ?_))) (fun _ => wp_some (Or.inl ⟨rfl, hF1⟩))
    have pw := p.2.2.2.1 (by omega)
    rw [f39]
    refine wp_bnd (w_clockOfC hx hF1 pw) (fun r γ2 q => ?_)
    obtain ⟨q0, q1, q2⟩ := q
    have q0 : γ2 = γ1 := q0
    subst q0
    exact wp_ite (fun _ => b109 (by omega)) (fun _ => wp_some (Or.inl ⟨rfl, hF1⟩))
  refine wp_ite (fun c => ?_) (fun c => ?_)
  · unfold f_Ck_joined
    refine wp_bnd (w_joined_L5 (M := 2 * γ0 28 (γ0 3 9)) (by omega) (fun s q1 q2 => by rw [r1 53 s (by omega)]; exact hs s (by omega) (by omega)) (by omega) FU (-2) 0 (by omega) (by omega) (by omega) (by omega) (by omega)) (fun r γ2 q => ?_)
    obtain ⟨q0, q1, q2, -⟩ := q
    have q0 : γ2 = γ1 := q0
    have q1 : -3 ≤ r ∧ r < 2 * γ0 28 (γ0 3 9) := q1
    have q2 : γ0 40 i = 1 → (0 : Int) = 0 → (-2 : Int) = -2 → r = γ1 53 (γ1 7 4) := q2
    subst q0
    refine b65 r q1.1 q1.2 (fun k36 k0 => ?_)
    have s1 : γ0 40 i = 1 := by have := p.1; unfold sdK at this; omega
    have q3 := q2 s1 rfl rfl
    have li : γ0 43 e < i := by
      rcases Int.lt_or_le (γ0 43 e) i with q | q
      · exact q
      · exfalso
        have : i = γ0 43 e := by omega
        rw [this, eP] at pl
        rw [← this] at pl
        omega
    have q4 := hl li
    rw [r1 53 _ (by omega), t1, s1, q4] at q3
    exact ⟨li, by rw [r1 41 _ (by omega)]; omega⟩
  · have pv := p.2.2.1 (by omega)
    have cv := hx.cl pv.1 pv.2
    have g5 := hF1 7 5 (by omega) (by omega) (by omega)
    rw [f39, g5, hF1 34 _ (by omega) (by omega) (by omega)]
    exact wp_chk (by omega) (wp_chk (by omega) (wp_chk (by omega) (b65 _ (by omega) (by omega) (fun q => by omega))))
