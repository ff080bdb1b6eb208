/-! the class's nodes: clocks of groups, heads -/
theorem ishr_1 {x : Int} (h : i32 x) : ishr x 1 = x / 2 := by
  unfold ishr
  have e : (iI 1 &&& 31 : Int32) = 1 := by decide
  rw [e]
  show ((iI x).toBitVec.sshiftRight' ((1 : Int32).toBitVec.smod 32)).toInt = x / 2
  have e2 : ((1 : Int32).toBitVec.smod 32) = 1#32 := by decide
  rw [e2]
  show ((iI x).toBitVec.sshiftRight (1#32).toNat).toInt = x / 2
  rw [BitVec.toInt_sshiftRight, show (1#32 : BitVec 32).toNat = 1 by decide, Int.shiftRight_eq_div_pow]
  have := iI_toInt h
  have this : (iI x).toBitVec.toInt = x := this
  rw [this]
  rfl
theorem NI.clk {γ : St} {i x d : Int} (h : NI γ) (hi : γ 25 (γ 3 9) ≤ i) (hx : -1 ≤ x ∧ x < 2 * (i - γ 25 (γ 3 9))) (hd : 0 ≤ d ∧ d ≤ 8) : NI (setA (setA γ 34 i x) 35 i d) ∧ FrD γ (setA (setA γ 34 i x) 35 i d) := by
  have ⟨hT, hV, hC, hZ, hU⟩ := h
  have e : ∀ j k, (j ≠ 34 ∧ j ≠ 35 ∨ k ≠ i) → setA (setA γ 34 i x) 35 i d j k = γ j k := fun j k q => by rw [stA, if_neg (by omega), stA, if_neg (by omega)]
  have e34 : setA (setA γ 34 i x) 35 i d 34 i = x := by rw [stA, if_neg (by omega), stA, if_pos ⟨rfl, rfl⟩]
  have e35 : setA (setA γ 34 i x) 35 i d 35 i = d := by rw [stA, if_pos ⟨rfl, rfl⟩]
  generalize setA (setA γ 34 i x) 35 i d = γs at *
  have b9 : γs 3 9 = γ 3 9 := e 3 9 (by omega)
  have b25 : γs 25 (γ 3 9) = γ 25 (γ 3 9) := e 25 _ (by omega)
  have b16 := e 1 6 (by omega)
  refine ⟨⟨hT.ext (fun j k q => e j k (by omega)), hV.ext (fun j k q => e j k (by omega)), hC.ext (fun j k q => e j k (by omega)) (by omega), ?_, ?_⟩, fun j k q => e j k (by omega), by omega, fun j k q => e j k (by omega), Int.le_of_eq (e 28 _ (by omega)).symm⟩
  · rw [b9, b25, e 29 _ (by omega)]
    exact hZ.ext b9 (fun j k _ _ _ => e j k (by omega)) (fun j k _ _ => e j k (by omega)) (fun j k _ => e j k (by omega))
  · rw [b9]
    have ⟨a1, a2, a3, a4, a5⟩ := hU
    have c24 := e 24 (γ 3 9) (by omega)
    have c26 := e 26 (γ 3 9) (by omega)
    have c27 := e 27 (γ 3 9) (by omega)
    have c28 := e 28 (γ 3 9) (by omega)
    have c29 := e 29 (γ 3 9) (by omega)
    have c10 := e 4 10 (by omega)
    have c2 := e 2 8 (by omega)
    refine ⟨by omega, by omega, by omega, fun v h1 h2 => ?_, fun w h1 h2 => ?_⟩
    · have := a4 v h1 (by omega)
      unfold VrI at this ⊢
      rw [b25, e 36 _ (by omega), e 4 12 (by omega)]
      by_cases q : γ 25 (γ 3 9) + v = i
      · rw [q, e34, e35]
        rw [q] at this
        omega
      · rw [e 34 _ (by omega), e 35 _ (by omega)]
        exact this
    · exact (a5 w (by omega) (by omega)).ext (by omega) (by omega) (Int.le_refl _) (fun j k _ _ _ => e j k (by omega)) (fun j _ _ => e j w (by omega)) (fun k _ => e 47 k (by omega)) (Int.le_of_eq (e 4 4 (by omega)).symm) (Int.le_of_eq (e 4 12 (by omega)).symm)
theorem w_clk_L50 {x1 : Int} (h1 : 0 ≤ x1 ∧ x1 ≤ 1000) : ∀ (n : Nat) (γ : St) (x2 x3 : Int), NI γ → x2 = γ 25 (γ 3 9) → x1 < 2 * (x3 - x2) → x2 + x1 / 2 < 5841 → (0 ≤ γ 35 (x2 + x1 / 2) ∧ γ 35 (x2 + x1 / 2) < 8) → γ 3 15 - x3 < n → 0 < n → wp (f_Nr_readGroupClock_L50 n γ x1 x2 x3) (DrP γ) := by
  intro n
  induction n with
  | zero => intro γ x2 x3 h h2 h3 h4 h5 h6 h7; exact absurd h7 (by omega)
  | succ n ih =>
    intro γ x2 x3 h h2 h3 h4 h5 h6 h7
    have ⟨v1, v2, v3, v4, v5⟩ := h.2.1
    unfold f_Nr_readGroupClock_L50
    rw [ishr_1 (by omega)]
    refine wp_ite (fun _ => wp_some (DrP.mk h FrD.rf (Or.inr ⟨rfl, rfl⟩))) (fun c => ?_)
    have e35 : setA γ 34 x3 x1 35 (x2 + x1 / 2) = γ 35 (x2 + x1 / 2) := by rw [stA, if_neg (by omega)]
    refine wp_chk (by omega) (wp_sub (wp_chk (by omega) (wp_chk (by omega) (wp_chk (by omega) (wp_chk (by omega) (wp_sub (wp_chk (by omega) ?_)))))))
    rw [e35]
    have ⟨t1, t2⟩ := h.clk (i := x3) (x := x1) (d := γ 35 (x2 + x1 / 2) + 1) (by omega) (by omega) (by omega)
    refine wp_mono (ih _ _ _ t1 (by simp [stA]; exact h2) (by omega) h4 ?_ (by simp [stA]; omega) (by omega)) (fun z hz => hz.pre t2 (by simp [stA]))
    rw [stA, if_neg (by omega), stA, if_neg (by omega)]
    exact h5
theorem w_readGroupClock {γ : St} {a0 : Int} (h : NI γ) (h0 : 0 ≤ a0 ∧ a0 ≤ γ 28 (γ 3 9)) : wp (f_Nr_readGroupClock γ a0) (DrP γ) := by
  have ⟨v1, v2, v3, v4, v5⟩ := h.2.1
  have := FU_v
  unfold f_Nr_readGroupClock
  refine wp_bnd (w_Tk_kindNow h.1) (fun r γ1 e => ?_)
  obtain ⟨e, er⟩ := e
  have e : γ1 = γ := e
  have er : r = γ 14 (γ 1 6) := er
  subst e
  refine wp_ite (fun c => ?_) (fun _ => wp_some (DrP.mk h FrD.rf (Or.inr ⟨rfl, rfl⟩)))
  refine wp_bnd (w_readClock h.1 h.2.1 (by omega) h0) (fun r2 γ2 hz => ?_)
  obtain ⟨z1, z2, z3⟩ := hz
  have z1 : TkR γ2 := z1
  have z2 : FrC γ1 γ2 := z2
  have z3 : r2 = -1 ∧ γ2 1 7 ≠ 0 ∧ γ1 1 6 ≤ γ2 1 6 ∨ 0 ≤ r2 ∧ r2 < 2 * a0 ∧ γ2 1 7 = γ1 1 7 ∧ γ1 1 6 < γ2 1 6 ∧ γ1 33 (γ1 25 (γ1 3 9) + r2 / 2) = 1 ∧ γ1 35 (γ1 25 (γ1 3 9) + r2 / 2) ≠ 8 := z3
  have hN : NI γ2 := h.fr z1 z2 (by omega)
  have e9 := z2 3 9 (by omega)
  have e25 := z2 25 (γ1 3 9) (by omega)
  have e15 := z2 3 15 (by omega)
  refine wp_ite (fun c2 => ?_) (fun c2 => wp_some (DrP.mk hN (z2.D (by omega)) (Or.inl ⟨rfl, by omega⟩)))
  refine wp_chk (by omega) (wp_sub (wp_chk (by rw [e9, e25]; omega) (wp_sub ?_)))
  have u := (h.2.2.2.2.2.2.2.1 (r2 / 2) (by omega) (by omega)).1.2
  refine wp_mono (w_clk_L50 (by omega) FU γ2 _ _ hN rfl (by omega) (by rw [e9, e25]; omega) ?_ (by rw [e9, e25]; omega) (by omega)) (fun z hz => hz.pre (z2.D (by omega)) (by omega))
  rw [e9, e25, z2 35 _ (by omega)]
  omega
theorem w_readVarGroup {γ : St} (h : NI γ) : wp (f_Nr_readVarGroup γ) (DrP γ) := by
  have ⟨v1, v2, v3, v4, v5⟩ := h.2.1
  unfold f_Nr_readVarGroup
  refine wp_chk (by omega) (wp_sub (wp_bnd (w_readGroup h) (fun r γ1 q => ?_)))
  have q : DrP γ (r, γ1) := q
  have qr : r = 0 ∧ γ1 1 7 ≠ 0 ∨ r = 1 ∧ γ1 1 7 = γ 1 7 := q.2.2
  have e9 : γ1 3 9 = γ 3 9 := q.2.1.2.2.1 3 9 (by omega)
  have l28 : γ 28 (γ 3 9) ≤ γ1 28 (γ 3 9) := q.2.1.2.2.2
  refine wp_ite (fun c => wp_some (DrP.mk q.1 q.2.1 (Or.inl ⟨rfl, by omega⟩))) (fun c => ?_)
  refine wp_bnd (w_readGroupClock q.1 (by show _ ∧ _ ≤ γ1 28 (γ1 3 9); rw [e9]; omega)) (fun r2 γ2 p => ?_)
  have p : DrP γ (r2, γ2) := DrP.pre p q.2.1 (by show γ1 1 7 = γ 1 7; omega)
  have pr : r2 = 0 ∧ γ2 1 7 ≠ 0 ∨ r2 = 1 ∧ γ2 1 7 = γ 1 7 := p.2.2
  refine wp_ite (fun c => wp_some (DrP.mk p.1 p.2.1 (Or.inl ⟨rfl, by omega⟩))) (fun c => ?_)
  refine wp_bnd (w_dexp p.1 (by omega)) (fun r3 γ3 s => ?_)
  have s : DrP γ (r3, γ3) := DrP.pre s p.2.1 (by show γ2 1 7 = γ 1 7; omega)
  have sr : r3 = 0 ∧ γ3 1 7 ≠ 0 ∨ r3 = 1 ∧ γ3 1 7 = γ 1 7 := s.2.2
  exact wp_ite (fun c3 => wp_some (DrP.mk s.1 s.2.1 (Or.inl ⟨rfl, by omega⟩))) (fun c3 => wp_some (DrP.mk s.1 s.2.1 (Or.inr ⟨rfl, by omega⟩)))
theorem readVars_L0 {n : Nat} {γ : St} {x6 : Int} (hn : 0 < n) : f_Nr_readVars_L28 n γ 0 x6 = some (0, γ) := by
  cases n with
  | zero => exact absurd hn (by omega)
  | succ n =>
    unfold f_Nr_readVars_L28
    rw [if_pos rfl]
    exact some_wp (wp_chk (by omega) (wp_some rfl))
theorem w_readVars_L28 : ∀ (n : Nat) (γ : St) (x10 : Int), NI γ → 0 ≤ x10 → x10 ≤ γ 1 5 → γ 1 5 - x10 < n → wp (f_Nr_readVars_L28 n γ 1 x10) (DrP γ) := by
  intro n
  induction n with
  | zero => intro γ x10 h h2 h3 h4; exfalso; omega
  | succ n ih =>
    intro γ x10 h h2 h3 h4
    have t1 := h.1.1.2.1
    have hE : wp (chk ((1 : Int) = 0 ∨ (1 : Int) = 1) (some ((1 : Int), γ))) (DrP γ) := wp_chk (by omega) (wp_some (DrP.mk h FrD.rf (Or.inr ⟨rfl, rfl⟩)))
    unfold f_Nr_readVars_L28
    refine wp_ite (fun _ => hE) (fun c => wp_ite (fun _ => hE) (fun c2 => wp_bnd (w_Tk_kindNow h.1) (fun r γ1 e => ?_)))
    obtain ⟨e, er⟩ := e
    have e : γ1 = γ := e
    have er : r = γ 14 (γ 1 6) := er
    subst e
    refine wp_ite (fun _ => hE) (fun c3 => ?_)
    refine wp_bnd (w_readVarGroup h) (fun r2 γ2 q => wp_chk (by omega) ?_)
    have q : DrP γ1 (r2, γ2) := q
    have qr : r2 = 0 ∧ γ2 1 7 ≠ 0 ∨ r2 = 1 ∧ γ2 1 7 = γ1 1 7 := q.2.2
    have e5 : γ2 1 5 = γ1 1 5 := q.2.1.2.2.1 1 5 (by omega)
    rcases qr with qr | qr
    · rw [qr.1] at q ⊢
      exact wp_eq (readVars_L0 (by omega)) q
    · rw [qr.1]
      exact wp_mono (ih γ2 (x10 + 1) q.1 (by omega) (by omega) (by omega)) (fun z hz => hz.pre q.2.1 qr.2)
theorem w_readVars {γ : St} (h : NI γ) : wp (f_Nr_readVars γ) (DrP γ) := by
  have := FU_v
  unfold f_Nr_readVars
  refine wp_bnd (w_Tk_kindNow h.1) (fun r γ1 e => ?_)
  obtain ⟨e, er⟩ := e
  have e : γ1 = γ := e
  have er : r = γ 14 (γ 1 6) := er
  subst e
  refine wp_ite (fun c => wp_bs (step_eq h.1 (by omega)) ?_) (fun _ => wp_some (DrP.mk h FrD.rf (Or.inr ⟨rfl, rfl⟩)))
  have ⟨s1, s2, s3, s4⟩ := h.step (by omega)
  refine wp_bnd (w_readVarGroup s1) (fun r2 γ2 q => ?_)
  have q : DrP γ1 (r2, γ2) := DrP.pre q s2 s3
  have qr : r2 = 0 ∧ γ2 1 7 ≠ 0 ∨ r2 = 1 ∧ γ2 1 7 = γ1 1 7 := q.2.2
  have t1 := q.1.1.1.2.1
  rcases qr with qr | qr
  · rw [qr.1] at q ⊢
    exact wp_eq (readVars_L0 (by omega)) q
  · rw [qr.1]
    exact wp_mono (w_readVars_L28 FU γ2 0 q.1 (by omega) t1.1 (by have : γ2 1 5 ≤ 10241 := t1.2; omega)) (fun z hz => hz.pre q.2.1 qr.2)
/-- between nodes -/
def TopI (γ : St) : Prop := TkR γ ∧ (0 ≤ γ 3 9 ∧ γ 3 9 ≤ 59) ∧ (0 ≤ γ 3 15 ∧ γ 3 15 ≤ 99 * γ 3 9) ∧ CoI γ ∧ FzI γ (γ 3 15) (γ 4 10) ∧ ∀ w, 0 ≤ w → w < γ 2 8 → (0 ≤ γ 23 w ∧ γ 23 w ≤ γ 3 9) ∧ γ 22 w ≤ γ 3 9
def opndS (γ : St) (a0 : Int) : St := setA (setA (setA (setA (setA (setA γ 24 (γ 3 9) a0) 25 (γ 3 9) (γ 3 15)) 26 (γ 3 9) 0) 27 (γ 3 9) 0) 28 (γ 3 9) 0) 29 (γ 3 9) (γ 4 10)
theorem opndS_v (γ : St) (a0 : Int) (j : Nat) (k : Int) : opndS γ a0 j k = if j = 29 ∧ k = γ 3 9 then γ 4 10 else if j = 28 ∧ k = γ 3 9 then 0 else if j = 27 ∧ k = γ 3 9 then 0 else if j = 26 ∧ k = γ 3 9 then 0 else if j = 25 ∧ k = γ 3 9 then γ 3 15 else if j = 24 ∧ k = γ 3 9 then a0 else γ j k := by simp [opndS, stA]
theorem TopI.opn {γ : St} {a0 : Int} (h : TopI γ) (h9 : γ 3 9 < 59) (ha : 0 ≤ a0 ∧ a0 < γ 2 8) : NI (opndS γ a0) := by
  have ⟨hT, t1, t2, hC, hZ, hw⟩ := h
  have s0 := opndS_v γ a0
  generalize opndS γ a0 = γs at *
  have e : ∀ j k, (j < 24 ∨ 29 < j ∨ k ≠ γ 3 9) → γs j k = γ j k := fun j k q => by rw [s0]; repeat rw [if_neg (by omega)]
  have b9 : γs 3 9 = γ 3 9 := e 3 9 (by omega)
  have b25 : γs 25 (γ 3 9) = γ 3 15 := by rw [s0]; simp
  have b24 : γs 24 (γ 3 9) = a0 := by rw [s0]; simp
  have b26 : γs 26 (γ 3 9) = 0 := by rw [s0]; simp
  have b27 : γs 27 (γ 3 9) = 0 := by rw [s0]; simp
  have b28 : γs 28 (γ 3 9) = 0 := by rw [s0]; simp
  have b29 : γs 29 (γ 3 9) = γ 4 10 := by rw [s0]; simp
  have c10 := e 4 10 (by omega)
  have c2 := e 2 8 (by omega)
  have c15 := e 3 15 (by omega)
  have hc := hC.2.1
  refine ⟨hT.ext (fun j k q => e j k (by omega)), ⟨by omega, by rw [b9, b25]; omega, by rw [b9, b28]; omega, by rw [b9, b25, b28]; omega, fun w q1 q2 => ?_⟩, hC.ext (fun j k q => e j k (by omega)) (Int.le_of_eq (e 1 6 (by omega)).symm), ?_, ?_⟩
  · rw [c2] at q2
    have := hw w q1 q2
    rw [b9, e 21 w (by omega), e 22 w (by omega), e 23 w (by omega)]
    omega
  · rw [b9, b25, b29]
    exact hZ.ext b9 (fun j k _ _ _ => e j k (by omega)) (fun j k _ _ => e j k (by omega)) (fun j k _ => e j k (by omega))
  · rw [b9]
    refine ⟨by omega, by omega, by omega, fun v q1 q2 => by omega, fun v q1 q2 => by omega⟩
/-- reading a head or a body -/
def FlP (γ : St) (z : Int × St) : Prop := z.1 = 0 ∧ z.2 1 7 ≠ 0 ∧ FrX γ z.2
def HdP (γ : St) (z : Int × St) : Prop := FlP γ z ∨ z.1 = 1 ∧ NI z.2 ∧ FrX γ z.2 ∧ γ 1 6 ≤ z.2 1 6 ∧ z.2 1 7 = γ 1 7 ∧ z.2 1 5 = γ 1 5 ∧ z.2 3 9 = γ 3 9 ∧ z.2 4 10 = γ 4 10 ∧ z.2 29 (γ 3 9) = γ 4 10
theorem HrP.Hd {γ γ' : St} {z : Int × St} (h : HrP γ' z) (hF : FrX γ γ') (h6 : γ 1 6 ≤ γ' 1 6) (h7 : γ' 1 7 = γ 1 7) (h5 : γ' 1 5 = γ 1 5) (h9 : γ' 3 9 = γ 3 9) (h10 : γ' 4 10 = γ 4 10) (h29 : γ' 29 (γ 3 9) = γ 4 10) : HdP γ z := by
  obtain ⟨a1, a2, a3⟩ := h
  rcases a3 with a3 | a3
  · exact Or.inl ⟨a3.1, a3.2, hF.tr a2.1⟩
  · refine Or.inr ⟨a3.1, a1, hF.tr a2.1, Int.le_trans h6 a2.2.1, by omega, ?_, ?_, ?_, ?_⟩
    · rw [a2.2.2 1 5 (by omega)]; exact h5
    · rw [a2.2.2 3 9 (by omega)]; exact h9
    · rw [a2.2.2 4 10 (by omega)]; exact h10
    · rw [a2.2.2 29 _ (by omega)]; exact h29
theorem TopI.fl {γ : St} {a : Int} (h : TkR γ) (ha : a ≠ 0) : wp (bndN (f_Tk_fail γ a) fun r γ' => some (r, γ')) (FlP γ) := by
  have ⟨f1, f2, f3, f4⟩ := fail_T (a := a) h ha
  exact wp_bs (fail_eq h) (wp_some ⟨rfl, f4, f2.X⟩)
theorem TopI.fr {γ γ' : St} (h : TopI γ) (hT : TkR γ') (hF : FrC γ γ') (h6 : γ 1 6 ≤ γ' 1 6) : TopI γ' := by
  have ⟨_, t1, t2, hC, hZ, hw⟩ := h
  have b9 := hF 3 9 (by omega)
  have b15 := hF 3 15 (by omega)
  refine ⟨hT, by omega, by omega, hC.ext (fun j k q => hF j k (by omega)) h6, ?_, fun w q1 q2 => ?_⟩
  · rw [b15, hF 4 10 (by omega)]
    exact hZ.ext b9 (fun j k _ _ _ => hF j k (by omega)) (fun j k _ _ => hF j k (by omega)) (fun j k _ => hF j k (by omega))
  · rw [hF 2 8 (by omega)] at q2
    rw [b9, hF 22 w (by omega), hF 23 w (by omega)]
    exact hw w q1 q2
theorem w_readNodeName {γ : St} (h : TopI γ) (h9 : γ 3 9 < 59) : wp (f_Nr_readNodeName γ) (fun z => HdP γ z ∧ (z.1 = 1 → z.2 27 (γ 3 9) = 0)) := by
  have hT := h.1
  have fl : ∀ a, a ≠ 0 → wp (bndN (f_Tk_fail γ a) fun r γ' => some (r, γ')) (fun z => HdP γ z ∧ (z.1 = 1 → z.2 27 (γ 3 9) = 0)) := fun a ha => wp_mono (TopI.fl hT ha) (fun z hz => ⟨Or.inl hz, fun q => absurd (hz.1.symm.trans q) (by decide)⟩)
  unfold f_Nr_readNodeName
  refine wp_bnd (w_Tk_kindNow hT) (fun r γ1 e => ?_)
  obtain ⟨e, er⟩ := e
  have e : γ1 = γ := e
  have er : r = γ 14 (γ 1 6) := er
  subst e
  refine wp_ite (fun c => ?_) (fun c => fl 1 (by omega))
  have hk : γ1 14 (γ1 1 6) = 2 := by omega
  have wd := hT.wd hk
  have t1 := h.2.1
  refine wp_bnd (w_Tk_itemNow hT) (fun r2 γ2 e => ?_)
  obtain ⟨e, er2⟩ := e
  have e : γ2 = γ1 := e
  have er2 : r2 = γ1 16 (γ1 1 6) := er2
  subst e
  subst er2
  refine wp_chk (by omega) (wp_ite (fun c1 => ?_) (fun c1 => fl 2 (by omega)))
  have hN := h.opn (a0 := γ2 16 (γ2 1 6)) h9 (by omega)
  refine wp_bs (r := 0) (γ := opndS γ2 (γ2 16 (γ2 1 6))) ?_ ?_
  · unfold f_Nd_open
    exact some_wp (wp_chk (by omega) (wp_sub (wp_chk (by simp [stA]; omega) (wp_sub (wp_chk (by simp [stA]; omega) (wp_sub (wp_chk (by simp [stA]; omega) (wp_sub (wp_chk (by simp [stA]; omega) (wp_sub (wp_chk (by simp [stA]; omega) (wp_sub (wp_some (by simp [opndS, stA]))))))))))))))
  · have s0 := opndS_v γ2 (γ2 16 (γ2 1 6))
    generalize opndS γ2 (γ2 16 (γ2 1 6)) = γs at *
    have e : ∀ j k, (j < 24 ∨ 29 < j ∨ k ≠ γ2 3 9) → γs j k = γ2 j k := fun j k q => by rw [s0]; repeat rw [if_neg (by omega)]
    have hk2 : γs 14 (γs 1 6) ≠ 0 := by rw [e 1 6 (by omega), e 14 _ (by omega)]; omega
    have ⟨s1, s2, s3, s4⟩ := hN.step hk2
    have c27 : γs 27 (γ2 3 9) = 0 := by rw [s0]; simp
    refine wp_bs (step_eq hN.1 hk2) (wp_some ⟨HrP.Hd (HrP.mk s1 s2.H (Or.inr ⟨rfl, s3⟩)) (fun j k q => e j k (by omega)) (Int.le_of_eq (e 1 6 (by omega)).symm) (e 1 7 (by omega)) (e 1 5 (by omega)) (e 3 9 (by omega)) (e 4 10 (by omega)) (by rw [s0]; simp), fun _ => ?_⟩)
    show stepS γs 27 (γ2 3 9) = 0
    rw [s2.2.2.1 27 _ (by omega)]
    exact c27
theorem exp_eq {γ : St} {a0 : Int} (h : TkR γ) (h0 : a0 ≠ 0) : f_Tk_expect γ a0 = if γ 14 (γ 1 6) = a0 then some (1, stepS γ) else some (0, failS γ 1) := by
  have t1 := h.1.2.1
  have t2 := h.2.1
  unfold f_Tk_expect
  by_cases c : γ 14 (γ 1 6) = a0
  · rw [if_pos c, if_pos c]
    refine some_wp (wp_chk (by omega) (wp_bs (step_eq h (by omega)) ?_))
    exact wp_some rfl
  · rw [if_neg c, if_neg c]
    refine some_wp (wp_chk (by omega) (wp_bs (fail_eq h) ?_))
    exact wp_some rfl
theorem HdP.pre {γ γ' : St} {z : Int × St} (h : HdP γ' z) (hF : FrC γ γ') (h6 : γ 1 6 ≤ γ' 1 6) (h7 : γ' 1 7 = γ 1 7) : HdP γ z := by
  have e9 := hF 3 9 (by omega)
  have e10 := hF 4 10 (by omega)
  have e5 := hF 1 5 (by omega)
  rcases h with h | h
  · exact Or.inl ⟨h.1, h.2.1, hF.X.tr h.2.2⟩
  · obtain ⟨a1, a2, a3, a4, a5, a6, a7, a8, a9⟩ := h
    rw [e9] at a9
    exact Or.inr ⟨a1, a2, hF.X.tr a3, by omega, by omega, by omega, by omega, by omega, by omega⟩
theorem w_readHead {γ : St} (h : TopI γ) : wp (f_Nr_readHead γ) (HdP γ) := by
  have hT := h.1
  have b33 : (γ 14 (γ 1 6) = 20 → γ 3 9 < 59) → wp (f_Nr_readHead_b33 γ) (HdP γ) := by
    intro h9
    unfold f_Nr_readHead_b33
    by_cases c : γ 14 (γ 1 6) = 20
    · refine wp_bs (r := 1) (γ := stepS γ) (by rw [exp_eq hT (by omega), if_pos c]) (wp_ite (fun q => absurd q (by decide)) (fun _ => ?_))
      have ⟨s1, s2⟩ := step_T hT (show γ 14 (γ 1 6) ≠ 0 by omega)
      have s6 : stepS γ 1 6 = γ 1 6 + 1 := by rw [stepS_v]; simp
      have s7 : stepS γ 1 7 = γ 1 7 := by rw [stepS_v]; simp
      have hs := h.fr s1 s2 (by omega)
      have s9 := s2 3 9 (by omega)
      have h9 := h9 c
      suffices hh : wp _ (HdP (stepS γ)) from wp_mono hh (fun z hz => hz.pre s2 (by omega) s7)
      generalize stepS γ = γs at *
      refine wp_bnd (w_readNodeName hs (by omega)) (fun r2 γ2 q => ?_)
      obtain ⟨q, q27⟩ := q
      refine wp_ite (fun c2 => ?_) (fun c2 => ?_)
      · rcases q with q | q
        · exact wp_some (Or.inl ⟨rfl, q.2.1, q.2.2⟩)
        · exact absurd (q.1.symm.trans c2) (by decide)
      · rcases q with q | q
        · exact absurd q.1 c2
        · have q27 : γ2 27 (γs 3 9) = 0 := q27 q.1
          obtain ⟨a1, a2, a3, a4, a5, a6, a7, a8, a9⟩ := q
          have a2 : NI γ2 := a2
          have a7 : γ2 3 9 = γs 3 9 := a7
          have up : ∀ z, HrP γ2 z → HdP γs z := fun z hz => hz.Hd a3 a4 a5 a6 a7 a8 a9
          have fin : ∀ γ3 : St, ∀ r : Int, HrP γ2 (r, γ3) → r = 0 → wp (some ((0 : Int), γ3)) (HdP γs) := fun γ3 r hr e => wp_some (by rw [e] at hr; exact up _ hr)
          refine wp_bnd (w_readInputs a2 (by rw [a7]; exact q27)) (fun r3 γ3 p => ?_)
          have p : HrP γ2 (r3, γ3) := p
          have pr : r3 = 0 ∧ γ3 1 7 ≠ 0 ∨ r3 = 1 ∧ γ3 1 7 = γ2 1 7 := p.2.2
          refine wp_ite (fun c3 => fin _ _ p c3) (fun c3 => ?_)
          refine wp_bnd (w_dexp p.1 (by omega)) (fun r4 γ4 p4 => ?_)
          have p4 : HrP γ2 (r4, γ4) := (DrP.H p4).pre p.2.1 (by show γ3 1 7 = γ2 1 7; omega)
          have pr4 : r4 = 0 ∧ γ4 1 7 ≠ 0 ∨ r4 = 1 ∧ γ4 1 7 = γ2 1 7 := p4.2.2
          refine wp_ite (fun c3 => fin _ _ p4 c3) (fun c3 => ?_)
          refine wp_bnd (w_readOutputs p4.1) (fun r5 γ5 p5 => ?_)
          have p5 : HrP γ2 (r5, γ5) := HrP.pre p5 p4.2.1 (by show γ4 1 7 = γ2 1 7; omega)
          have pr5 : r5 = 0 ∧ γ5 1 7 ≠ 0 ∨ r5 = 1 ∧ γ5 1 7 = γ2 1 7 := p5.2.2
          refine wp_ite (fun c3 => fin _ _ p5 c3) (fun c3 => ?_)
          refine wp_bnd (w_dexp p5.1 (by omega)) (fun r6 γ6 p6 => ?_)
          have p6 : HrP γ2 (r6, γ6) := (DrP.H p6).pre p5.2.1 (by show γ5 1 7 = γ2 1 7; omega)
          have pr6 : r6 = 0 ∧ γ6 1 7 ≠ 0 ∨ r6 = 1 ∧ γ6 1 7 = γ2 1 7 := p6.2.2
          refine wp_ite (fun c3 => fin _ _ p6 c3) (fun c3 => wp_some ?_)
          have e1 : r6 = 1 := by omega
          rw [e1] at p6
          exact up _ p6
    · have ⟨f1, f2, f3, f4⟩ := fail_T (a := 1) hT (by omega)
      exact wp_bs (r := 0) (γ := failS γ 1) (by rw [exp_eq hT (by omega), if_neg c]) (wp_ite (fun _ => wp_some (Or.inl ⟨rfl, f4, f2.X⟩)) (fun q => absurd rfl q))
  unfold f_Nr_readHead
  refine wp_bnd (w_Tk_kindNow hT) (fun r γ1 e => ?_)
  obtain ⟨e, er⟩ := e
  have e : γ1 = γ := e
  have er : r = γ 14 (γ 1 6) := er
  subst e
  have t1 := h.2.1
  refine wp_ite (fun c => b33 (by omega)) (fun c => wp_ite (fun c2 => b33 (by omega)) (fun _ => wp_mono (TopI.fl hT (by omega)) (fun z hz => Or.inl hz)))
