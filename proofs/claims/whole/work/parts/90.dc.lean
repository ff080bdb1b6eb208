/-! the class's nodes: groups, heads -/
theorem NI.typ {γ : St} {i x : Int} (h : NI γ) : NI (setA γ 33 i x) ∧ FrD γ (setA γ 33 i x) := by
  have e : ∀ j k, j ≠ 33 → setA γ 33 i x j k = γ j k := fun j k q => by rw [stA, if_neg (by omega)]
  refine ⟨h.ext (h.1.ext (fun j k q => e j k (by omega))) (fun j k q => e j k (by omega)) (Int.le_of_eq (e 1 6 (by omega)).symm), fun j k q => e j k (by omega), Int.le_of_eq (e 1 6 (by omega)).symm, fun j k q => e j k (by omega), Int.le_of_eq (e 28 _ (by omega)).symm⟩
theorem w_readType_L31 : ∀ (n : Nat) (γ : St) (x12 x13 : Int), NI γ → γ 14 (γ 1 6) ≠ 0 → 0 ≤ x13 → γ 3 15 - x13 < n → 0 < n → wp (f_Nr_readType_L31 f_Nr_readType_b68 n γ x12 x13) (DrP γ) := by
  intro n
  induction n with
  | zero =>
    intro γ x12 x13 h hk h0 hn h1
    exact absurd h1 (by omega)
  | succ n ih =>
    intro γ x12 x13 h hk h0 hn _
    have ⟨v1, v2, v3, v4, v5⟩ := h.2.1
    unfold f_Nr_readType_L31
    refine wp_ite (fun c => ?_) (fun c => ?_)
    · unfold f_Nr_readType_b68
      have ⟨s1, s2, s3, s4⟩ := h.step hk
      exact wp_bs (step_eq h.1 hk) (wp_some (DrP.mk s1 s2 (Or.inr ⟨rfl, s3⟩)))
    · have g : ∀ y, wp (f_Nr_readType_b61 (f_Nr_readType_L31 f_Nr_readType_b68 n) f_Nr_readType_b68 γ x12 x13 y x13) (DrP γ) := by
        intro y
        unfold f_Nr_readType_b61
        have ⟨t1, t2⟩ := h.typ (i := x13) (x := y)
        refine wp_chk (by omega) (wp_sub (wp_chk (by omega) (wp_mono (ih _ _ _ t1 (by simp [stA]; exact hk) (by omega) (by simp [stA]; omega) (by omega)) (fun z hz => hz.pre t2 (by simp [stA])))))
      exact wp_ite (fun _ => g 0) (fun _ => g 1)
theorem w_readType {γ : St} {a0 : Int} (h : NI γ) (h0 : 0 ≤ a0) : wp (f_Nr_readType γ a0) (DrP γ) := by
  have ⟨v1, v2, v3, v4, v5⟩ := h.2.1
  have := FU_v
  unfold f_Nr_readType
  refine wp_bnd (w_Tk_kindNow h.1) (fun r γ1 e => ?_)
  obtain ⟨e, er⟩ := e
  have e : γ1 = γ := e
  have er : r = γ 14 (γ 1 6) := er
  subst e
  refine wp_ite (fun c => ?_) (fun _ => wp_ite (fun c => ?_) (fun _ => w_dfail h (by omega)))
  · exact w_readType_L31 FU _ _ _ h (by omega) h0 (by omega) (by omega)
  · exact w_readType_L31 FU _ _ _ h (by omega) h0 (by omega) (by omega)
theorem w_readGroup_b60 {γ : St} {x1 : Int} (h : NI γ) (h1 : 0 ≤ x1) : wp (f_Nr_readGroup_b60 γ x1 1) (DrP γ) := by
  unfold f_Nr_readGroup_b60
  refine wp_ite (fun c => absurd c (by decide)) (fun c => wp_bnd (w_dexp h (by omega)) (fun r γ1 q => ?_))
  have qr : r = 0 ∧ γ1 1 7 ≠ 0 ∨ r = 1 ∧ γ1 1 7 = γ 1 7 := q.2.2
  refine wp_ite (fun c2 => wp_some (DrP.mk q.1 q.2.1 (Or.inl ⟨rfl, by omega⟩))) (fun c2 => wp_bnd (w_readType q.1 h1) (fun r2 γ2 p => ?_))
  have p : DrP γ (r2, γ2) := DrP.pre p q.2.1 (by show γ1 1 7 = γ 1 7; omega)
  have pr : r2 = 0 ∧ γ2 1 7 ≠ 0 ∨ r2 = 1 ∧ γ2 1 7 = γ 1 7 := p.2.2
  exact wp_ite (fun c3 => wp_some (DrP.mk p.1 p.2.1 (Or.inl ⟨rfl, by omega⟩))) (fun c3 => wp_some (DrP.mk p.1 p.2.1 (Or.inr ⟨rfl, by omega⟩)))
theorem readGroup_L0 {n : Nat} {γ : St} {x8 x10 : Int} (hn : 0 < n) : f_Nr_readGroup_L15 f_Nr_readGroup_b60 n γ x8 0 x10 = some (0, γ) := by
  cases n with
  | zero => exact absurd hn (by omega)
  | succ n =>
    unfold f_Nr_readGroup_L15 f_Nr_readGroup_b60
    rw [if_pos rfl, if_pos rfl]
theorem w_readGroup_L15 {x8 : Int} (h8 : 0 ≤ x8) : ∀ (n : Nat) (γ : St) (x10 : Int), NI γ → 0 ≤ x10 → x10 ≤ γ 1 5 → γ 1 5 - x10 < n → wp (f_Nr_readGroup_L15 f_Nr_readGroup_b60 n γ x8 1 x10) (DrP γ) := by
  intro n
  induction n with
  | zero => intro γ x10 h h2 h3 h4; exfalso; omega
  | succ n ih =>
    intro γ x10 h h2 h3 h4
    have t1 := h.1.1.2.1
    have hE := w_readGroup_b60 h h8
    unfold f_Nr_readGroup_L15
    refine wp_ite (fun _ => hE) (fun c => wp_ite (fun _ => hE) (fun c2 => wp_bnd (w_Tk_kindNow h.1) (fun r γ1 e => ?_)))
    obtain ⟨e, er⟩ := e
    have e : γ1 = γ := e
    have er : r = γ 14 (γ 1 6) := er
    subst e
    refine wp_ite (fun _ => hE) (fun c3 => wp_bs (step_eq h.1 (by omega)) ?_)
    have ⟨s1, s2, s3, s4⟩ := h.step (by omega)
    refine wp_bnd (w_readNewName s1) (fun r2 γ2 q => wp_chk (by omega) ?_)
    have q : DrP γ1 (r2, γ2) := DrP.pre q s2 s3
    have qr : r2 = 0 ∧ γ2 1 7 ≠ 0 ∨ r2 = 1 ∧ γ2 1 7 = γ1 1 7 := q.2.2
    have e5 : γ2 1 5 = γ1 1 5 := q.2.1.2.2.1 1 5 (by omega)
    rcases qr with qr | qr
    · rw [qr.1] at q ⊢
      exact wp_eq (readGroup_L0 (by omega)) q
    · rw [qr.1]
      exact wp_mono (ih γ2 (x10 + 1) q.1 (by omega) (by omega) (by omega)) (fun z hz => hz.pre q.2.1 qr.2)
theorem w_readGroup {γ : St} (h : NI γ) : wp (f_Nr_readGroup γ) (DrP γ) := by
  have ⟨v1, v2, v3, v4, v5⟩ := h.2.1
  have := FU_v
  unfold f_Nr_readGroup
  refine wp_sub (wp_bnd (w_readNewName h) (fun r2 γ2 q => ?_))
  have q : DrP γ (r2, γ2) := q
  have qr : r2 = 0 ∧ γ2 1 7 ≠ 0 ∨ r2 = 1 ∧ γ2 1 7 = γ 1 7 := q.2.2
  have t1 := q.1.1.1.2.1
  rcases qr with qr | qr
  · rw [qr.1] at q ⊢
    exact wp_eq (readGroup_L0 (by omega)) q
  · rw [qr.1]
    exact wp_mono (w_readGroup_L15 (by omega) FU γ2 0 q.1 (by omega) t1.1 (by have : γ2 1 5 ≤ 10241 := t1.2; omega)) (fun z hz => hz.pre q.2.1 qr.2)
theorem w_readGroups_b71 {γ : St} (h : NI γ) : wp (f_Nr_readGroups_b71 γ 1) (DrP γ) := by
  unfold f_Nr_readGroups_b71
  refine wp_ite (fun c => absurd c (by decide)) (fun c => wp_bnd (w_dexp h (by omega)) (fun r γ1 p => ?_))
  have p : DrP γ (r, γ1) := p
  have pr : r = 0 ∧ γ1 1 7 ≠ 0 ∨ r = 1 ∧ γ1 1 7 = γ 1 7 := p.2.2
  exact wp_ite (fun c3 => wp_some (DrP.mk p.1 p.2.1 (Or.inl ⟨rfl, by omega⟩))) (fun c3 => wp_some (DrP.mk p.1 p.2.1 (Or.inr ⟨rfl, by omega⟩)))
theorem readGroups_L0 {n : Nat} {γ : St} {x6 : Int} (hn : 0 < n) : f_Nr_readGroups_L26 f_Nr_readGroups_b71 n γ 0 x6 = some (0, γ) := by
  cases n with
  | zero => exact absurd hn (by omega)
  | succ n =>
    unfold f_Nr_readGroups_L26 f_Nr_readGroups_b71
    rw [if_pos rfl, if_pos rfl]
theorem w_readGroups_L26 : ∀ (n : Nat) (γ : St) (x10 : Int), NI γ → 0 ≤ x10 → x10 ≤ γ 1 5 → γ 1 5 - x10 < n → wp (f_Nr_readGroups_L26 f_Nr_readGroups_b71 n γ 1 x10) (DrP γ) := by
  intro n
  induction n with
  | zero => intro γ x10 h h2 h3 h4; exfalso; omega
  | succ n ih =>
    intro γ x10 h h2 h3 h4
    have t1 := h.1.1.2.1
    have hE := w_readGroups_b71 h
    unfold f_Nr_readGroups_L26
    refine wp_ite (fun _ => hE) (fun c => wp_ite (fun _ => hE) (fun c2 => wp_bnd (w_Tk_kindNow h.1) (fun r γ1 e => ?_)))
    obtain ⟨e, er⟩ := e
    have e : γ1 = γ := e
    have er : r = γ 14 (γ 1 6) := er
    subst e
    refine wp_ite (fun _ => hE) (fun c3 => wp_bs (step_eq h.1 (by omega)) ?_)
    have ⟨s1, s2, s3, s4⟩ := h.step (by omega)
    refine wp_bnd (w_readGroup s1) (fun r2 γ2 q => wp_chk (by omega) ?_)
    have q : DrP γ1 (r2, γ2) := DrP.pre q s2 s3
    have qr : r2 = 0 ∧ γ2 1 7 ≠ 0 ∨ r2 = 1 ∧ γ2 1 7 = γ1 1 7 := q.2.2
    have e5 : γ2 1 5 = γ1 1 5 := q.2.1.2.2.1 1 5 (by omega)
    rcases qr with qr | qr
    · rw [qr.1] at q ⊢
      exact wp_eq (readGroups_L0 (by omega)) q
    · rw [qr.1]
      exact wp_mono (ih γ2 (x10 + 1) q.1 (by omega) (by omega) (by omega)) (fun z hz => hz.pre q.2.1 qr.2)
theorem w_readGroups {γ : St} (h : NI γ) : wp (f_Nr_readGroups γ) (DrP γ) := by
  have := FU_v
  unfold f_Nr_readGroups f_Nr_readGroups_b22 f_Nr_readGroups_b23
  refine wp_bnd (w_dexp h (by omega)) (fun r γ1 p => ?_)
  have p : DrP γ (r, γ1) := p
  have pr : r = 0 ∧ γ1 1 7 ≠ 0 ∨ r = 1 ∧ γ1 1 7 = γ 1 7 := p.2.2
  refine wp_ite (fun c => wp_eq (readGroups_L0 (by omega)) (DrP.mk p.1 p.2.1 (Or.inl ⟨rfl, by omega⟩))) (fun c => ?_)
  refine wp_bnd (w_readGroup p.1) (fun r2 γ2 q => ?_)
  have q : DrP γ (r2, γ2) := DrP.pre q p.2.1 (by show γ1 1 7 = γ 1 7; omega)
  have qr : r2 = 0 ∧ γ2 1 7 ≠ 0 ∨ r2 = 1 ∧ γ2 1 7 = γ 1 7 := q.2.2
  have t1 := q.1.1.1.2.1
  refine wp_ite (fun c => wp_eq (readGroups_L0 (by omega)) (DrP.mk q.1 q.2.1 (Or.inl ⟨rfl, by omega⟩))) (fun c => ?_)
  exact wp_mono (w_readGroups_L26 FU γ2 0 q.1 (by omega) t1.1 (by have : γ2 1 5 ≤ 10241 := t1.2; omega)) (fun z hz => hz.pre q.2.1 (by show γ2 1 7 = γ 1 7; omega))
/-- one cell of the node that is open -/
theorem NI.ins {γ : St} {i : Nat} {x : Int} (h : NI γ) (hi : i = 26 ∧ 0 ≤ x ∧ x + γ 27 (γ 3 9) ≤ γ 28 (γ 3 9) ∨ i = 27 ∧ 0 ≤ x ∧ γ 26 (γ 3 9) + x ≤ γ 28 (γ 3 9)) : NI (setA γ i (γ 3 9) x) := by
  have ⟨hT, hV, hC, hZ, hU⟩ := h
  have e : ∀ j k, (j ≠ i ∨ k ≠ γ 3 9) → setA γ i (γ 3 9) x j k = γ j k := fun j k q => by rw [stA, if_neg (by omega)]
  have ei : setA γ i (γ 3 9) x i (γ 3 9) = x := by rw [stA, if_pos ⟨rfl, rfl⟩]
  generalize setA γ i (γ 3 9) x = γs at *
  have b9 : γs 3 9 = γ 3 9 := e 3 9 (by omega)
  have b25 : γs 25 (γ 3 9) = γ 25 (γ 3 9) := e 25 _ (by omega)
  refine ⟨hT.ext (fun j k q => e j k (by omega)), hV.ext (fun j k q => e j k (by omega)), hC.ext (fun j k q => e j k (by omega)) (Int.le_of_eq (e 1 6 (by omega)).symm), ?_, ?_⟩
  · rw [b9, b25, e 29 _ (by omega)]
    exact hZ.ext b9 (fun j k _ _ _ => e j k (by omega)) (fun j k _ _ => e j k (by omega)) (fun j k _ => e j k (by omega))
  · rw [b9]
    have ⟨a1, a2, a3, a4, a5⟩ := hU
    have c24 := e 24 (γ 3 9) (by omega)
    have c28 := e 28 (γ 3 9) (by omega)
    have c29 := e 29 (γ 3 9) (by omega)
    have c10 := e 4 10 (by omega)
    have c2 := e 2 8 (by omega)
    refine ⟨by omega, ?_, by omega, fun v h1 h2 => ?_, fun w h1 h2 => ?_⟩
    · rcases hi with q | q
      · obtain ⟨q1, q2⟩ := q
        subst q1
        have c27 := e 27 (γ 3 9) (by omega)
        omega
      · obtain ⟨q1, q2⟩ := q
        subst q1
        have c26 := e 26 (γ 3 9) (by omega)
        omega
    · unfold VrI
      rw [b25, e 34 _ (by omega), e 35 _ (by omega), e 36 _ (by omega), e 4 12 (by omega)]
      exact a4 v h1 (by omega)
    · exact (a5 w (by omega) (by omega)).ext (by omega) (by omega) (Int.le_refl _) (fun j k _ _ _ => e j k (by omega)) (fun j _ _ => e j w (by omega)) (fun k _ => e 47 k (by omega)) (Int.le_of_eq (e 4 4 (by omega)).symm) (Int.le_of_eq (e 4 12 (by omega)).symm)
/-- like DrP, but the counts of inputs and outputs may change -/
def FrH (γ γ' : St) : Prop := FrX γ γ' ∧ γ 1 6 ≤ γ' 1 6 ∧ (∀ j k, (j = 1 ∧ k = 5 ∨ j = 3 ∧ k = 9 ∨ j = 4 ∨ 24 ≤ j ∧ j ≤ 25 ∨ 29 ≤ j ∧ j ≤ 32 ∨ 38 ≤ j) → γ' j k = γ j k)
theorem FrH.tr {a b c : St} (h : FrH a b) (k : FrH b c) : FrH a c := ⟨h.1.tr k.1, Int.le_trans h.2.1 k.2.1, fun j i q => (k.2.2 j i q).trans (h.2.2 j i q)⟩
theorem FrD.H {a b : St} (h : FrD a b) : FrH a b := ⟨h.1, h.2.1, fun j k q => h.2.2.1 j k (by omega)⟩
def HrP (γ : St) (z : Int × St) : Prop := NI z.2 ∧ FrH γ z.2 ∧ (z.1 = 0 ∧ z.2 1 7 ≠ 0 ∨ z.1 = 1 ∧ z.2 1 7 = γ 1 7)
theorem HrP.mk {γ γ' : St} {r : Int} (h : NI γ') (hF : FrH γ γ') (hr : r = 0 ∧ γ' 1 7 ≠ 0 ∨ r = 1 ∧ γ' 1 7 = γ 1 7) : HrP γ (r, γ') := ⟨h, hF, hr⟩
theorem DrP.H {γ : St} {z : Int × St} (h : DrP γ z) : HrP γ z := ⟨h.1, h.2.1.H, h.2.2⟩
theorem HrP.pre {γ γ' : St} {z : Int × St} (h : HrP γ' z) (hF : FrH γ γ') (h7 : γ' 1 7 = γ 1 7) : HrP γ z := ⟨h.1, hF.tr h.2.1, by rw [← h7]; exact h.2.2⟩
theorem w_readInputs {γ : St} (h : NI γ) (h27 : γ 27 (γ 3 9) = 0) : wp (f_Nr_readInputs γ) (HrP γ) := by
  unfold f_Nr_readInputs
  refine wp_bnd (w_readGroups h) (fun r γ1 p => ?_)
  have p : DrP γ (r, γ1) := p
  have hN : NI γ1 := p.1
  have ⟨v1, v2, v3, v4, v5⟩ := hN.2.1
  have e9 : γ1 3 9 = γ 3 9 := p.2.1.2.2.1 3 9 (by omega)
  have e27 : γ1 27 (γ1 3 9) = 0 := by rw [e9]; exact (p.2.1.2.2.1 27 _ (by omega)).trans h27
  refine wp_chk (by omega) (wp_chk (by omega) (wp_sub (wp_some (HrP.mk (hN.ins (Or.inl ⟨rfl, by omega, by omega⟩)) (p.2.1.H.tr ⟨?_, ?_, ?_⟩) ?_))))
  · intro j k q; rw [stA, if_neg (by omega)]
  · rw [stA, if_neg (by omega)]; exact Int.le_refl _
  · intro j k q; rw [stA, if_neg (by omega)]
  · rw [stA, if_neg (by omega)]; exact p.2.2
theorem w_readOutputs {γ : St} (h : NI γ) : wp (f_Nr_readOutputs γ) (HrP γ) := by
  unfold f_Nr_readOutputs
  refine wp_bnd (w_readGroups h) (fun r γ1 p => ?_)
  have p : DrP γ (r, γ1) := p
  have hN : NI γ1 := p.1
  have ⟨v1, v2, v3, v4, v5⟩ := hN.2.1
  have u := hN.2.2.2.2.2.1
  refine wp_chk (by omega) (wp_chk (by omega) (wp_chk (by omega) (wp_chk (by omega) (wp_sub (wp_some (HrP.mk (hN.ins (Or.inr ⟨rfl, by omega, by omega⟩)) (p.2.1.H.tr ⟨?_, ?_, ?_⟩) ?_))))))
  · intro j k q; rw [stA, if_neg (by omega)]
  · rw [stA, if_neg (by omega)]; exact Int.le_refl _
  · intro j k q; rw [stA, if_neg (by omega)]
  · rw [stA, if_neg (by omega)]; exact p.2.2
