/-! the class's linker: its steps -/
theorem sm_ge {f : Int → Int} {a b i : Int} (h1 : a ≤ i) (h2 : i < b) (hf : ∀ k, a ≤ k → k < b → 0 ≤ f k) : f i ≤ sm f a b := by
  have x : ∀ m : Nat, i + 1 + m ≤ b → f i ≤ sm f a (i + 1 + m) := by
    intro m
    induction m with
    | zero =>
      intro _
      have := sm_nn (f := f) (a := a) (b := i) (fun k q1 q2 => hf k q1 (by omega))
      rw [show i + 1 + ((0 : Nat) : Int) = i + 1 by omega, sm_succ h1]
      omega
    | succ m ih =>
      intro hm
      have := ih (by omega)
      have := hf (i + 1 + m) (by omega) (by omega)
      rw [show i + 1 + ((m + 1 : Nat) : Int) = i + 1 + m + 1 by omega, sm_succ (by omega)]
      omega
  have := x (b - i - 1).toNat (by omega)
  rw [show i + 1 + (((b - i - 1).toNat : Nat) : Int) = b by omega] at this
  exact this
/-- the frame on top: its node, its equation, its part -/
theorem LkI.top {γ0 γ : St} {m f : Int} (hx : LkX γ0 m) (h : LkI γ0 m γ) (hf : f = γ 9 8 - 1) (h0 : 0 ≤ f) (hq : γ 66 f < enF γ0 γ f) : EqC γ0 (γ 63 f) (γ 66 f) ∧ EqD γ0 (γ 63 f) (γ 66 f) ∧ (0 ≤ γ 63 f ∧ γ 63 f ≤ m) ∧ γ0 29 (γ 63 f) ≤ γ 66 f ∧ γ0 44 (γ 66 f) ≤ γ0 44 (enF γ0 γ f - 1) := by
  have ⟨a1, a2, a3, a4, a5, a6, a7⟩ := h.2.1 f h0 (by omega)
  have hn : 0 ≤ γ 63 f ∧ γ 63 f ≤ m := by omega
  have w := (hx.2.1 _ hn.1 hn.2).1.2.2.2.1 (γ 66 f) a4.1 (by unfold enF at hq; exact hq)
  have e := hx.eq hn.1 hn.2 a4.1 (by unfold enF at hq; exact hq)
  exact ⟨w.1, w.2, hn, a4.1, e.2.2.2.2⟩
set_option maxHeartbeats 1000000 in
theorem LkI.go {γ0 γ γ' : St} {m f : Int} (hx : LkX γ0 m) (h : LkI γ0 m γ) (hf : f = γ 9 8 - 1) (h0 : 0 ≤ f) (hq : γ 66 f < enF γ0 γ f) (hp : γ 67 f < γ0 44 (γ 66 f)) (hk : γ0 38 (γ 67 f) ≠ 43) (eF : FrLk γ0 γ') (e63 : ∀ j k, 63 ≤ j → j ≤ 67 → (j ≠ 67 ∨ k ≠ f) → γ' j k = γ j k) (e67 : γ' 67 f = γ 67 f + 1) (e98 : γ' 9 8 = γ 9 8) (e11 : γ' 9 11 = γ 9 11) (e12 : γ' 9 12 = γ 9 12) (e88 : γ' 8 8 = γ 8 8) (t10 : γ' 9 10 = γ 9 10 + 1 - γ0 40 (γ 67 f)) (s5 : γ 8 5 ≤ γ' 8 5 ∧ γ' 8 5 ≤ γ 8 5 + 1) (s11 : γ 8 11 ≤ γ' 8 11 ∧ γ' 8 11 ≤ γ 8 11 + 2) (hV : LkV (γ0 32 m) γ') : LkI γ0 m γ' ∧ sm (rF γ0 γ') 0 (γ' 9 8) = sm (rF γ0 γ) 0 (γ 9 8) - 1 := by
  have ⟨w1, w2, hn, w3, w4⟩ := h.top hx hf h0 hq
  have ⟨g1, g2, g3, g4, g5, g6, g7⟩ := h.2.1 f h0 (by omega)
  have ⟨b1, b2, b3, b4, b5, b6, b7⟩ := h.2.2.1
  have g5 := g5 hq
  have pt := w1.2.2.2.2.2 (γ 67 f) g5.1 hp
  have pn := sdK_nn pt.1
  have pl := pt.2.2.2.2
  have ps := Pf_succ (γ := γ0) (k := γ 67 f) (by have := w1.1; omega)
  have c63 := e63 63 f (by omega) (by omega) (by omega)
  have c66 := e63 66 f (by omega) (by omega) (by omega)
  have en : enF γ0 γ' f = enF γ0 γ f := by unfold enF; rw [c63]
  have d0 : dF γ0 γ f = Pf γ0 (γ 67 f) - γ 66 f := by unfold dF; rw [if_pos hq, if_neg (by omega)]
  have d1 : dF γ0 γ' f = dF γ0 γ f + 1 - γ0 40 (γ 67 f) := by
    unfold dF at d0 ⊢
    rw [d0, en, c66, e67, if_pos hq]
    by_cases q : γ 67 f + 1 = γ0 44 (γ 66 f)
    · rw [if_pos q]
      have e1 := w2.2 (by rw [← q, show γ 67 f + 1 - 1 = γ 67 f by omega]; exact hk)
      have e2 := w1.2.2.1
      rw [← q] at e2
      omega
    · rw [if_neg q]; omega
  have r1 : rF γ0 γ' f = rF γ0 γ f - 1 := by
    unfold rF
    rw [en, c66, e67, sm_cons (a := γ 67 f) (by omega), show cpF γ0 (γ 67 f) = 1 by unfold cpF; rw [if_neg hk]; omega]
    omega
  have v1 : wF γ0 γ' f = wF γ0 γ f := by
    unfold wF
    rw [en, e67, sm_cons (a := γ 67 f) (by omega), show cvF γ0 (γ 67 f) = 0 by unfold cvF; rw [if_neg hk]]
    omega
  have ot : ∀ i, 0 ≤ i → i < γ 9 8 - 1 → dF γ0 γ' i = dF γ0 γ i ∧ rF γ0 γ' i = rF γ0 γ i ∧ wF γ0 γ' i = wF γ0 γ i := fun i q1 q2 => (fF_ext (γ0 := γ0) (fun j y1 y2 => e63 j i y1 y2 (by omega))).2
  have sd := sm_last (f := dF γ0 γ') (g := dF γ0 γ) (n := γ 9 8) (by omega) (fun i q1 q2 => (ot i q1 q2).1)
  have sr := sm_last (f := rF γ0 γ') (g := rF γ0 γ) (n := γ 9 8) (by omega) (fun i q1 q2 => (ot i q1 q2).2.1)
  have sw := sm_last (f := wF γ0 γ') (g := wF γ0 γ) (n := γ 9 8) (by omega) (fun i q1 q2 => (ot i q1 q2).2.2)
  rw [← hf] at sd sr sw
  refine ⟨⟨eF, fun i q1 q2 => ?_, ⟨by omega, ?_, ?_, ?_, ?_, ?_, by omega⟩, hV⟩, ?_⟩
  · by_cases q : i = f
    · subst q
      have c64 := e63 64 i (by omega) (by omega) (by omega)
      have c65 := e63 65 i (by omega) (by omega) (by omega)
      unfold LkF
      rw [en, c63, c64, c65, c66, e67, e11]
      exact ⟨g1, g2, g3, g4, fun _ => by omega, fun y => by omega, g7⟩
    · exact (h.2.1 i q1 (by omega)).up (fun j y1 y2 => e63 j i y1 y2 (by omega)) (by omega)
  · rw [e98]; omega
  · rw [e98]; omega
  · rw [e98]; omega
  · rw [e98]; omega
  · rw [e98]; omega
  · rw [e98]; omega
set_option maxHeartbeats 1000000 in
theorem LkI.call {γ0 γ γ' : St} {m f oc : Int} (hx : LkX γ0 m) (h : LkI γ0 m γ) (hf : f = γ 9 8 - 1) (h0 : 0 ≤ f) (hq : γ 66 f < enF γ0 γ f) (hp : γ 67 f < γ0 44 (γ 66 f)) (hk : γ0 38 (γ 67 f) = 43) (eF : FrLk γ0 γ') (e63 : ∀ j k, 63 ≤ j → j ≤ 67 → (j ≠ 67 ∨ k ≠ f) → k ≠ γ 9 8 → γ' j k = γ j k) (e67 : γ' 67 f = γ 67 f + 1) (eN : γ' 63 (γ 9 8) = γ0 39 (γ 67 f) ∧ γ' 64 (γ 9 8) = γ 9 11 ∧ γ' 65 (γ 9 8) = oc ∧ γ' 66 (γ 9 8) = γ0 29 (γ0 39 (γ 67 f)) ∧ γ' 67 (γ 9 8) = γ0 43 (γ0 29 (γ0 39 (γ 67 f)))) (hoc : 0 ≤ oc ∧ oc ≤ 2 * γ 9 11) (e98 : γ' 9 8 = γ 9 8 + 1) (e11 : γ' 9 11 = γ 9 11 + γ0 28 (γ0 39 (γ 67 f))) (e12 : γ' 9 12 = γ 9 12) (e88 : γ' 8 8 = γ 8 8) (t10 : γ' 9 10 = γ 9 10 - γ0 26 (γ0 39 (γ 67 f)) + γ0 27 (γ0 39 (γ 67 f))) (s5 : γ' 8 5 = γ 8 5) (s11 : γ' 8 11 = γ 8 11) (hV : LkV (γ0 32 m) γ') : LkI γ0 m γ' ∧ sm (rF γ0 γ') 0 (γ' 9 8) = sm (rF γ0 γ) 0 (γ 9 8) - 1 := by
  have ⟨w1, w2, hn, w3, w4⟩ := h.top hx hf h0 hq
  have ⟨g1, g2, g3, g4, g5, g6, g7⟩ := h.2.1 f h0 (by omega)
  have ⟨b1, b2, b3, b4, b5, b6, b7⟩ := h.2.2.1
  have g5 := g5 hq
  have pt := w1.2.2.2.2.2 (γ 67 f) g5.1 hp
  have pn := sdK_nn pt.1
  have pc := pt.2.1 hk
  have pd := (w2.1 (γ 67 f) g5.1 hp).1 hk
  have ps := Pf_succ (γ := γ0) (k := γ 67 f) (by have := w1.1; omega)
  have c63 := e63 63 f (by omega) (by omega) (by omega) (by omega)
  have c66 := e63 66 f (by omega) (by omega) (by omega) (by omega)
  have en : enF γ0 γ' f = enF γ0 γ f := by unfold enF; rw [c63]
  have hnn := hx.nn hn.1 hn.2
  have wn := (hx.2.1 _ hn.1 hn.2).1
  have e1 := hx.eq hn.1 hn.2 (Int.le_refl _) (by have := wn.2.1; omega)
  have eP : enF γ0 γ f = γ0 29 (γ 63 f) + γ0 30 (γ 63 f) := rfl
  have w5 := w4
  rw [eP] at w5
  -- the called node is small
  have a43 : γ0 43 (γ0 29 (γ 63 f)) ≤ γ 67 f := by
    have x : ∀ k : Nat, γ0 29 (γ 63 f) + k < γ0 29 (γ 63 f) + γ0 30 (γ 63 f) → γ0 43 (γ0 29 (γ 63 f)) ≤ γ0 43 (γ0 29 (γ 63 f) + k) := by
      intro k
      induction k with
      | zero => intro _; rw [show γ0 29 (γ 63 f) + ((0 : Nat) : Int) = γ0 29 (γ 63 f) by omega]; omega
      | succ k ih =>
        intro hk
        have i1 := ih (by omega)
        have i2 := wn.2.2.2.2.1 (γ0 29 (γ 63 f) + k) (by omega) (by omega)
        have i3 := (wn.2.2.2.1 (γ0 29 (γ 63 f) + k) (by omega) (by omega)).1.1
        rw [show γ0 29 (γ 63 f) + ((k + 1 : Nat) : Int) = γ0 29 (γ 63 f) + k + 1 by omega]
        omega
    have := x (γ 66 f - γ0 29 (γ 63 f)).toNat (by omega)
    rw [show γ0 29 (γ 63 f) + (((γ 66 f - γ0 29 (γ 63 f)).toNat : Nat) : Int) = γ 66 f by omega] at this
    omega
  have sz := wn.2.2.2.2.2
  have y1 := sz.1.2.2 (by omega)
  have y2 := sz.2.2.2 (by omega)
  have z1 := sm_ge (f := cpF γ0) a43 (show γ 67 f < γ0 44 (γ0 29 (γ 63 f) + γ0 30 (γ 63 f) - 1) by omega) (fun k q1 q2 => by have := (hnn k q1 q2).1; omega)
  have z2 := sm_ge (f := cvF γ0) a43 (show γ 67 f < γ0 44 (γ0 29 (γ 63 f) + γ0 30 (γ 63 f) - 1) by omega) (fun k q1 q2 => (hnn k q1 q2).2)
  have k1 : cpF γ0 (γ 67 f) = 1 + γ0 31 (γ0 39 (γ 67 f)) := by unfold cpF; rw [if_pos hk]
  have k2 : cvF γ0 (γ 67 f) = γ0 32 (γ0 39 (γ 67 f)) := by unfold cvF; rw [if_pos hk]
  have wc := (hx.2.1 (γ0 39 (γ 67 f)) pc.1 (by omega)).1
  have pnc := hx.pn (n := γ0 39 (γ 67 f)) pc.1 (by omega)
  have pnn := hx.pn hn.1 hn.2
  have szc := wc.2.2.2.2.2
  have c31 : γ0 31 (γ0 39 (γ 67 f)) ≤ 3000 := by omega
  have c32 : γ0 32 (γ0 39 (γ 67 f)) ≤ 6000 := by omega
  have x1 := szc.1.2.2 (by omega)
  have x2 := szc.2.2.2 (by omega)
  have ec := hx.eq (n := γ0 39 (γ 67 f)) pc.1 (by omega) (Int.le_refl _) (by omega)
  have enN : enF γ0 γ' (γ 9 8) = γ0 29 (γ0 39 (γ 67 f)) + γ0 30 (γ0 39 (γ 67 f)) := by unfold enF; rw [eN.1]
  have dN : dF γ0 γ' (γ 9 8) = 0 := by
    unfold dF
    rw [enN, eN.2.2.2.1, eN.2.2.2.2, if_pos (by omega), if_neg (by omega)]
    omega
  have rN : rF γ0 γ' (γ 9 8) = γ0 31 (γ0 39 (γ 67 f)) := by
    unfold rF
    rw [enN, eN.2.2.2.1, eN.2.2.2.2]
    omega
  have wN : wF γ0 γ' (γ 9 8) = γ0 32 (γ0 39 (γ 67 f)) - γ0 28 (γ0 39 (γ 67 f)) := by
    unfold wF
    rw [enN, eN.2.2.2.2]
    omega
  have d0 : dF γ0 γ f = Pf γ0 (γ 67 f) - γ 66 f := by unfold dF; rw [if_pos hq, if_neg (by omega)]
  have d1 : dF γ0 γ' f = dF γ0 γ f - γ0 26 (γ0 39 (γ 67 f)) + γ0 27 (γ0 39 (γ 67 f)) := by
    unfold dF at d0 ⊢
    rw [d0, en, c66, e67, if_pos hq]
    by_cases q : γ 67 f + 1 = γ0 44 (γ 66 f)
    · rw [if_pos q]
      have pd2 := pd.2
      rw [if_pos (by omega)] at pd2
      have e2 := w1.2.2.1
      rw [← q] at e2
      omega
    · rw [if_neg q]
      have pd2 := pd.2
      rw [if_neg (by omega)] at pd2
      omega
  have r1 : rF γ0 γ' f = rF γ0 γ f - (1 + γ0 31 (γ0 39 (γ 67 f))) := by
    unfold rF
    rw [en, c66, e67, sm_cons (a := γ 67 f) (by omega), k1]
    omega
  have v1 : wF γ0 γ' f = wF γ0 γ f - γ0 32 (γ0 39 (γ 67 f)) := by
    unfold wF
    rw [en, e67, sm_cons (a := γ 67 f) (by omega), k2]
    omega
  have ot : ∀ i, 0 ≤ i → i < γ 9 8 - 1 → dF γ0 γ' i = dF γ0 γ i ∧ rF γ0 γ' i = rF γ0 γ i ∧ wF γ0 γ' i = wF γ0 γ i := fun i q1 q2 => (fF_ext (γ0 := γ0) (fun j y1 y2 => e63 j i y1 y2 (by omega) (by omega))).2
  have sd := sm_last (f := dF γ0 γ') (g := dF γ0 γ) (n := γ 9 8) (by omega) (fun i q1 q2 => (ot i q1 q2).1)
  have sr := sm_last (f := rF γ0 γ') (g := rF γ0 γ) (n := γ 9 8) (by omega) (fun i q1 q2 => (ot i q1 q2).2.1)
  have sw := sm_last (f := wF γ0 γ') (g := wF γ0 γ) (n := γ 9 8) (by omega) (fun i q1 q2 => (ot i q1 q2).2.2)
  rw [← hf] at sd sr sw
  have ud := sm_succ (f := dF γ0 γ') (a := 0) (b := γ 9 8) (by omega)
  have ur := sm_succ (f := rF γ0 γ') (a := 0) (b := γ 9 8) (by omega)
  have uw := sm_succ (f := wF γ0 γ') (a := 0) (b := γ 9 8) (by omega)
  have hm := hx.1
  refine ⟨⟨eF, fun i q1 q2 => ?_, ⟨by omega, ?_, ?_, ?_, ?_, ?_, by omega⟩, hV⟩, ?_⟩
  · by_cases q : i = γ 9 8
    · subst q
      unfold LkF
      rw [enN, eN.1, eN.2.1, eN.2.2.1, eN.2.2.2.1, eN.2.2.2.2, e11]
      exact ⟨by omega, by omega, by omega, by omega, fun _ => by omega, fun y => by omega, c31, c32⟩
    · by_cases q3 : i = f
      · subst q3
        have c64 := e63 64 i (by omega) (by omega) (by omega) (by omega)
        have c65 := e63 65 i (by omega) (by omega) (by omega) (by omega)
        unfold LkF
        rw [en, c63, c64, c65, c66, e67, e11]
        exact ⟨g1, by omega, by omega, g4, fun _ => by omega, fun y => by omega, g7⟩
      · exact (h.2.1 i q1 (by omega)).up (fun j y1 y2 => e63 j i y1 y2 (by omega) q) (by omega)
  · rw [e98]; omega
  · rw [e98]; omega
  · rw [e98]; omega
  · rw [e98]; omega
  · rw [e98]; omega
  · rw [e98]; omega
set_option maxHeartbeats 1000000 in
theorem LkI.def {γ0 γ γ' : St} {m f : Int} (hx : LkX γ0 m) (h : LkI γ0 m γ) (hf : f = γ 9 8 - 1) (h0 : 0 ≤ f) (hq : γ 66 f < enF γ0 γ f) (hp : γ 67 f = γ0 44 (γ 66 f)) (eF : FrLk γ0 γ') (e63 : ∀ j k, 63 ≤ j → j ≤ 67 → (j ≠ 66 ∨ k ≠ f) → γ' j k = γ j k) (e66 : γ' 66 f = γ 66 f + 1) (e98 : γ' 9 8 = γ 9 8) (e11 : γ' 9 11 = γ 9 11) (e12 : γ' 9 12 = γ 9 12) (e88 : γ' 8 8 = γ 8 8) (t10 : γ' 9 10 = γ 9 10 - γ0 46 (γ 66 f)) (s5 : γ' 8 5 = γ 8 5) (s11 : γ' 8 11 = γ 8 11) (hV : LkV (γ0 32 m) γ') : LkI γ0 m γ' ∧ sm (rF γ0 γ') 0 (γ' 9 8) = sm (rF γ0 γ) 0 (γ 9 8) - 1 := by
  have ⟨w1, w2, hn, w3, w4⟩ := h.top hx hf h0 hq
  have ⟨g1, g2, g3, g4, g5, g6, g7⟩ := h.2.1 f h0 (by omega)
  have ⟨b1, b2, b3, b4, b5, b6, b7⟩ := h.2.2.1
  have w46 := w1.2.2.2.1
  have c63 := e63 63 f (by omega) (by omega) (by omega)
  have c67 := e63 67 f (by omega) (by omega) (by omega)
  have en : enF γ0 γ' f = enF γ0 γ f := by unfold enF; rw [c63]
  have eP : enF γ0 γ f = γ0 29 (γ 63 f) + γ0 30 (γ 63 f) := rfl
  have wn := (hx.2.1 _ hn.1 hn.2).1
  have d0 : dF γ0 γ f = γ0 46 (γ 66 f) := by unfold dF; rw [if_pos hq, if_pos hp]
  have nx : γ 66 f + 1 < enF γ0 γ f → γ0 43 (γ 66 f + 1) = γ 67 f ∧ γ0 43 (γ 66 f + 1) < γ0 44 (γ 66 f + 1) ∧ Pf γ0 (γ0 43 (γ 66 f + 1)) = γ 66 f + 1 := by
    intro q
    have i2 := wn.2.2.2.2.1 (γ 66 f) w3 (by omega)
    have i3 := (wn.2.2.2.1 (γ 66 f + 1) (by omega) (by omega)).1
    exact ⟨by omega, i3.1.2.1, i3.2.1⟩
  have d1 : dF γ0 γ' f = 0 := by
    unfold dF
    rw [en, e66, c67]
    by_cases q : γ 66 f + 1 < enF γ0 γ f
    · have y := nx q
      rw [if_pos q, if_neg (by omega), ← y.1]
      omega
    · rw [if_neg q]
  have r1 : rF γ0 γ' f = rF γ0 γ f - 1 := by
    unfold rF
    rw [en, e66, c67]
    omega
  have v1 : wF γ0 γ' f = wF γ0 γ f := by
    unfold wF
    rw [en, c67]
  have ot : ∀ i, 0 ≤ i → i < γ 9 8 - 1 → dF γ0 γ' i = dF γ0 γ i ∧ rF γ0 γ' i = rF γ0 γ i ∧ wF γ0 γ' i = wF γ0 γ i := fun i q1 q2 => (fF_ext (γ0 := γ0) (fun j y1 y2 => e63 j i y1 y2 (by omega))).2
  have sd := sm_last (f := dF γ0 γ') (g := dF γ0 γ) (n := γ 9 8) (by omega) (fun i q1 q2 => (ot i q1 q2).1)
  have sr := sm_last (f := rF γ0 γ') (g := rF γ0 γ) (n := γ 9 8) (by omega) (fun i q1 q2 => (ot i q1 q2).2.1)
  have sw := sm_last (f := wF γ0 γ') (g := wF γ0 γ) (n := γ 9 8) (by omega) (fun i q1 q2 => (ot i q1 q2).2.2)
  rw [← hf] at sd sr sw
  refine ⟨⟨eF, fun i q1 q2 => ?_, ⟨by omega, ?_, ?_, ?_, ?_, ?_, by omega⟩, hV⟩, ?_⟩
  · by_cases q : i = f
    · subst q
      have c64 := e63 64 i (by omega) (by omega) (by omega)
      have c65 := e63 65 i (by omega) (by omega) (by omega)
      unfold LkF
      rw [en, c63, c64, c65, e66, c67, e11]
      refine ⟨g1, g2, g3, by omega, fun y => ?_, fun y => ?_, g7⟩
      · have := nx y; omega
      · rw [hp, ← y, show γ 66 i + 1 - 1 = γ 66 i by omega]
    · exact (h.2.1 i q1 (by omega)).up (fun j y1 y2 => e63 j i y1 y2 (by omega)) (by omega)
  · rw [e98]; omega
  · rw [e98]; omega
  · rw [e98]; omega
  · rw [e98]; omega
  · rw [e98]; omega
  · rw [e98]; omega
theorem LkI.cls {γ0 γ : St} {m f : Int} (h : LkI γ0 m γ) (hf : f = γ 9 8 - 1) (h0 : 0 ≤ f) (hq : γ 66 f = enF γ0 γ f) : LkI γ0 m (setA γ 9 8 f) ∧ sm (rF γ0 (setA γ 9 8 f)) 0 f = sm (rF γ0 γ) 0 (γ 9 8) := by
  have ⟨g1, g2, g3, g4, g5, g6, g7⟩ := h.2.1 f h0 (by omega)
  have ⟨b1, b2, b3, b4, b5, b6, b7⟩ := h.2.2.1
  have e : ∀ j k, (j ≠ 9 ∨ k ≠ 8) → setA γ 9 8 f j k = γ j k := fun j k q => by rw [stA, if_neg (by omega)]
  have e98 : setA γ 9 8 f 9 8 = f := by rw [stA, if_pos ⟨rfl, rfl⟩]
  have hFL : FrLk γ0 (setA γ 9 8 f) := h.1.set (by omega)
  generalize setA γ 9 8 f = γs at *
  have ot : ∀ i, dF γ0 γs i = dF γ0 γ i ∧ rF γ0 γs i = rF γ0 γ i ∧ wF γ0 γs i = wF γ0 γ i := fun i => (fF_ext (γ0 := γ0) (fun j y1 y2 => e j i (by omega))).2
  have x1 := sm_ext (f := dF γ0 γs) (g := dF γ0 γ) (a := 0) (b := f) (fun i _ _ => (ot i).1)
  have x2 := sm_ext (f := rF γ0 γs) (g := rF γ0 γ) (a := 0) (b := f) (fun i _ _ => (ot i).2.1)
  have x3 := sm_ext (f := wF γ0 γs) (g := wF γ0 γ) (a := 0) (b := f) (fun i _ _ => (ot i).2.2)
  have y1 := sm_succ (f := dF γ0 γ) (a := 0) (b := f) h0
  have y2 := sm_succ (f := rF γ0 γ) (a := 0) (b := f) h0
  have y3 := sm_succ (f := wF γ0 γ) (a := 0) (b := f) h0
  have d0 : dF γ0 γ f = 0 := by unfold dF; rw [if_neg (by omega)]
  have r0 : rF γ0 γ f = 0 := by unfold rF; rw [g6 hq, sm_nil (Int.le_refl _)]; omega
  have v0 : wF γ0 γ f = 0 := by unfold wF; rw [g6 hq, sm_nil (Int.le_refl _)]
  rw [show f + 1 = γ 9 8 by omega] at y1 y2 y3
  have f10 := e 9 10 (by omega)
  have f11 := e 9 11 (by omega)
  have f12 := e 9 12 (by omega)
  have f85 := e 8 5 (by omega)
  have f88 := e 8 8 (by omega)
  have f811 := e 8 11 (by omega)
  refine ⟨⟨hFL, fun i q1 q2 => ?_, ⟨by omega, ?_, ?_, ?_, ?_, ?_, by omega⟩, ?_⟩, by omega⟩
  · exact (h.2.1 i q1 (by omega)).up (fun j y1 y2 => e j i (by omega)) (by omega)
  · rw [e98]; omega
  · rw [e98]; omega
  · rw [e98]; omega
  · rw [e98]; omega
  · rw [e98]; omega
  · exact h.2.2.2.up (by omega) (by omega) (fun i q1 q2 => Or.inl ⟨by omega, e 68 i (by omega)⟩) (fun s q => Or.inl ⟨by omega, fun j _ _ => e j s (by omega)⟩) (fun i q1 q2 => Or.inl ⟨by omega, e 61 i (by omega), e 62 i (by omega)⟩)
