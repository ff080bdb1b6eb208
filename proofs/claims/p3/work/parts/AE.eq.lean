/-! the reference's equations: one equation -/
/-- what equations leave as it was: equations before b, left sides before l, parts before P -/
def Fe (nd b l P : Int) (γ γ' : St) : Prop := ∀ j k, (j = 0 → (k < 5 ∨ 9 < k) ∧ k ≠ 30 ∧ k ≠ 31 ∧ k ≠ 40) → j ≠ 13 → (j = 8 ∨ j = 9 → k ≠ nd) → (j = 15 ∨ j = 17 ∨ j = 19 → k < b) → (j = 16 → k ≤ b) → (j = 18 → k < l) → (20 ≤ j → j ≤ 27 → k < P) → γ' j k = γ j k
theorem Fe.rf {nd b l P : Int} {γ : St} : Fe nd b l P γ γ := fun _ _ _ _ _ _ _ _ _ => rfl
theorem Fe.tr {nd b l P b' l' P' : Int} {γ γ' γ'' : St} (h : Fe nd b l P γ γ') (g : Fe nd b' l' P' γ' γ'') (hb : b ≤ b') (hl : l ≤ l') (hP : P ≤ P') : Fe nd b l P γ γ'' := fun j k q0 q1 q2 q3 q4 q5 q6 => (g j k q0 q1 q2 (by omega) (by omega) (by omega) (by omega)).trans (h j k q0 q1 q2 q3 q4 q5 q6)
theorem Fe.fq {nd b l P : Int} {γ γ' : St} (h : Fe nd b l P γ γ') : FqE b l P γ γ' := ⟨fun k => h 1 k (by omega) (by omega) (by omega) (by omega) (by omega) (by omega) (by omega), fun k q => ⟨h 15 k (by omega) (by omega) (by omega) (by omega) (by omega) (by omega) (by omega), h 17 k (by omega) (by omega) (by omega) (by omega) (by omega) (by omega) (by omega), h 19 k (by omega) (by omega) (by omega) (by omega) (by omega) (by omega) (by omega)⟩, fun k q => h 16 k (by omega) (by omega) (by omega) (by omega) (by omega) (by omega) (by omega), fun k q => h 18 k (by omega) (by omega) (by omega) (by omega) (by omega) (by omega) (by omega), fun j q1 q2 q3 k q => h j k (by omega) (by omega) (by omega) (by omega) (by omega) (by omega) (by omega)⟩
/-- between the equations of a node: its left sides from l0, its parts from P0 -/
def EqW (l0 P0 : Int) (γ : St) : Prop := (DcI γ ∧ WdO γ 2 3 0 (γ 0 18) ∧ 0 ≤ γ 5 (γ 0 18) ∧ γ 4 (γ 0 18) + γ 5 (γ 0 18) ≤ γ 0 19) ∧ (0 ≤ γ 7 (γ 0 18) ∧ γ 7 (γ 0 18) ≤ γ 0 30 ∧ γ 0 30 ≤ γ 0 5) ∧ (0 ≤ l0 ∧ l0 ≤ γ 0 31 ∧ γ 0 31 ≤ γ 0 5) ∧ (0 ≤ P0 ∧ P0 ≤ γ 0 40 ∧ γ 0 40 ≤ γ 0 5) ∧ (0 ≤ γ 9 (γ 0 18) ∧ γ 9 (γ 0 18) + 2 * P0 ≤ 2 * γ 0 40) ∧ (0 ≤ γ 8 (γ 0 18) ∧ γ 8 (γ 0 18) + P0 ≤ γ 0 40) ∧ (∀ v, γ 4 (γ 0 18) ≤ v → v < γ 0 19 → γ 13 v = cntN (γ 18) l0 (v - γ 4 (γ 0 18)) (γ 0 31 - l0).toNat) ∧ EqL (γ 0 19 - γ 4 (γ 0 18)) (γ 0 18) (γ 5 (γ 0 18)) (γ 7 (γ 0 18)) (γ 0 30) (γ 0 31) (γ 0 40) γ ∧ ((γ 7 (γ 0 18) = γ 0 30 → γ 0 40 = P0 ∧ γ 0 31 = l0) ∧ (γ 7 (γ 0 18) < γ 0 30 → γ 19 (γ 7 (γ 0 18)) = P0 ∧ γ 16 (γ 7 (γ 0 18)) = l0 ∧ γ 17 (γ 0 30 - 1) = γ 0 40 - 1)) ∧ Odr γ stw P0 (γ 0 40) 0 (γ 9 (γ 0 18)) ∧ Odr γ clw P0 (γ 0 40) 0 (γ 8 (γ 0 18))
theorem EqW.mv {l0 P0 : Int} {γ γ' : St} (h : EqW l0 P0 γ) (m : Mv γ γ') : EqW l0 P0 γ' := by
  have ⟨⟨a1, a2, a3, a4⟩, ⟨b1, b2, b3⟩, ⟨c1, c2, c3⟩, ⟨d1, d2, d3⟩, n9, n8, cn, el, ⟨f1, f2⟩, o9, o8⟩ := h
  have e := m.2.1
  have m5 := m.2.2
  have e18 := e 0 18 (by omega)
  have e19 := e 0 19 (by omega)
  have e30 := e 0 30 (by omega)
  have e31 := e 0 31 (by omega)
  have e40 := e 0 40 (by omega)
  have er : ∀ j : Nat, j ≠ 0 → γ' j = γ j := fun j q => funext fun k => e j k (by omega)
  have ew : FqE (γ 0 30) (γ 0 31) (γ 0 40) γ γ' := ⟨fun k => e 1 k (by omega), fun k _ => ⟨e 15 k (by omega), e 17 k (by omega), e 19 k (by omega)⟩, fun k _ => e 16 k (by omega), fun k _ => e 18 k (by omega), fun j q1 q2 q3 k q => e j k (by omega)⟩
  unfold EqW
  rw [e18, e19, e30, e31, e40, er 4 (by omega), er 5 (by omega), er 7 (by omega), er 8 (by omega), er 9 (by omega), er 13 (by omega), er 16 (by omega), er 17 (by omega), er 18 (by omega), er 19 (by omega)]
  refine ⟨⟨a1.mv m, ?_, a3, a4⟩, ⟨b1, b2, by omega⟩, ⟨c1, c2, by omega⟩, ⟨d1, d2, by omega⟩, n9, n8, cn, el.fr ew, ⟨f1, f2⟩, o9.fr (fun k _ _ => e 20 k (by omega)) (fun k _ _ => e 25 k (by omega)), o8.fr (fun k _ _ => e 20 k (by omega)) (fun k _ _ => e 25 k (by omega))⟩
  intro v q1 q2
  rw [er 2 (by omega), er 3 (by omega)]
  exact a2 v q1 q2
theorem EM.px {l0 P0 : Int} {γ0 γ : St} (i : EqW l0 P0 γ0) (h : EM γ0 γ) : PxI γ := by
  have ⟨⟨a1, a2, a3, a4⟩, ⟨b1, b2, b3⟩, ⟨c1, c2, c3⟩, ⟨d1, d2, d3⟩, n9, n8, cn, el, ⟨f1, f2⟩, o9, o8⟩ := i
  have ⟨⟨y1, fm, y3⟩, ⟨z1, z2⟩, _, _, _, _⟩ := h
  have e18 : γ 0 18 = γ0 0 18 := fm 0 18 (by omega) (by omega) (by omega) (by omega)
  have e40 : γ 0 40 = γ0 0 40 := fm 0 40 (by omega) (by omega) (by omega) (by omega)
  have e7 : γ 7 (γ0 0 18) = γ0 7 (γ0 0 18) := fm 7 _ (by omega) (by omega) (by omega) (by omega)
  have e9 : γ 9 (γ0 0 18) = γ0 9 (γ0 0 18) := fm 9 _ (by omega) (by omega) (by omega) (by omega)
  have e8 : γ 8 (γ0 0 18) = γ0 8 (γ0 0 18) := fm 8 _ (by omega) (by omega) (by omega) (by omega)
  have p : γ 19 (γ0 7 (γ0 0 18)) = P0 := by
    by_cases q : γ0 7 (γ0 0 18) = γ0 0 30
    · rw [q, z2]; exact (f1 q).1
    · rw [fm 19 _ (by omega) (by omega) (by omega) (by omega)]; exact (f2 (by omega)).1
  refine ⟨y1, ?_, by omega, by rw [e18, e7, p, e9, e40]; exact n9, by rw [e18, e7, p, e8, e40]; exact ⟨n8.1, d1, n8.2⟩⟩
  rw [e18]
  intro v q1 q2
  rw [fm 2 v (by omega) (by omega) (by omega) (by omega), fm 3 v (by omega) (by omega) (by omega) (by omega)]
  exact a2 v q1 q2
/-- what an equation answers: thrown, or one more -/
def EqO (l0 P0 : Int) (γ : St) (z : Res) : Prop := Rf γ z.2 ∧ ∀ r, z.1 = .inr r → EqW l0 P0 z.2 ∧ Fe (γ 0 18) (γ 0 30) (γ 0 31) (γ 0 40) γ z.2 ∧ z.2 0 30 = γ 0 30 + 1 ∧ γ 0 5 < z.2 0 5 ∧ γ 0 31 ≤ z.2 0 31 ∧ γ 0 40 ≤ z.2 0 40
theorem EqO.er {l0 P0 : Int} {γ γ' : St} {e : Int × Int} (h : Rf γ γ') : EqO l0 P0 γ (.inl e, γ') := ⟨h, fun r q => by cases q⟩
theorem EqO.ok {l0 P0 r : Int} {γ γ' : St} (h : Rf γ γ') (a : EqW l0 P0 γ') (b : Fe (γ 0 18) (γ 0 30) (γ 0 31) (γ 0 40) γ γ') (c : γ' 0 30 = γ 0 30 + 1) (d : γ 0 5 < γ' 0 5) (e : γ 0 31 ≤ γ' 0 31) (f : γ 0 40 ≤ γ' 0 40) : EqO l0 P0 γ (.inr r, γ') := ⟨h, fun _ _ => ⟨a, b, c, d, e, f⟩⟩
theorem EqW.fin {l0 P0 r : Int} {γ0 γe γ2 γ3 : St} (i : EqW l0 P0 γ0) (h : EM γ0 γe) (x : XS γe γ2 [r]) (hl : γ0 0 31 < γe 0 31) (h5 : γ0 0 5 < γe 0 5) (h15 : 0 ≤ γe 15 (γ0 0 30) ∧ γe 15 (γ0 0 30) ≤ 10240) (hm : γ0 1 (γe 15 (γ0 0 30)) = 40 → γ2 20 r = 3) (hs : γ0 1 (γe 15 (γ0 0 30)) ≠ 40 → γe 0 31 = γ0 0 31 + 1) (lx : LX γ3) (l5 : γ2 0 5 ≤ γ3 0 5) (e30 : γ3 0 30 = γ0 0 30 + 1) (e16 : γ3 16 (γ0 0 30 + 1) = γe 0 31) (e17 : γ3 17 (γ0 0 30) = r) (fr : ∀ j k, (j = 0 → (k < 5 ∨ 9 < k) ∧ k ≠ 30) → (j = 16 → k ≠ γ0 0 30 + 1) → (j = 17 → k ≠ γ0 0 30) → γ3 j k = γ2 j k) : EqO l0 P0 γ0 (.inr 0, γ3) := by
  have ⟨⟨a1, a2, a3, a4⟩, ⟨b1, b2, b3⟩, ⟨c1, c2, c3⟩, ⟨d1, d2, d3⟩, n9, n8, cn, el, ⟨f1, f2⟩, o9, o8⟩ := i
  have ⟨⟨y1, fm, y3⟩, ⟨z1, z2⟩, ⟨u1, u2⟩, lf, gb, gc⟩ := h
  have ⟨⟨p1, fx, p3, p4⟩, ⟨ch, sg⟩, gn, ⟨q9, w9⟩, ⟨q8, w8⟩⟩ := x
  have k18 : γe 0 18 = γ0 0 18 := fm 0 18 (by omega) (by omega) (by omega) (by omega)
  have k19 : γe 0 19 = γ0 0 19 := fm 0 19 (by omega) (by omega) (by omega) (by omega)
  have k40 : γe 0 40 = γ0 0 40 := fm 0 40 (by omega) (by omega) (by omega) (by omega)
  have k4 : γe 4 (γ0 0 18) = γ0 4 (γ0 0 18) := fm 4 _ (by omega) (by omega) (by omega) (by omega)
  have k9 : γe 9 (γ0 0 18) = γ0 9 (γ0 0 18) := fm 9 _ (by omega) (by omega) (by omega) (by omega)
  have k8 : γe 8 (γ0 0 18) = γ0 8 (γ0 0 18) := fm 8 _ (by omega) (by omega) (by omega) (by omega)
  rw [k18, k19, k40, k4] at gn
  rw [k40] at sg
  rw [k18, k9] at q9
  rw [k18, k9, k40] at w9
  rw [k18, k8] at q8
  rw [k18, k8, k40] at w8
  rw [k40, k18] at fx
  rw [k40] at p3 p4
  have F2 : ∀ j k, (j = 0 → (k < 5 ∨ 9 < k) ∧ k ≠ 30 ∧ k ≠ 40) → (j = 16 → k ≠ γ0 0 30 + 1) → (j = 17 → k ≠ γ0 0 30) → (20 ≤ j → j ≤ 27 → k < γ0 0 40) → (j = 8 ∨ j = 9 → k ≠ γ0 0 18) → γ3 j k = γe j k := fun j k r1 r2 r3 r4 r5 => (fr j k (by omega) r2 r3).trans (fx.1 j k (by omega) r4 r5)
  have F : ∀ j k, (j = 0 → (k < 5 ∨ 9 < k) ∧ k ≠ 30 ∧ k ≠ 31 ∧ k ≠ 40) → (j = 13 → k < γ0 4 (γ0 0 18) ∨ γ0 0 19 ≤ k) → (j = 8 ∨ j = 9 → k ≠ γ0 0 18) → (j = 15 ∨ j = 17 ∨ j = 19 → k ≠ γ0 0 30) → (j = 16 → k ≠ γ0 0 30 ∧ k ≠ γ0 0 30 + 1) → (j = 18 → k < γ0 0 31) → (20 ≤ j → j ≤ 27 → k < γ0 0 40) → γ3 j k = γ0 j k := fun j k r1 r2 r3 r4 r5 r6 r7 => (F2 j k (by omega) (by omega) (by omega) r7 r3).trans (fm j k (by omega) r2 (by omega) r6)
  have g16 : γ3 16 (γ0 0 30) = γ0 0 31 := by rw [F2 16 _ (by omega) (by omega) (by omega) (by omega) (by omega)]; exact z1
  have fe : Fe (γ0 0 18) (γ0 0 30) (γ0 0 31) (γ0 0 40) γ0 γ3 := fun j k r1 r2 r3 r4 r5 r6 r7 => by
    by_cases q : j = 16 ∧ k = γ0 0 30
    · rw [q.1, q.2, g16]; exact el.2.2.symm
    · exact F j k r1 (fun q => absurd q r2) r3 (by omega) (by omega) r6 r7
  have g18 : γ3 0 18 = γ0 0 18 := F 0 18 (by omega) (by omega) (by omega) (by omega) (by omega) (by omega) (by omega)
  have g19 : γ3 0 19 = γ0 0 19 := F 0 19 (by omega) (by omega) (by omega) (by omega) (by omega) (by omega) (by omega)
  have g31 : γ3 0 31 = γe 0 31 := F2 0 31 (by omega) (by omega) (by omega) (by omega) (by omega)
  have g40 : γ3 0 40 = γ2 0 40 := fr 0 40 (by omega) (by omega) (by omega)
  have gr : ∀ j : Nat, j = 1 ∨ j = 2 ∨ j = 3 ∨ j = 4 ∨ j = 5 ∨ j = 7 ∨ j = 10 ∨ j = 11 ∨ j = 12 ∨ j = 14 → ∀ k, γ3 j k = γ0 j k := fun j q k => F j k (by omega) (by omega) (by omega) (by omega) (by omega) (by omega) (by omega)
  have hr : r = γ2 0 40 - 1 ∧ γ0 0 40 ≤ r ∧ γ2 26 r = r + 1 - γ0 0 40 := by
    have s1 := sg.1
    have s2 := sg.2.1
    have s3 : r + 1 = γ2 0 40 := sg.2.2
    omega
  have dc : DcI γ3 := by
    have ⟨t1, t2, t3, t4, t5, t6, t7⟩ := a1
    refine ⟨lx, by rw [g18]; exact t2, by rw [g18, gr 4 (by omega)]; exact t3, by rw [g18, gr 4 (by omega), g19]; exact t4, ?_, ?_, fun v => by rw [gr 14 (by omega)]; exact t7 v⟩
    · rw [g18, gr 4 (by omega), g19]
      intro v r1 r2
      rw [gr 10 (by omega), gr 11 (by omega)]
      exact t5 v r1 r2
    · rw [g18, gr 4 (by omega), g19]
      intro v r1 r2
      unfold ClO
      rw [gr 12 (by omega)]
      exact t6 v r1 r2
  have e5 := p1.2.2.1.2
  have n9' := p1.2.2.2.1
  have n8' := p1.2.2.2.2
  have j18 : γ2 0 18 = γ0 0 18 := by rw [fx.1 0 18 (by omega) (by omega) (by omega)]; exact k18
  have j7 : γ2 7 (γ0 0 18) = γ0 7 (γ0 0 18) := by rw [fx.1 7 _ (by omega) (by omega) (by omega)]; exact fm 7 _ (by omega) (by omega) (by omega) (by omega)
  have jp : γ2 19 (γ0 7 (γ0 0 18)) = P0 := by
    rw [fx.1 19 _ (by omega) (by omega) (by omega)]
    by_cases q : γ0 7 (γ0 0 18) = γ0 0 30
    · rw [q, z2]; exact (f1 q).1
    · rw [fm 19 _ (by omega) (by omega) (by omega) (by omega)]; exact (f2 (by omega)).1
  rw [j18, j7, jp] at n9' n8'
  have er : EqR (γ0 0 19 - γ0 4 (γ0 0 18)) (γ0 0 18) (γ0 5 (γ0 0 18)) γ3 (γ0 0 30) := by
    have v15 : γ3 15 (γ0 0 30) = γe 15 (γ0 0 30) := F2 15 _ (by omega) (by omega) (by omega) (by omega) (by omega)
    have v19 : γ3 19 (γ0 0 30) = γ0 0 40 := by rw [F2 19 _ (by omega) (by omega) (by omega) (by omega) (by omega)]; exact z2
    refine ⟨by rw [v15]; exact h15, by rw [g16, e16]; omega, ?_, ?_, ?_, ?_, ?_⟩
    · rw [g16, e16]
      intro t r1 r2
      rw [F2 18 t (by omega) (by omega) (by omega) (by omega) (by omega)]
      exact lf t r1 r2
    · rw [v19, e17, fr 26 r (by omega) (by omega) (by omega)]; omega
    · rw [v19, e17]
      intro e r1 r2
      exact (gn e r1 (by omega)).fr (Int.le_refl _) (fun k _ _ => fr 23 k (by omega) (by omega) (by omega)) (fun j q1 q2 _ _ _ k _ _ => fr j k (by omega) (by omega) (by omega))
    · rw [v15, gr 1 (by omega), e17, fr 20 r (by omega) (by omega) (by omega)]; exact hm
    · rw [v15, gr 1 (by omega), g16, e16]; exact hs
  have el' : EqL (γ0 0 19 - γ0 4 (γ0 0 18)) (γ0 0 18) (γ0 5 (γ0 0 18)) (γ0 7 (γ0 0 18)) (γ0 0 30 + 1) (γe 0 31) (γ2 0 40) γ3 := by
    have old := el.fr fe.fq
    refine ⟨fun k r1 r2 => ?_, fun k r1 r2 => ?_, e16⟩
    · by_cases q : k = γ0 0 30
      · rw [q]; exact ⟨er, by omega, by rw [e17]; omega⟩
      · have t := old.1 k r1 (by omega)
        exact ⟨t.1, by have := t.2.1; omega, by have := t.2.2; omega⟩
    · by_cases q : k + 1 = γ0 0 30
      · have t := (f2 (by omega)).2.2
        rw [q, F2 19 _ (by omega) (by omega) (by omega) (by omega) (by omega), z2, show k = γ0 0 30 - 1 by omega, F 17 _ (by omega) (by omega) (by omega) (by omega) (by omega) (by omega) (by omega)]
        omega
      · exact old.2.1 k r1 (by omega)
  have o9' : Odr γ3 stw P0 (γ2 0 40) 0 (γ3 9 (γ0 0 18)) := by
    rw [fr 9 _ (by omega) (by omega) (by omega)]
    exact Odr.app (o9.fr (fun k r1 r2 => F 20 k (by omega) (by omega) (by omega) (by omega) (by omega) (by omega) (by omega)) (fun k r1 r2 => F 25 k (by omega) (by omega) (by omega) (by omega) (by omega) (by omega) (by omega))) (w9.fr (fun k _ _ => fr 20 k (by omega) (by omega) (by omega)) (fun k _ _ => fr 25 k (by omega) (by omega) (by omega))) n9.1 q9 d2
  have o8' : Odr γ3 clw P0 (γ2 0 40) 0 (γ3 8 (γ0 0 18)) := by
    rw [fr 8 _ (by omega) (by omega) (by omega)]
    exact Odr.app (o8.fr (fun k r1 r2 => F 20 k (by omega) (by omega) (by omega) (by omega) (by omega) (by omega) (by omega)) (fun k r1 r2 => F 25 k (by omega) (by omega) (by omega) (by omega) (by omega) (by omega) (by omega))) (w8.fr (fun k _ _ => fr 20 k (by omega) (by omega) (by omega)) (fun k _ _ => fr 25 k (by omega) (by omega) (by omega))) n8.1 q8 d2
  have cn' : ∀ v, γ0 4 (γ0 0 18) ≤ v → v < γ0 0 19 → γ3 13 v = cntN (γ3 18) l0 (v - γ0 4 (γ0 0 18)) (γe 0 31 - l0).toNat := fun v r1 r2 => by
    have t := gc v r1 r2
    have t0 := cn v r1 r2
    rw [F2 13 v (by omega) (by omega) (by omega) (by omega) (by omega), t, t0, show (γe 0 31 - l0).toNat = (γ0 0 31 - l0).toNat + (γe 0 31 - γ0 0 31).toNat by omega, cntN_app, show l0 + ((γ0 0 31 - l0).toNat : Int) = γ0 0 31 by omega]
    congr 1
    · exact (cntN_agree (fun k s1 s2 => F 18 k (by omega) (by omega) (by omega) (by omega) (by omega) (by omega) (by omega))).symm
    · exact (cntN_agree (fun k s1 s2 => F2 18 k (by omega) (by omega) (by omega) (by omega) (by omega))).symm
  refine EqO.ok ((h.1.2.1.re.tr x.fx.re).tr ⟨fun j k q1 q2 => fr j k (by omega) (by omega) (by omega), fun b => b.fr (fun k => fr 14 k (by omega) (by omega) (by omega)) (fun k => fr 28 k (by omega) (by omega) (by omega)) (fun k => fr 25 k (by omega) (by omega) (by omega))⟩) ?_ fe e30 (by omega) (by omega) (by omega)
  unfold EqW
  rw [g18, g19, g31, g40, e30, gr 4 (by omega), gr 5 (by omega), gr 7 (by omega)]
  refine ⟨⟨dc, ?_, a3, a4⟩, ⟨b1, by omega, by omega⟩, ⟨c1, by omega, by omega⟩, ⟨d1, by omega, by omega⟩, by rw [fr 9 _ (by omega) (by omega) (by omega)]; exact n9', by rw [fr 8 _ (by omega) (by omega) (by omega)]; exact ⟨n8'.1, n8'.2.2⟩, cn', el', ⟨fun q => by omega, fun q => ⟨?_, ?_, ?_⟩⟩, o9', o8'⟩
  · intro v r1 r2
    rw [gr 2 (by omega), gr 3 (by omega)]
    exact a2 v r1 r2
  · rw [fr 19 _ (by omega) (by omega) (by omega)]; exact jp
  · by_cases q2 : γ0 7 (γ0 0 18) = γ0 0 30
    · rw [q2, g16]; exact (f1 q2).2
    · rw [F 16 _ (by omega) (by omega) (by omega) (by omega) (by omega) (by omega) (by omega)]; exact (f2 (by omega)).2.1
  · rw [show γ0 0 30 + 1 - 1 = γ0 0 30 by omega, e17]; omega
/-- the end of an equation -/
theorem w_equation_b221 {l0 P0 r : Int} {γ0 γe γ2 : St} (i : EqW l0 P0 γ0) (h : EM γ0 γe) (x : XS γe γ2 [r]) (hl : γ0 0 31 < γe 0 31) (h5 : γ0 0 5 < γe 0 5) (h15 : 0 ≤ γe 15 (γ0 0 30) ∧ γe 15 (γ0 0 30) ≤ 10240) (hm : γ0 1 (γe 15 (γ0 0 30)) = 40 → γ2 20 r = 3) (hs : γ0 1 (γe 15 (γ0 0 30)) ≠ 40 → γe 0 31 = γ0 0 31 + 1) : wp (f_M_equation_b221 (setA γ2 17 (γ0 0 30) r)) (EqO l0 P0 γ0) := by
  have fm := h.1.2.1
  have fx := x.fx
  have k30 : γ2 0 30 = γ0 0 30 := by rw [fx.1 0 30 (by omega) (by omega) (by omega)]; exact fm 0 30 (by omega) (by omega) (by omega) (by omega)
  have k31 : γ2 0 31 = γe 0 31 := fx.1 0 31 (by omega) (by omega) (by omega)
  have b := i.2.1
  have x1 := x.lx.1
  have x5 := x.lx.2.1
  have i1 := i.1.1.1.1
  have i5 := i.1.1.1.2.1
  have ee : γ2 0 1 = γ0 0 1 := by rw [fx.1 0 1 (by omega) (by omega) (by omega)]; exact fm 0 1 (by omega) (by omega) (by omega) (by omega)
  generalize hg : setA γ2 17 (γ0 0 30) r = γ4
  have s : ∀ j k, γ4 j k = if j = 17 ∧ k = γ0 0 30 then r else γ2 j k := fun j k => by rw [← hg, stA]
  have s0 : ∀ j k, (j = 17 → k ≠ γ0 0 30) → γ4 j k = γ2 j k := fun j k q => by rw [s, if_neg (by omega)]
  have lx : LX γ4 := x.lx.fr (funext fun k => s0 1 k (by omega)) (fun k _ => s0 0 k (by omega))
  have rf : Rf γ0 γ4 := (fm.re.tr fx.re).tr ⟨fun j k q1 q2 => s0 j k (by omega), fun b => b.fr (fun k => s0 14 k (by omega)) (fun k => s0 28 k (by omega)) (fun k => s0 25 k (by omega))⟩
  unfold f_M_equation_b221
  refine wp_must lx (fun q => ?_) (fun q => EqO.er (rf.tr (Mv.pk0 lx).re))
  have m := Mv.tk0 lx
  have e := m.2.1
  have v30 : tkS γ4 0 30 = γ0 0 30 := by rw [e 0 30 (by omega), s0 0 30 (by omega)]; exact k30
  have v31 : tkS γ4 0 31 = γe 0 31 := by rw [e 0 31 (by omega), s0 0 31 (by omega)]; exact k31
  have m5 := m.2.2
  have v5 := s0 0 5 (by omega)
  rw [v30]
  refine wp_chk (by omega) (wp_sub ?_)
  have t30 : setA (tkS γ4) 0 30 (γ0 0 30 + 1) 0 30 = γ0 0 30 + 1 := by rw [stA, if_pos ⟨rfl, rfl⟩]
  have t31 : setA (tkS γ4) 0 30 (γ0 0 30 + 1) 0 31 = γe 0 31 := by rw [stA, if_neg (by omega)]; exact v31
  rw [t30, t31]
  refine wp_chk (by omega) (wp_sub (wp_some ?_))
  generalize hg3 : setA (setA (tkS γ4) 0 30 (γ0 0 30 + 1)) 16 (γ0 0 30 + 1) (γe 0 31) = γ3
  have t : ∀ j k, γ3 j k = if j = 16 ∧ k = γ0 0 30 + 1 then γe 0 31 else if j = 0 ∧ k = 30 then γ0 0 30 + 1 else tkS γ4 j k := fun j k => by rw [← hg3, stA, stA]
  have t0 : ∀ j k, (j = 16 → k ≠ γ0 0 30 + 1) → (j = 0 → k ≠ 30) → γ3 j k = tkS γ4 j k := fun j k q1 q2 => by rw [t, if_neg (by omega), if_neg (by omega)]
  refine i.fin h x hl h5 h15 hm hs (m.1.fr (funext fun k => t0 1 k (by omega) (by omega)) (fun k _ => t0 0 k (by omega) (by omega))) (by rw [t0 0 5 (by omega) (by omega)]; omega) (by rw [t, if_neg (by omega), if_pos ⟨rfl, rfl⟩]) (by rw [t, if_pos ⟨rfl, rfl⟩]) ?_ (fun j k q1 q2 q3 => ?_)
  · rw [t0 17 _ (by omega) (by omega), e 17 _ (by omega), s, if_pos ⟨rfl, rfl⟩]
  · rw [t0 j k q2 (by omega), e j k (by omega), s0 j k q3]
