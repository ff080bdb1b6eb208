/-! the class's order: sorted -/
theorem Cy.var2 {E : Int → Int → Prop} {P : Int → Prop} {V : Int} (hP : ∀ a b, P a → E a b → P b) (hE : ∀ a b, P a → V ≤ a → E a b → b < a) {a : Int} (ha : P a) (h : Cy E a) : ∃ v, v < V ∧ Rc E a v ∧ Rc E v a := by
  obtain ⟨c, h1, h2⟩ := h
  by_cases q : a < V
  · exact ⟨a, q, Rc.rf, Rc.rf⟩
  · have x : ∀ (n : Nat) (d : Int), P d → Rch E n d a → d < a → ∃ v, v < V ∧ Rc E d v ∧ Rc E v a := by
      intro n
      induction n with
      | zero => intro d _ h hd; have h : d = a := h; omega
      | succ n ih =>
        intro d hd0 h hd
        by_cases y : d < V
        · exact ⟨d, y, Rc.rf, n + 1, h⟩
        · obtain ⟨g, k1, k2⟩ := h
          have := hE d g hd0 (by omega) k1
          obtain ⟨v, z1, z2, z3⟩ := ih g (hP d g hd0 k1) k2 (by omega)
          exact ⟨v, z1, (Rc.ed k1).tr z2, z3⟩
    obtain ⟨n, h2⟩ := h2
    obtain ⟨v, z1, z2, z3⟩ := x n c (hP a c ha h1) h2 (hE a c ha (by omega) h1)
    exact ⟨v, z1, (Rc.ed h1).tr z2, z3⟩
theorem LdI.sd {γ : St} {V : Int} (h : LdI γ V) : SdX γ (γ 8 5) := by
  have ⟨a1, a2, a3, a4, a5, a6⟩ := h
  refine ⟨by omega, fun s j q1 q2 q3 q4 => ?_⟩
  have z := a5 s q1 q2
  unfold sdV
  by_cases r : j = 0
  · rw [if_pos r]; exact z.1
  · rw [if_neg r]
    by_cases r2 : j = 1
    · rw [if_pos r2]; exact z.2.1
    · rw [if_neg r2]; exact z.2.2.1
/-- sorted: every slot once -/
def SrI (γ : St) (V S : Int) : Prop := γ 10 11 = S ∧ (∀ i, 0 ≤ i → i < S → 0 ≤ γ 75 i ∧ γ 75 i < S) ∧ (∀ w : Int → Int, sm (fun i => w (γ 75 i)) 0 S = sm w 0 S) ∧ (∀ k, 0 ≤ k → k < S → γ 74 k = 0) ∧ γ 10 12 = 0 ∧ (-1 ≤ γ 10 13 ∧ γ 10 13 < V)
theorem w_sort {γ : St} {V : Int} (h : LdI γ V) : wp (f_Od_sort γ) (fun z => OdF γ z.2 ∧ SrI z.2 V (γ 8 5) ∧ (0 ≤ z.2 10 13 → Cy (Ed γ) (z.2 10 13)) ∧ ∀ s, 0 ≤ s → s < γ 8 5 → Cy (Ed γ) s → 0 ≤ z.2 10 13 ∧ z.2 10 13 ≤ s) := by
  have hX := h.sd
  have ⟨a1, a2, a3, a4, a5, a6⟩ := h
  have := FU_v
  unfold f_Od_sort
  refine wp_sub (wp_chk (by omega) (wp_sub (wp_chk (by omega) (wp_sub (wp_sub (wp_sub (wp_sub (wp_sub (wp_sub (wp_sub ?_))))))))))
  generalize hS : γ 8 5 = S at *
  generalize hh : setA _ 10 13 (-1) = γ1
  have s1 : ∀ j k, γ1 j k = if j = 10 ∧ k = 13 then -1 else if j = 10 ∧ (k = 8 ∨ k = 9 ∨ k = 10 ∨ k = 11 ∨ k = 12) then 0 else if (j = 74 ∨ j = 69) ∧ 0 ≤ k ∧ k < S then 0 else γ j k := fun j k => by
    rw [← hh]
    clear a5 a6 hX h
    simp only [stA, flA]
    grind (splits := 40)
  have z69 : ∀ k, 0 ≤ k → k < S → γ1 69 k = 0 := fun k q1 q2 => by rw [s1]; simp [q1, q2]
  have z74 : ∀ k, 0 ≤ k → k < S → γ1 74 k = 0 := fun k q1 q2 => by rw [s1]; simp [q1, q2]
  have c8 : γ1 10 8 = 0 := by rw [s1]; simp
  have c9 : γ1 10 9 = 0 := by rw [s1]; simp
  have c10 : γ1 10 10 = 0 := by rw [s1]; simp
  have c11 : γ1 10 11 = 0 := by rw [s1]; simp
  have c12 : γ1 10 12 = 0 := by rw [s1]; simp
  have c13 : γ1 10 13 = -1 := by rw [s1]; simp
  have zw : ∀ w, sm (cnW γ1 w) 0 S = 0 := fun w => by
    rw [sm_ext (f := cnW γ1 w) (g := fun _ => 0) (fun i q1 q2 => by unfold cnW; rw [if_neg (by rw [z69 i q1 q2]; omega)])]
    have x : ∀ m : Nat, sm (fun _ => (0 : Int)) 0 m = 0 := by
      intro m
      induction m with
      | zero => exact sm_nil (by omega)
      | succ m ih => rw [show ((m + 1 : Nat) : Int) = (m : Int) + 1 by omega, sm_succ (by omega), ih]; rfl
    have := x S.toNat
    rw [show ((S.toNat : Nat) : Int) = S by omega] at this
    exact this
  have no : ∀ s, 0 ≤ s → s < S → ¬ Opn γ1 S s := fun s q1 q2 q => by have := q.1; rw [z69 s q1 q2] at this; omega
  have hI : SoI γ S γ1 := by
    refine ⟨⟨fun j k q1 q2 => ?_, ?_, ?_, ?_, ?_⟩, c10⟩
    · rw [s1, if_neg (by omega), if_neg (by omega), if_neg (by omega)]
    · refine ⟨by omega, by omega, by rw [c8, zw], fun w => by rw [zw, c11, c9, sm_nil (Int.le_refl _), sm_nil (Int.le_refl _)]; rfl, fun s q1 q2 => Or.inl (z69 s q1 q2), fun i q1 q2 => by omega⟩
    · exact ⟨fun i q1 q2 => by omega, fun i j q1 q2 q3 => by omega, fun s q1 q2 q3 => absurd q3 (no s q1 q2), fun i q1 q2 => by omega, fun i j q1 q2 q3 => by omega, fun i q1 q2 => by omega⟩
    · exact ⟨fun x q1 q2 q3 => absurd (z69 x q1 q2) q3, fun x q1 q2 q3 => by rw [z69 x q1 q2] at q3; omega, fun x q1 q2 q3 => absurd q3 (no x q1 q2), fun x q1 q2 q3 => absurd q3 (no x q1 q2), fun x i q1 q2 q3 => absurd q3 (no x q1 q2), fun x q1 q2 q3 => absurd q3 (no x q1 q2)⟩
    · exact ⟨by omega, fun q => by omega, fun s q1 q2 q3 => by rw [z69 s q1 q2] at q3; omega, fun x j q1 q2 q3 => absurd (z69 x q1 q2) q3⟩
  refine wp_mono (w_sort_L60 hX hS FU γ1 0 hI (fun s q1 q2 => by omega) (by omega) (by omega) (by omega)) (fun z hz => ?_)
  obtain ⟨⟨hO, hp⟩, ⟨h74, h12⟩, hv⟩ := hz
  have ⟨hF, hN, hT, hE, hC⟩ := hO
  have ⟨n1, n2, n3, n4, n5, n6⟩ := hN
  have tk := hN.tk
  -- none is open
  have dn : ∀ s, 0 ≤ s → s < S → z.2 69 s = S + 1 := fun s q1 q2 => by
    have cnt := hN.cnt hX.1.1
    rcases n5 s q1 q2 with r | r | r
    · exact absurd r (hv s q1 q2)
    · obtain ⟨i, p1, p2, _, _⟩ := hE.2.2.2.1 s q1 q2 ⟨by omega, by omega⟩
      omega
    · exact r
  have t0 : z.2 10 9 = 0 := by
    rcases Int.lt_or_le 0 (z.2 10 9) with v | v
    · have y := hT.1 0 (by omega) v
      have := dn _ y.1.1 y.1.2
      have := y.2.2
      omega
    · omega
  have all : ∀ w, sm (cnW z.2 w) 0 S = sm w 0 S := fun w => sm_ext (fun s q1 q2 => by unfold cnW; rw [if_pos (hv s q1 q2)])
  have kS : z.2 10 11 = S := by
    have := n3
    rw [all] at this
    have one : sm (fun _ => (1 : Int)) 0 S = S := by
      have x : ∀ m : Nat, sm (fun _ => (1 : Int)) 0 m = m := by
        intro m
        induction m with
        | zero => rw [sm_nil (by omega)]; omega
        | succ m ih => rw [show ((m + 1 : Nat) : Int) = (m : Int) + 1 by omega, sm_succ (by omega), ih]
      have := x S.toNat
      rw [show ((S.toNat : Nat) : Int) = S by omega] at this
      exact this
    omega
  have ⟨o1, o2, o3, o4⟩ := hC
  have f2 : ∀ s, 0 ≤ s → s < S → Cy (Ed γ) s → 0 ≤ z.2 10 13 ∧ z.2 10 13 ≤ s := fun s q1 q2 q3 => o3 s q1 q2 (dn s q1 q2) q3
  refine ⟨hF, ⟨kS, fun i q1 q2 => n6 i q1 (by omega), fun w => ?_, fun k q1 q2 => by rw [h74]; exact z74 k q1 q2, by rw [h12]; exact c12, ?_⟩, o2, f2⟩
  · have := n4 w
    rw [all, t0, sm_nil (Int.le_refl _), kS] at this
    omega
  · refine ⟨o1.1, ?_⟩
    rcases Int.lt_or_le (z.2 10 13) 0 with v | v
    · omega
    · have cl : ∀ a b, (0 ≤ a ∧ a < S) → Ed γ a b → 0 ≤ b ∧ b < S := fun a b ha hab => by
        obtain ⟨j, j1, j2, j3⟩ := hab.to
        have := hX.2 a j ha.1 ha.2 j1 j2
        rw [j3] at this
        exact ⟨hab.1, this.2⟩
      obtain ⟨x, x1, x2, x3⟩ := Cy.var2 (P := fun y => 0 ≤ y ∧ y < S) (V := V) cl (fun a b ha hv hab => by
        have y := (a5 a ha.1 ha.2).2.2.2.2.2.2.2 hv
        rcases hab.2 with r | r | r <;> omega) ⟨v, o1.2⟩ (o2 v)
      have xs : 0 ≤ x ∧ x < S := Rc.cl (P := fun y => 0 ≤ y ∧ y < S) cl x2 ⟨v, o1.2⟩
      have := f2 x xs.1 xs.2 ((o2 v).mv x2 x3)
      omega
