/-! the class: its methods are safe -/
def BtI (c : Int) (γ : St) : Prop := (0 ≤ γ 0 12 ∧ γ 0 12 < 59) ∧ PgI γ ∧ AskI c γ ∧ (0 ≤ γ 26 (γ 0 12) ∧ 0 ≤ γ 27 (γ 0 12) ∧ γ 26 (γ 0 12) + γ 27 (γ 0 12) ≤ γ 28 (γ 0 12) ∧ γ 28 (γ 0 12) ≤ 99 ∧ 0 ≤ γ 25 (γ 0 12) ∧ γ 25 (γ 0 12) + γ 28 (γ 0 12) ≤ 5841) ∧ γ 11 5 = γ 28 (γ 0 12)
def ClsI (c : Int) (γ : St) : Prop := (0 ≤ c ∧ c ≤ 512) ∧ (0 ≤ γ 0 10 ∧ γ 0 10 ≤ 20 * c) ∧ (0 ≤ γ 0 11 ∧ γ 0 11 ≤ 30000) ∧ (0 ≤ γ 0 13 ∧ γ 0 13 ≤ 1000 * c ∧ 0 ≤ γ 0 14 ∧ γ 0 14 ≤ 1000 * c) ∧ RowI γ ∧ (γ 0 12 = -1 ∧ γ 0 13 = 0 ∧ γ 0 14 = 0 ∨ BtI c γ)
theorem RowI.ext {γ γ' : St} (h : RowI γ) (e : ∀ j k, (j = 78 ∨ j = 84 ∨ j = 85) → γ' j k = γ j k) : RowI γ' := ⟨fun x q1 q2 => by rw [e 78 x (by omega)]; exact h.1 x q1 q2, fun x q1 q2 => by rw [e 84 x (by omega), e 85 x (by omega)]; exact h.2 x q1 q2⟩
theorem BtI.ext {c c' : Int} {γ γ' : St} (h : BtI c γ) (hc : c ≤ c') (e12 : γ' 0 12 = γ 0 12) (e : ∀ j k, (8 ≤ j ∧ j ≤ 11 ∨ 25 ≤ j ∧ j ≤ 28 ∨ 54 ≤ j ∧ j ≤ 62 ∨ j = 74 ∨ j = 78 ∨ j = 80 ∨ 83 ≤ j ∧ j ≤ 85) → γ' j k = γ j k) : BtI c' γ' := by
  have ⟨a1, a2, a3, a4, a5⟩ := h
  unfold BtI
  rw [e12, e 25 _ (by omega), e 26 _ (by omega), e 27 _ (by omega), e 28 _ (by omega), e 11 5 (by omega)]
  refine ⟨a1, a2.ext (fun j k q => e j k (by omega)), ⟨?_, fun s q1 q2 => ?_⟩, a4, a5⟩
  · rw [e 10 12 (by omega)]; have := a3.1; omega
  · rw [e 8 5 (by omega)] at q2
    rw [e 74 s (by omega), e 10 12 (by omega)]
    exact a3.2 s q1 q2
theorem ClsI.up {c : Int} {γ : St} (h : ClsI c γ) (hc : c < 512) : ClsI (c + 1) γ := by
  have ⟨a1, a2, a3, a4, a5, a6⟩ := h
  refine ⟨by omega, by omega, a3, by omega, a5, ?_⟩
  rcases a6 with q | q
  · exact Or.inl q
  · exact Or.inr (q.ext (by omega) rfl (fun _ _ _ => rfl))
/-- a method answers, or it throws and nothing has changed -/
def Mx (f : Option (Int × St)) (g : Option (Nat × St)) (γ : St) (Q : Int × St → Prop) (E : Nat → Prop) : Prop := wp f Q ∨ f = none ∧ ∃ e, g = some (e, γ) ∧ E e
theorem w_append {γ : St} {a : Int} (h : 0 ≤ γ 0 10 ∧ γ 0 10 ≤ 60000) : wp (f_S_append γ a) (fun z => z.2 0 10 = γ 0 10 + 4 ∧ ∀ j k, j ≠ 13 → (j ≠ 0 ∨ k ≠ 10) → z.2 j k = γ j k) := by
  unfold f_S_append
  refine wp_chk (by omega) (wp_sub (wp_chk (by simp [stA]; omega) (wp_chk (by simp [stA]; omega) (wp_sub (wp_chk (by simp [stA]; omega) (wp_chk (by simp [stA]; omega) (wp_sub (wp_chk (by simp [stA]; omega) (wp_chk (by simp [stA]; omega) (wp_sub (wp_chk (by simp [stA]; omega) (wp_sub (wp_some ⟨by simp [stA], fun j k q1 q2 => ?_⟩)))))))))))))
  show setA _ 0 10 _ j k = _
  rw [stA, if_neg (by omega), stA, if_neg (by omega), stA, if_neg (by omega), stA, if_neg (by omega), stA, if_neg (by omega)]
/-- nothing but the tape and its length, the given values, instants changes -/
theorem ClsI.ext {c : Int} {γ γ' : St} (h : ClsI c γ) (hc : c < 512) (e10 : 0 ≤ γ' 0 10 ∧ γ' 0 10 ≤ 20 * (c + 1)) (e11 : γ' 0 11 = γ 0 11) (e12 : γ' 0 12 = γ 0 12) (e13 : 0 ≤ γ' 0 13 ∧ γ' 0 13 ≤ 1000 * (c + 1) ∧ 0 ≤ γ' 0 14 ∧ γ' 0 14 ≤ 1000 * (c + 1)) (e134 : γ 0 12 = -1 → γ' 0 13 = γ 0 13 ∧ γ' 0 14 = γ 0 14) (e : ∀ j k, (8 ≤ j ∧ j ≤ 11 ∨ 25 ≤ j ∧ j ≤ 28 ∨ 54 ≤ j ∧ j ≤ 62 ∨ j = 74 ∨ j = 78 ∨ j = 80 ∨ 83 ≤ j ∧ j ≤ 85) → γ' j k = γ j k) : ClsI (c + 1) γ' := by
  have ⟨a1, a2, a3, a4, a5, a6⟩ := h
  refine ⟨by omega, e10, by omega, e13, a5.ext (fun j k q => e j k (by omega)), ?_⟩
  rcases a6 with q | q
  · have := e134 q.1
    exact Or.inl ⟨by omega, by omega, by omega⟩
  · exact Or.inr (q.ext (by omega) e12 e)
theorem k_feed {c : Int} {γ : St} {a0 a1 a2 a3 a4 : Int} (h : ClsI c γ) (hc : c < 512) : wp (f_S_feed γ a0 a1 a2 a3 a4) (fun z => ClsI (c + 1) z.2 ∧ z.1 = γ 0 10 + 20 ∧ z.2 0 10 = γ 0 10 + 20) := by
  have b := h.2.1
  have a4' := h.2.2.2.1
  unfold f_S_feed
  refine wp_chk (by omega) (wp_ite (fun q => ?_) (fun q => by omega))
  refine wp_bnd (w_append (by omega)) (fun r1 γ1 y1 => wp_bnd (w_append (by have : γ1 0 10 = γ 0 10 + 4 := y1.1; omega)) (fun r2 γ2 y2 => wp_bnd (w_append (by have : γ1 0 10 = γ 0 10 + 4 := y1.1; have : γ2 0 10 = γ1 0 10 + 4 := y2.1; omega)) (fun r3 γ3 y3 => wp_bnd (w_append (by have : γ1 0 10 = γ 0 10 + 4 := y1.1; have : γ2 0 10 = γ1 0 10 + 4 := y2.1; have : γ3 0 10 = γ2 0 10 + 4 := y3.1; omega)) (fun r4 γ4 y4 => wp_bnd (w_append (by have : γ1 0 10 = γ 0 10 + 4 := y1.1; have : γ2 0 10 = γ1 0 10 + 4 := y2.1; have : γ3 0 10 = γ2 0 10 + 4 := y3.1; have : γ4 0 10 = γ3 0 10 + 4 := y4.1; omega)) (fun r5 γ5 y5 => wp_some ?_)))))
  have z1 : γ1 0 10 = γ 0 10 + 4 := y1.1
  have z2 : γ2 0 10 = γ1 0 10 + 4 := y2.1
  have z3 : γ3 0 10 = γ2 0 10 + 4 := y3.1
  have z4 : γ4 0 10 = γ3 0 10 + 4 := y4.1
  have z5 : γ5 0 10 = γ4 0 10 + 4 := y5.1
  have e : ∀ j k, j ≠ 13 → (j ≠ 0 ∨ k ≠ 10) → γ5 j k = γ j k := fun j k q1 q2 => (y5.2 j k q1 q2).trans ((y4.2 j k q1 q2).trans ((y3.2 j k q1 q2).trans ((y2.2 j k q1 q2).trans (y1.2 j k q1 q2))))
  have g13 := e 0 13 (by omega) (by omega)
  have g14 := e 0 14 (by omega) (by omega)
  refine ⟨h.ext hc (by show 0 ≤ γ5 0 10 ∧ γ5 0 10 ≤ _; omega) (e 0 11 (by omega) (by omega)) (e 0 12 (by omega) (by omega)) (by show 0 ≤ γ5 0 13 ∧ γ5 0 13 ≤ _ ∧ 0 ≤ γ5 0 14 ∧ γ5 0 14 ≤ _; omega) (fun _ => ⟨g13, g14⟩) (fun j k q => e j k (by omega) (by omega)), by show γ5 0 10 = _; omega, by show γ5 0 10 = _; omega⟩
theorem k_end {c : Int} {γ : St} {a0 : Int} (h : ClsI c γ) (hc : c < 512) : (0 ≤ a0 ∧ a0 ≤ γ 0 10 ∧ wp (f_S_end γ a0) (fun z => ClsI (c + 1) z.2 ∧ z.1 = a0 ∧ z.2 0 10 = a0)) ∨ ((a0 < 0 ∨ γ 0 10 < a0) ∧ f_S_end γ a0 = none ∧ g_S_end γ a0 = some (2, γ)) := by
  have b := h.2.1
  have a4' := h.2.2.2.1
  unfold f_S_end g_S_end f_S_end_b12 g_S_end_b12
  by_cases q : a0 < 0
  · rw [if_pos q, if_pos q]; exact Or.inr ⟨Or.inl q, rfl, rfl⟩
  · rw [if_neg q, if_neg q]
    by_cases q2 : a0 ≤ γ 0 10
    · rw [if_pos q2, if_pos q2]
      have u : ∀ j k, setA γ 0 10 a0 j k = if j = 0 ∧ k = 10 then a0 else γ j k := fun j k => by rw [stA]
      generalize setA γ 0 10 a0 = γ1 at *
      have g10 : γ1 0 10 = a0 := by rw [u]; simp
      have g13 : γ1 0 13 = γ 0 13 := by rw [u]; simp
      have g14 : γ1 0 14 = γ 0 14 := by rw [u]; simp
      exact Or.inl ⟨by omega, q2, wp_sub (wp_some ⟨h.ext hc (by show 0 ≤ γ1 0 10 ∧ γ1 0 10 ≤ _; omega) (by show γ1 0 11 = _; rw [u]; simp) (by show γ1 0 12 = _; rw [u]; simp) (by show 0 ≤ γ1 0 13 ∧ γ1 0 13 ≤ _ ∧ 0 ≤ γ1 0 14 ∧ γ1 0 14 ≤ _; omega) (fun _ => ⟨g13, g14⟩) (fun j k q => by show γ1 j k = _; rw [u, if_neg (by omega)]), rfl, g10⟩)⟩
    · rw [if_neg q2, if_neg q2]; exact Or.inr ⟨Or.inr (by omega), rfl, rfl⟩
theorem k_fault {c : Int} {γ : St} {a0 : Int} (h : ClsI c γ) (hc : c < 512) : wp (f_S_fault γ a0) (fun z => ClsI (c + 1) z.2 ∧ z.2 = γ ∧ z.1 = (if a0 = 0 then γ 1 7 else if a0 = 1 then γ 1 8 else -1)) := by
  unfold f_S_fault
  refine wp_ite (fun q => wp_some ⟨h.up hc, rfl, by rw [if_pos q]⟩) (fun q => wp_ite (fun q2 => wp_some ⟨h.up hc, rfl, by rw [if_neg q, if_pos q2]⟩) (fun q2 => wp_some ⟨h.up hc, rfl, by rw [if_neg q, if_neg q2]⟩))
theorem k_input {c : Int} {γ : St} {a0 a1 : Int} (h : ClsI c γ) (hc : c < 512) : Mx (f_S_input γ a0 a1) (g_S_input γ a0 a1) γ (fun z => ClsI (c + 1) z.2 ∧ z.2 0 10 = γ 0 10) (fun e => e = 3 ∨ e = 2) := by
  have ⟨b1, b2, b3, b4, b5, b6⟩ := h
  unfold Mx f_S_input g_S_input f_S_input_b27 g_S_input_b27
  by_cases q : γ 0 12 < 0
  · rw [if_pos q, if_pos q]; exact Or.inr ⟨rfl, 3, rfl, Or.inl rfl⟩
  · rw [if_neg q, if_neg q]
    rcases b6 with b6 | b6
    · exfalso; omega
    · have ⟨m1, m2, m3, m4, m5⟩ := b6
      by_cases q1 : a0 < 0
      · rw [if_pos q1, if_pos q1]; exact Or.inr ⟨rfl, 3, rfl, Or.inl rfl⟩
      · rw [if_neg q1, if_neg q1, chk_t (show inb (γ 0 12) 59 by omega), chk_t (show inb (γ 0 12) 59 by omega)]
        by_cases q2 : a0 < γ 26 (γ 0 12)
        · rw [if_pos q2, if_pos q2, chk_t (show inb (γ 0 12) 59 by omega), chk_t (show inb (γ 0 12) 59 by omega), chk_t (show i32 (γ 25 (γ 0 12) + a0) by omega), chk_t (show i32 (γ 25 (γ 0 12) + a0) by omega), chk_t (show inb (γ 25 (γ 0 12) + a0) 5841 by omega), chk_t (show inb (γ 25 (γ 0 12) + a0) 5841 by omega)]
          have ok : wp (f_S_input_b78 γ a0 a1) (fun z => ClsI (c + 1) z.2 ∧ z.2 0 10 = γ 0 10) := by
            unfold f_S_input_b78
            refine wp_chk (by omega) (wp_sub (wp_chk (by omega) (wp_sub (wp_some ?_))))
            have u : ∀ j k, j ≠ 12 → setA γ 12 a0 a1 j k = γ j k := fun j k r => by rw [stA, if_neg (by omega)]
            generalize setA γ 12 a0 a1 = γ1 at *
            have g10 := u 0 10 (by omega)
            have g13 := u 0 13 (by omega)
            have g14 := u 0 14 (by omega)
            refine ⟨?_, g10⟩
            exact h.ext hc (by show 0 ≤ γ1 0 10 ∧ γ1 0 10 ≤ _; omega) (u 0 11 (by omega)) (u 0 12 (by omega)) (by show 0 ≤ γ1 0 13 ∧ γ1 0 13 ≤ _ ∧ 0 ≤ γ1 0 14 ∧ γ1 0 14 ≤ _; omega) (fun _ => ⟨g13, g14⟩) (fun j k r => u j k (by omega))
          by_cases q3 : γ 33 (γ 25 (γ 0 12) + a0) ≠ 1
          · rw [if_pos q3]; exact Or.inl ok
          · rw [if_neg q3, if_neg q3]
            by_cases q4 : a1 = 0
            · rw [if_pos q4]; exact Or.inl ok
            · rw [if_neg q4, if_neg q4]
              by_cases q5 : a1 = 1
              · rw [if_pos q5]; exact Or.inl ok
              · rw [if_neg q5, if_neg q5]; exact Or.inr ⟨rfl, 2, rfl, Or.inr rfl⟩
        · rw [if_neg q2, if_neg q2]; exact Or.inr ⟨rfl, 3, chk_t (by omega), Or.inl rfl⟩
theorem k_tick {c : Int} {γ : St} {a0 : Int} (h : ClsI c γ) (hc : c < 512) : Mx (f_S_tick γ a0) (g_S_tick γ a0) γ (fun z => ClsI (c + 1) z.2 ∧ z.2 0 10 = γ 0 10) (fun e => e = 2 ∨ e = 1) := by
  have ⟨b1, b2, b3, b4, b5, b6⟩ := h
  unfold Mx f_S_tick g_S_tick f_S_tick_b12 g_S_tick_b12
  by_cases q : a0 < 1
  · rw [if_pos q, if_pos q]; exact Or.inr ⟨rfl, 2, rfl, Or.inl rfl⟩
  · rw [if_neg q, if_neg q]
    by_cases q1 : a0 ≤ 1000
    · rw [if_pos q1, if_pos q1]
      by_cases q2 : 0 ≤ γ 0 12
      · rw [if_pos q2]
        rcases b6 with b6 | b6
        · exfalso; omega
        · refine Or.inl (wp_bnd (w_run b6.2.1 (by omega)) (fun r γ1 y => ?_))
          have y : FrV γ γ1 := y
          have e : ∀ j k, j ≠ 79 → j ≠ 87 → j ≠ 81 → j ≠ 76 → γ1 j k = γ j k := y
          have g13 := e 0 13 (by omega) (by omega) (by omega) (by omega)
          rw [g13]
          refine wp_chk (by omega) (wp_sub (wp_some ?_))
          have u : ∀ j k, (j ≠ 0 ∨ k ≠ 13) → setA γ1 0 13 (γ 0 13 + a0) j k = γ1 j k := fun j k r => by rw [stA, if_neg (by omega)]
          have u13 : setA γ1 0 13 (γ 0 13 + a0) 0 13 = γ 0 13 + a0 := by rw [stA, if_pos ⟨rfl, rfl⟩]
          generalize setA γ1 0 13 (γ 0 13 + a0) = γ2 at *
          have v : ∀ j k, (j ≠ 0 ∨ k ≠ 13) → j ≠ 79 → j ≠ 87 → j ≠ 81 → j ≠ 76 → γ2 j k = γ j k := fun j k r r1 r2 r3 r4 => by rw [u j k r, e j k r1 r2 r3 r4]
          have v10 := v 0 10 (by omega) (by omega) (by omega) (by omega) (by omega)
          have v14 := v 0 14 (by omega) (by omega) (by omega) (by omega) (by omega)
          refine ⟨?_, v10⟩
          exact h.ext hc (by show 0 ≤ γ2 0 10 ∧ γ2 0 10 ≤ _; omega) (v 0 11 (by omega) (by omega) (by omega) (by omega) (by omega)) (v 0 12 (by omega) (by omega) (by omega) (by omega) (by omega)) (by show 0 ≤ γ2 0 13 ∧ γ2 0 13 ≤ _ ∧ 0 ≤ γ2 0 14 ∧ γ2 0 14 ≤ _; omega) (fun r => by omega) (fun j k r => v j k (by omega) (by omega) (by omega) (by omega) (by omega))
      · rw [if_neg q2, if_neg q2]; exact Or.inr ⟨rfl, 1, rfl, Or.inr rfl⟩
    · rw [if_neg q1, if_neg q1]; exact Or.inr ⟨rfl, 2, rfl, Or.inl rfl⟩
/-- the variables of the main node -/
def isV (γ : St) (k : Int) : Int := if γ 0 12 < 0 then 0 else if k < 0 then 0 else if γ 28 (γ 0 12) ≤ k then 0 else 1
theorem isV_eq {c : Int} {γ : St} {k : Int} (h : ClsI c γ) : f_S_isVariable γ k = some (isV γ k, γ) ∧ h_S_isVariable γ k = some (isV γ k, γ) := by
  have ⟨b1, b2, b3, b4, b5, b6⟩ := h
  unfold f_S_isVariable h_S_isVariable isV
  by_cases q : γ 0 12 < 0
  · rw [if_pos q, if_pos q]; exact ⟨rfl, rfl⟩
  · rw [if_neg q, if_neg q]
    by_cases q1 : k < 0
    · rw [if_pos q1, if_pos q1]; exact ⟨rfl, rfl⟩
    · have m : 0 ≤ γ 0 12 ∧ γ 0 12 < 59 := by
        rcases b6 with b6 | b6
        · omega
        · exact b6.1
      rw [if_neg q1, if_neg q1, chk_t (show inb (γ 0 12) 59 by omega)]
      by_cases q2 : γ 28 (γ 0 12) ≤ k
      · rw [if_pos q2, if_pos q2]; exact ⟨rfl, rfl⟩
      · rw [if_neg q2, if_neg q2]; exact ⟨rfl, rfl⟩
theorem isV_1 {c : Int} {γ : St} {k : Int} (h : ClsI c γ) (h1 : isV γ k ≠ 0) : BtI c γ ∧ 0 ≤ k ∧ k < γ 28 (γ 0 12) ∧ isV γ k = 1 := by
  have ⟨b1, b2, b3, b4, b5, b6⟩ := h
  unfold isV at h1 ⊢
  by_cases q : γ 0 12 < 0
  · rw [if_pos q] at h1; exact absurd rfl h1
  · rw [if_neg q] at h1 ⊢
    by_cases q1 : k < 0
    · rw [if_pos q1] at h1; exact absurd rfl h1
    · rw [if_neg q1] at h1 ⊢
      by_cases q2 : γ 28 (γ 0 12) ≤ k
      · rw [if_pos q2] at h1; exact absurd rfl h1
      · rw [if_neg q2]
        rcases b6 with b6 | b6
        · omega
        · exact ⟨b6, by omega, by omega, rfl⟩
theorem isV_b (γ : St) (k : Int) : isV γ k = 0 ∨ isV γ k = 1 := by
  unfold isV
  split
  · exact Or.inl rfl
  · split
    · exact Or.inl rfl
    · split
      · exact Or.inl rfl
      · exact Or.inr rfl
theorem bndR_eq {ζ : Type} {o : Option (Int × St)} {r : Int} {γ : St} {k : Int → Option ζ} (e : o = some (r, γ)) (hr : r = 0 ∨ r = 1) : bndR o k = k r := by
  rw [e]
  show (if r = 0 ∨ r = 1 then k r else none) = k r
  rw [if_pos hr]
theorem bndN_eq {ζ : Type} {o : Option (Int × St)} {r : Int} {γ : St} {k : Int → St → Option ζ} (e : o = some (r, γ)) : bndN o k = k r γ := by rw [e]; rfl
theorem k_value {c : Int} {γ : St} {a0 : Int} (h : ClsI c γ) (hc : c < 512) : Mx (f_S_value γ a0) (g_S_value γ a0) γ (fun z => ClsI (c + 1) z.2 ∧ z.2 = γ ∧ z.1 = γ 76 a0) (fun e => e = 3 ∨ e = 1) := by
  have iv := isV_eq (k := a0) h
  unfold Mx f_S_value g_S_value
  rw [bndR_eq iv.2 (isV_b γ a0), bndN_eq iv.1]
  by_cases q : isV γ a0 ≠ 0
  · have v := isV_1 h q
    have m := v.1.2.2.2.1
    rw [if_pos q, if_pos q]
    by_cases q2 : γ 0 13 ≠ 0
    · rw [if_pos q2]
      exact Or.inl (wp_chk (by omega) (wp_some ⟨h.up hc, rfl, rfl⟩))
    · rw [if_neg q2, if_neg q2]; exact Or.inr ⟨rfl, 1, rfl, Or.inr rfl⟩
  · rw [if_neg q, if_neg q]; exact Or.inr ⟨rfl, 3, rfl, Or.inl rfl⟩
theorem w_role {γ : St} {a b : Int} (ha : 0 ≤ a ∧ a < 59) (h : 0 ≤ γ 26 a ∧ 0 ≤ γ 27 a ∧ γ 26 a + γ 27 a ≤ 99) : wp (f_Nd_role γ a b) (fun z => z.2 = γ) := by
  unfold f_Nd_role
  exact wp_chk (by omega) (wp_ite (fun _ => wp_chk (by omega) (wp_chk (by omega) (wp_chk (by omega) (wp_ite (fun _ => wp_some rfl) (fun _ => wp_some rfl))))) (fun _ => wp_some rfl))
theorem k_about {c : Int} {γ : St} {a0 a1 : Int} (h : ClsI c γ) (hc : c < 512) : Mx (f_S_about γ a0 a1) (g_S_about γ a0 a1) γ (fun z => ClsI (c + 1) z.2 ∧ z.2 = γ) (fun e => e = 3 ∨ e = 2) := by
  have iv := isV_eq (k := a0) h
  unfold Mx f_S_about g_S_about f_S_about_b25 g_S_about_b25
  rw [bndR_eq iv.2 (isV_b γ a0), bndN_eq iv.1]
  by_cases q : isV γ a0 ≠ 0
  · have v := isV_1 h q
    have m := v.1.2.2.2.1
    have m0 := v.1.1
    rw [if_pos q, if_pos q]
    by_cases q2 : a1 < 0
    · rw [if_pos q2, if_pos q2]; exact Or.inr ⟨rfl, 2, rfl, Or.inr rfl⟩
    · rw [if_neg q2, if_neg q2]
      by_cases q3 : a1 ≤ 3
      · rw [if_pos q3]
        refine Or.inl (wp_chk (by omega) (wp_chk (by omega) (wp_chk (by omega) (wp_sub ?_))))
        refine wp_ite (fun _ => ?_) (fun _ => wp_ite (fun _ => wp_chk (by omega) (wp_chk (by omega) (wp_chk (by omega) (wp_some ⟨h.up hc, rfl⟩)))) (fun _ => wp_ite (fun _ => wp_ite (fun _ => wp_some ⟨h.up hc, rfl⟩) (fun _ => wp_some ⟨h.up hc, rfl⟩)) (fun _ => wp_ite (fun _ => wp_some ⟨h.up hc, rfl⟩) (fun _ => wp_some ⟨h.up hc, rfl⟩))))
        refine wp_bnd (w_role (by omega) (by omega)) (fun r γ1 y => wp_some ?_)
        have y : γ1 = γ := y
        rw [y]
        exact ⟨h.up hc, rfl⟩
      · rw [if_neg q3, if_neg q3]; exact Or.inr ⟨rfl, 2, rfl, Or.inr rfl⟩
  · rw [if_neg q, if_neg q]; exact Or.inr ⟨rfl, 3, rfl, Or.inl rfl⟩
theorem k_causes {c : Int} {γ : St} {a0 a1 : Int} (h : ClsI c γ) (hc : c < 512) : Mx (f_S_causes γ a0 a1) (g_S_causes γ a0 a1) γ (fun z => ClsI (c + 1) z.2 ∧ (z.1 = 0 ∨ z.1 = 1) ∧ z.2 0 10 = γ 0 10) (fun e => e = 3) := by
  have ⟨b1, b2, b3, b4, b5, b6⟩ := h
  have iv := isV_eq (k := a0) h
  have iw := isV_eq (k := a1) h
  unfold Mx f_S_causes g_S_causes f_S_causes_b16 g_S_causes_b16
  rw [bndR_eq iv.2 (isV_b γ a0), bndN_eq iv.1]
  by_cases q : isV γ a0 = 0
  · rw [if_pos q, if_pos q]; exact Or.inr ⟨rfl, 3, rfl, rfl⟩
  · have v := isV_1 h q
    rw [if_neg q, if_neg q, bndR_eq iw.2 (isV_b γ a1), bndN_eq iw.1]
    by_cases q2 : isV γ a1 ≠ 0
    · have w := isV_1 h q2
      have m5 := v.1.2.2.2.2
      have p5 := v.1.2.1.2.2.2.2.1
      have p3 := v.1.2.1.2.2.1
      rw [if_pos q2]
      refine Or.inl (wp_bnd (w_reaches v.1.2.1 v.1.2.2.1 (by omega) (by omega) (by omega)) (fun r γ1 y => wp_some ?_))
      obtain ⟨y1, y2, y3⟩ := y
      have y1 : ∀ j k, j ≠ 73 → j ≠ 74 → (j ≠ 10 ∨ k ≠ 12) → γ1 j k = γ j k := y1
      have y2 : AskI (c + 1) γ1 := y2
      have e : ∀ j k, j ≠ 73 → j ≠ 74 → j ≠ 10 → γ1 j k = γ j k := fun j k r1 r2 r3 => y1 j k r1 r2 (by omega)
      have g10 := e 0 10 (by omega) (by omega) (by omega)
      have g11 := e 0 11 (by omega) (by omega) (by omega)
      have g12 := e 0 12 (by omega) (by omega) (by omega)
      have g13 := e 0 13 (by omega) (by omega) (by omega)
      have g14 := e 0 14 (by omega) (by omega) (by omega)
      have ⟨m1, m2, m3, m4, _⟩ := v.1
      refine ⟨⟨by omega, by show 0 ≤ γ1 0 10 ∧ γ1 0 10 ≤ _; omega, by show 0 ≤ γ1 0 11 ∧ γ1 0 11 ≤ _; omega, by show 0 ≤ γ1 0 13 ∧ γ1 0 13 ≤ _ ∧ 0 ≤ γ1 0 14 ∧ γ1 0 14 ≤ _; omega, b5.ext (fun j k r => e j k (by omega) (by omega) (by omega)), Or.inr ⟨?_, ?_, y2, ?_, ?_⟩⟩, y3, g10⟩
      · show 0 ≤ γ1 0 12 ∧ γ1 0 12 < 59; omega
      · exact m2.ext (fun j k r => e j k (by omega) (by omega) (by omega))
      · show 0 ≤ γ1 26 (γ1 0 12) ∧ 0 ≤ γ1 27 (γ1 0 12) ∧ γ1 26 (γ1 0 12) + γ1 27 (γ1 0 12) ≤ γ1 28 (γ1 0 12) ∧ γ1 28 (γ1 0 12) ≤ 99 ∧ 0 ≤ γ1 25 (γ1 0 12) ∧ γ1 25 (γ1 0 12) + γ1 28 (γ1 0 12) ≤ 5841
        rw [g12, e 25 _ (by omega) (by omega) (by omega), e 26 _ (by omega) (by omega) (by omega), e 27 _ (by omega) (by omega) (by omega), e 28 _ (by omega) (by omega) (by omega)]
        exact m4
      · show γ1 11 5 = γ1 28 (γ1 0 12)
        rw [g12, e 11 5 (by omega) (by omega) (by omega), e 28 _ (by omega) (by omega) (by omega)]
        exact m5
    · rw [if_neg q2, if_neg q2]; exact Or.inr ⟨rfl, 3, rfl, rfl⟩
theorem k_restart {c : Int} {γ : St} (h : ClsI c γ) (hc : c < 512) : Mx (f_S_restart γ) (g_S_restart γ) γ (fun z => ClsI (c + 1) z.2 ∧ z.1 = γ 0 13 ∧ z.2 0 10 = γ 0 10) (fun e => e = 1) := by
  have ⟨b1, b2, b3, b4, b5, b6⟩ := h
  unfold Mx f_S_restart g_S_restart
  by_cases q : 0 ≤ γ 0 12
  · rw [if_pos q]
    rcases b6 with b6 | b6
    · exfalso; omega
    · have p4 := b6.2.1.2.2.2.1
      refine Or.inl (wp_sub ?_)
      unfold f_Pg_clear
      refine wp_bnd (P := fun z => ∀ j k, j ≠ 81 → z.2 j k = γ j k) (wp_chk (by omega) (wp_sub (wp_some (fun j k r => ?_)))) (fun r γ1 y => wp_sub (wp_some ?_))
      · show (if _ then _ else _) = _
        rw [if_neg (by omega)]
      · have y : ∀ j k, j ≠ 81 → γ1 j k = γ j k := y
        have u : ∀ j k, (j ≠ 0 ∨ k ≠ 13) → setA γ1 0 13 0 j k = γ1 j k := fun j k r => by rw [stA, if_neg (by omega)]
        have u13 : setA γ1 0 13 0 0 13 = 0 := by rw [stA, if_pos ⟨rfl, rfl⟩]
        generalize setA γ1 0 13 0 = γ2 at *
        have v : ∀ j k, (j ≠ 0 ∨ k ≠ 13) → j ≠ 81 → γ2 j k = γ j k := fun j k r r1 => by rw [u j k r, y j k r1]
        have v10 := v 0 10 (by omega) (by omega)
        have v14 := v 0 14 (by omega) (by omega)
        exact ⟨h.ext hc (by show 0 ≤ γ2 0 10 ∧ γ2 0 10 ≤ _; omega) (v 0 11 (by omega) (by omega)) (v 0 12 (by omega) (by omega)) (by show 0 ≤ γ2 0 13 ∧ γ2 0 13 ≤ _ ∧ 0 ≤ γ2 0 14 ∧ γ2 0 14 ≤ _; omega) (fun r => by omega) (fun j k r => v j k (by omega) (by omega)), rfl, v10⟩
  · rw [if_neg q, if_neg q]; exact Or.inr ⟨rfl, 1, rfl, rfl⟩
theorem w_store {γ : St} (h4 : 0 ≤ γ 8 11 ∧ γ 8 11 ≤ 6000) (h5 : 0 ≤ γ 11 5 ∧ γ 11 5 ≤ 99) : wp (f_Pg_store γ) (fun z => ∀ j k, j ≠ 82 → j ≠ 77 → z.2 j k = γ j k) := by
  unfold f_Pg_store
  have a : cpA γ 81 82 (γ 8 11) 11 5 = γ 11 5 := by show (if _ then _ else _) = _; rw [if_neg (by omega)]
  refine wp_chk (by omega) (wp_sub ?_)
  rw [a]
  refine wp_chk (by omega) (wp_sub (wp_some (fun j k q1 q2 => ?_)))
  show (if _ then _ else (if _ then _ else _)) = _
  rw [if_neg (by omega), if_neg (by omega)]
theorem w_recall {γ : St} (h4 : 0 ≤ γ 8 11 ∧ γ 8 11 ≤ 6000) (h5 : 0 ≤ γ 11 5 ∧ γ 11 5 ≤ 99) : wp (f_Pg_recall γ) (fun z => ∀ j k, j ≠ 81 → j ≠ 76 → z.2 j k = γ j k) := by
  unfold f_Pg_recall
  have a : cpA γ 82 81 (γ 8 11) 11 5 = γ 11 5 := by show (if _ then _ else _) = _; rw [if_neg (by omega)]
  refine wp_chk (by omega) (wp_sub ?_)
  rw [a]
  refine wp_chk (by omega) (wp_sub (wp_some (fun j k q1 q2 => ?_)))
  show (if _ then _ else (if _ then _ else _)) = _
  rw [if_neg (by omega), if_neg (by omega)]
theorem k_keep {c : Int} {γ : St} (h : ClsI c γ) (hc : c < 512) : Mx (f_S_keep γ) (g_S_keep γ) γ (fun z => ClsI (c + 1) z.2 ∧ z.2 0 10 = γ 0 10) (fun e => e = 1) := by
  have ⟨b1, b2, b3, b4, b5, b6⟩ := h
  unfold Mx f_S_keep g_S_keep f_S_keep_b14 g_S_keep_b14
  by_cases q : γ 0 12 < 0
  · rw [if_pos q, if_pos q]; exact Or.inr ⟨rfl, 1, rfl, rfl⟩
  · rw [if_neg q, if_neg q]
    by_cases q2 : γ 0 13 ≠ 0
    · rw [if_pos q2]
      rcases b6 with b6 | b6
      · exfalso; omega
      · have p4 := b6.2.1.2.2.2.1
        have p5 := b6.2.1.2.2.2.2.1
        refine Or.inl (wp_bnd (w_store p4 (by omega)) (fun r γ1 y => wp_sub (wp_some ?_)))
        have y : ∀ j k, j ≠ 82 → j ≠ 77 → γ1 j k = γ j k := y
        have y13 := y 0 13 (by omega) (by omega)
        rw [y13]
        have u : ∀ j k, (j ≠ 0 ∨ k ≠ 14) → setA γ1 0 14 (γ 0 13) j k = γ1 j k := fun j k r => by rw [stA, if_neg (by omega)]
        have u14 : setA γ1 0 14 (γ 0 13) 0 14 = γ 0 13 := by rw [stA, if_pos ⟨rfl, rfl⟩]
        generalize setA γ1 0 14 (γ 0 13) = γ2 at *
        have v : ∀ j k, (j ≠ 0 ∨ k ≠ 14) → j ≠ 82 → j ≠ 77 → γ2 j k = γ j k := fun j k r r1 r2 => by rw [u j k r, y j k r1 r2]
        have v10 := v 0 10 (by omega) (by omega) (by omega)
        have v13 := v 0 13 (by omega) (by omega) (by omega)
        refine ⟨?_, v10⟩
        exact h.ext hc (by show 0 ≤ γ2 0 10 ∧ γ2 0 10 ≤ _; omega) (v 0 11 (by omega) (by omega) (by omega)) (v 0 12 (by omega) (by omega) (by omega)) (by show 0 ≤ γ2 0 13 ∧ γ2 0 13 ≤ _ ∧ 0 ≤ γ2 0 14 ∧ γ2 0 14 ≤ _; omega) (fun r => by omega) (fun j k r => v j k (by omega) (by omega) (by omega))
    · rw [if_neg q2, if_neg q2]; exact Or.inr ⟨rfl, 1, rfl, rfl⟩
theorem k_back {c : Int} {γ : St} (h : ClsI c γ) (hc : c < 512) : Mx (f_S_back γ) (g_S_back γ) γ (fun z => ClsI (c + 1) z.2 ∧ z.1 = γ 0 13 ∧ z.2 0 10 = γ 0 10) (fun e => e = 1) := by
  have ⟨b1, b2, b3, b4, b5, b6⟩ := h
  unfold Mx f_S_back g_S_back
  by_cases q2 : γ 0 14 ≠ 0
  · rw [if_pos q2]
    rcases b6 with b6 | b6
    · exfalso; omega
    · have p4 := b6.2.1.2.2.2.1
      have p5 := b6.2.1.2.2.2.2.1
      have m0 := b6.1
      refine Or.inl (wp_sub (wp_bnd (w_recall p4 (by omega)) (fun r γ1 y => wp_sub (wp_some ?_))))
      have y : ∀ j k, j ≠ 81 → j ≠ 76 → γ1 j k = γ j k := y
      have y14 := y 0 14 (by omega) (by omega)
      rw [y14]
      have u : ∀ j k, (j ≠ 0 ∨ k ≠ 13) → setA γ1 0 13 (γ 0 14) j k = γ1 j k := fun j k r => by rw [stA, if_neg (by omega)]
      have u13 : setA γ1 0 13 (γ 0 14) 0 13 = γ 0 14 := by rw [stA, if_pos ⟨rfl, rfl⟩]
      generalize setA γ1 0 13 (γ 0 14) = γ2 at *
      have v : ∀ j k, (j ≠ 0 ∨ k ≠ 13) → j ≠ 81 → j ≠ 76 → γ2 j k = γ j k := fun j k r r1 r2 => by rw [u j k r, y j k r1 r2]
      have v10 := v 0 10 (by omega) (by omega) (by omega)
      have v14 := v 0 14 (by omega) (by omega) (by omega)
      exact ⟨h.ext hc (by show 0 ≤ γ2 0 10 ∧ γ2 0 10 ≤ _; omega) (v 0 11 (by omega) (by omega) (by omega)) (v 0 12 (by omega) (by omega) (by omega)) (by show 0 ≤ γ2 0 13 ∧ γ2 0 13 ≤ _ ∧ 0 ≤ γ2 0 14 ∧ γ2 0 14 ≤ _; omega) (fun r => by omega) (fun j k r => v j k (by omega) (by omega) (by omega)), rfl, v10⟩
  · rw [if_neg q2, if_neg q2]; exact Or.inr ⟨rfl, 1, rfl, rfl⟩
theorem k_count {c : Int} {γ : St} {a0 : Int} (h : ClsI c γ) (hc : c < 512) : wp (f_S_count γ a0) (fun z => ClsI (c + 1) z.2 ∧ z.2 = γ) := by
  have ⟨b1, b2, b3, b4, b5, b6⟩ := h
  have u := h.up hc
  unfold f_S_count f_S_countOfProgram
  refine wp_ite (fun _ => wp_ite (fun _ => wp_some ⟨u, rfl⟩) (fun _ => wp_ite (fun _ => wp_ite (fun q => ?_) (fun _ => wp_some ⟨u, rfl⟩)) (fun _ => wp_some ⟨u, rfl⟩))) (fun _ => wp_some ⟨u, rfl⟩)
  have m : 0 ≤ γ 0 12 ∧ γ 0 12 < 59 := by
    rcases b6 with b6 | b6
    · omega
    · exact b6.1
  refine wp_id ?_
  repeat (first | exact wp_some ⟨u, rfl⟩ | exact wp_chk (by omega) (wp_some ⟨u, rfl⟩) | refine wp_ite (fun _ => ?_) (fun _ => ?_))
