/-! the class's reader: what single steps do -/
theorem eq_wp {α : Type} {o : Option α} {v : α} {Q : α → Prop} (h : wp o Q) (e : o = some v) : Q v := by rw [e] at h; exact h
theorem some_wp {α : Type} {o : Option α} {v : α} (h : wp o (fun z => z = v)) : o = some v := by
  cases o with
  | none => exact h.elim
  | some a => rw [show a = v from h]
theorem wp_and {α : Type} {o : Option α} {P Q : α → Prop} (h : wp o P) (k : wp o Q) : wp o (fun z => P z ∧ Q z) := by
  cases o with
  | none => exact h
  | some a => exact ⟨h, k⟩
def stepS (γ : St) : St := setA γ 1 6 (γ 1 6 + 1)
theorem stepS_v (γ : St) (j : Nat) (k : Int) : stepS γ j k = if j = 1 ∧ k = 6 then γ 1 6 + 1 else γ j k := by simp [stepS, stA]
theorem step_eq {γ : St} (h : TkR γ) (hk : γ 14 (γ 1 6) ≠ 0) : f_Tk_step γ = some (0, stepS γ) := by
  have ⟨h1, h2, h9⟩ := h
  have := h1.2.1
  have lt : γ 1 6 + 1 < γ 1 5 := by
    rcases Int.lt_or_le (γ 1 6 + 1) (γ 1 5) with q | q
    · exact q
    · exact absurd (by rw [show γ 1 6 = γ 1 5 - 1 by omega]; exact h9) hk
  exact some_wp (wp_chk (by omega) (wp_ite (fun c => by omega) (fun c => wp_chk (by omega) (wp_sub (wp_some rfl)))))
theorem step_T {γ : St} (h : TkR γ) (hk : γ 14 (γ 1 6) ≠ 0) : TkR (stepS γ) ∧ FrC γ (stepS γ) := by
  have := eq_wp (w_Tk_step h) (step_eq h hk)
  exact ⟨this.1, this.2.1⟩
def failS (γ : St) (a : Int) : St := if γ 1 7 ≠ 0 then γ else setA (setA γ 1 7 a) 1 8 (γ 15 (γ 1 6))
theorem fail_eq {γ : St} {a : Int} (h : TkR γ) : f_Tk_fail γ a = some (0, failS γ a) := by
  have ⟨h1, h2, h9⟩ := h
  have := h1.2.1
  unfold f_Tk_fail failS
  by_cases c : γ 1 7 ≠ 0
  · rw [if_pos c, if_pos c]
  · rw [if_neg c, if_neg c]
    exact some_wp (wp_sub (wp_chk (by simp [stA]; omega) (wp_sub (wp_some (by simp [stA])))))
theorem fail_T {γ : St} {a : Int} (h : TkR γ) (ha : a ≠ 0) : TkR (failS γ a) ∧ FrC γ (failS γ a) ∧ failS γ a 1 6 = γ 1 6 ∧ failS γ a 1 7 ≠ 0 := by
  have := eq_wp (w_Tk_fail h ha) (fail_eq h)
  exact ⟨this.1, this.2.1, this.2.2.2.1, this.2.2.2.2⟩
/-- the nodes' rows and the words, as far as the reader needs them -/
def NdV (γ : St) : Prop := (0 ≤ γ 3 9 ∧ γ 3 9 < 59) ∧ (0 ≤ γ 25 (γ 3 9) ∧ γ 25 (γ 3 9) ≤ 99 * γ 3 9) ∧ (0 ≤ γ 28 (γ 3 9) ∧ γ 28 (γ 3 9) ≤ 99) ∧ γ 25 (γ 3 9) + γ 28 (γ 3 9) = γ 3 15 ∧ ∀ w, 0 ≤ w → w < γ 2 8 → (0 ≤ γ 23 w ∧ γ 23 w ≤ γ 3 9) ∧ γ 22 w ≤ γ 3 9 + 1 ∧ (γ 22 w = γ 3 9 + 1 → 0 ≤ γ 21 w ∧ γ 21 w < γ 28 (γ 3 9))
theorem NdV.ext {γ γ' : St} (h : NdV γ) (e : ∀ j k, (j = 2 ∧ k = 8 ∨ j = 3 ∨ 21 ≤ j ∧ j ≤ 23 ∨ j = 25 ∨ j = 28) → γ' j k = γ j k) : NdV γ' := by
  have ⟨a1, a2, a3, a4, a5⟩ := h
  have b1 := e 3 9 (by omega)
  have b2 := e 3 15 (by omega)
  have b3 := e 25 (γ 3 9) (by omega)
  have b4 := e 28 (γ 3 9) (by omega)
  refine ⟨by rw [b1]; exact a1, by rw [b1, b3]; exact a2, by rw [b1, b4]; exact a3, by rw [b1, b2, b3, b4]; exact a4, fun w h1 h2 => ?_⟩
  rw [e 2 8 (by omega)] at h2
  rw [b1, b4, e 21 w (by omega), e 22 w (by omega), e 23 w (by omega)]
  exact a5 w h1 h2
/-- the reader within an equation -/
def NZ (γ : St) : Prop := ∀ i, 0 ≤ i → i < γ 6 8 → γ 48 i ≠ 0
def RS (γ : St) : Prop := ErJ γ ∧ ErS γ ∧ NdV γ ∧ NZ γ
theorem NZ.ext {γ γ' : St} (h : NZ γ) (e8 : γ' 6 8 ≤ γ 6 8) (e : ∀ k, γ' 48 k = γ 48 k) : NZ γ' := fun i h1 h2 => by rw [e]; exact h i h1 (by omega)
theorem RS.fr {γ γ' : St} (h : RS γ) (hT : TkR γ') (hF : FrC γ γ') (h6 : γ 1 6 ≤ γ' 1 6) : RS γ' :=
  ⟨h.1.fr hT hF h6, h.2.1.ext (fun j k hj => hF j k (by omega)), h.2.2.1.ext (fun j k hj => hF j k (by omega)), h.2.2.2.ext (Int.le_of_eq (hF 6 8 (by omega))) (fun k => hF 48 k (by omega))⟩
def RsP (γ : St) (z : Int × St) : Prop := RS z.2 ∧ FrR γ z.2 ∧ γ 1 6 ≤ z.2 1 6 ∧ (z.2 6 14 = γ 6 14 ∨ z.2 6 8 = 0 ∧ z.2 6 12 = 0) ∧ (z.1 = 0 ∧ z.2 1 7 ≠ 0 ∨ z.1 = 1 ∧ z.2 1 7 = γ 1 7 ∧ γ 1 6 < z.2 1 6)
theorem RsP.pre {γ γ' : St} {z : Int × St} (h : RsP γ' z) (hF : FrR γ γ') (h6 : γ 1 6 ≤ γ' 1 6) (h7 : γ' 1 7 = γ 1 7) (h14 : γ' 6 14 = γ 6 14) : RsP γ z := by
  obtain ⟨a1, a2, a3, a4, a5⟩ := h
  exact ⟨a1, hF.tr a2, by omega, by omega, by omega⟩
theorem RsP.ok {γ γ' : St} (hR : RS γ') (hF : FrR γ γ') (h14 : γ' 6 14 = γ 6 14) (h7 : γ' 1 7 = γ 1 7) (h6 : γ 1 6 < γ' 1 6) : RsP γ (1, γ') := ⟨hR, hF, Int.le_of_lt h6, Or.inl h14, Or.inr ⟨rfl, h7, h6⟩⟩
theorem RS.fail {γ : St} {a : Int} (h : RS γ) (ha : a ≠ 0) : RsP γ (0, failS γ a) := by
  have ⟨f1, f2, f3, f4⟩ := fail_T (a := a) h.1.1 ha
  exact ⟨h.fr f1 f2 (Int.le_of_eq f3.symm), f2.R, Int.le_of_eq f3.symm, Or.inl (f2 6 14 (by omega)), Or.inl ⟨rfl, f4⟩⟩
theorem w_fail {γ : St} {a : Int} (h : RS γ) (ha : a ≠ 0) : wp (bndN (f_Tk_fail γ a) fun r γ' => some (r, γ')) (RsP γ) := wp_bs (fail_eq h.1.1) (wp_some (h.fail ha))
theorem wp_id {o : Option (Int × St)} {Q : Int × St → Prop} (h : wp o Q) : wp (bndN o fun r γ => some (r, γ)) Q := wp_bnd h (fun _ _ q => wp_some q)
/-- what stands here waits -/
def pushS (γ : St) (a0 a1 : Int) : St := setA (setA (setA (setA (setA (setA γ 48 (γ 6 8) a0) 6 8 (γ 6 8 + 1)) 6 10 (γ 6 10 + nestK a0)) 6 12 1) 6 13 a1) 1 6 (γ 1 6 + 1)
theorem pushS_v (γ : St) (a0 a1 : Int) (j : Nat) (k : Int) : pushS γ a0 a1 j k = if j = 1 ∧ k = 6 then γ 1 6 + 1 else if j = 6 ∧ k = 13 then a1 else if j = 6 ∧ k = 12 then 1 else if j = 6 ∧ k = 10 then γ 6 10 + nestK a0 else if j = 6 ∧ k = 8 then γ 6 8 + 1 else if j = 48 ∧ k = γ 6 8 then a0 else γ j k := by simp [pushS, stA]
theorem ErJ.nb {γ : St} (h : ErJ γ) : 0 ≤ γ 6 10 ∧ γ 6 10 ≤ 512 := by
  have ⟨hT, i1, i2, i3, i4, i5, i6, i7⟩ := h
  have b2 : 0 ≤ γ 6 10 := by rw [i5]; exact sumK_nn (fun k => (nestK_b k).1)
  have := sumK_le (f := nestK) (g := γ 48) (c := 1) (fun k => (nestK_b k).2) (n := (γ 6 8).toNat)
  exact ⟨b2, by omega⟩
theorem push_eq {γ : St} {a0 a1 : Int} (h : ErJ γ) (h8 : γ 6 8 < 512) (hk : γ 14 (γ 1 6) ≠ 0) (ha : a1 = 0 ∨ a1 = 1) : f_Er_push γ a0 a1 = some (1, pushS γ a0 a1) := by
  have nb := h.nb
  have b1 := nestK_b a0
  have i1 := h.2.1
  unfold f_Er_push
  rw [if_pos h8]
  refine some_wp (wp_chk (by omega) (wp_sub (wp_chk (by simp [stA]; omega) (wp_sub (wp_bs (f_S_nesting_eq _ _) (wp_chk (by simp [stA]; omega) (wp_sub (wp_sub (wp_chk ha (wp_sub ?_))))))))))
  refine wp_bs (step_eq (h.1.ext (fun j k h1 => by simp [stA]; grind)) (by simpa [stA] using hk)) (wp_some ?_)
  simp [pushS, stepS, stA]
theorem w_push {γ : St} {a0 a1 : Int} (h : RS γ) (hn : ndK a0 = 1 - γ 6 12) (hk : γ 14 (γ 1 6) ≠ 0) (ha : a1 = 0 ∨ a1 = 1) (h43 : a0 ≠ 43 ∧ a0 ≠ 0) : wp (f_Er_push γ a0 a1) (RsP γ) := by
  by_cases h8 : γ 6 8 < 512
  · have q1 : ErJ (pushS γ a0 a1) := (eq_wp (w_Er_push h.1 hn hk ha) (push_eq h.1 h8 hk ha)).1
    have q2 : FrE γ (pushS γ a0 a1) := (eq_wp (w_Er_push h.1 hn hk ha) (push_eq h.1 h8 hk ha)).2.1
    refine wp_eq (push_eq h.1 h8 hk ha) (RsP.ok ⟨q1, ?_, ?_, ?_⟩ ⟨q2, ?_, fun j k h1 h2 h3 => ?_⟩ ?_ ?_ ?_)
    · refine h.2.1.push h.1.2.1.1 (fun j k hj => ?_) ?_ (fun c => ?_)
      · rw [pushS_v]; repeat rw [if_neg (by omega)]
      · rw [pushS_v]; simp
      · rw [pushS_v] at c
        simp at c
        exact absurd c h43.1
    · exact h.2.2.1.ext (fun j k hj => by rw [pushS_v]; repeat rw [if_neg (by omega)])
    · intro i h1 h2
      have := h.2.2.2 i h1
      rw [pushS_v] at h2 ⊢
      simp at h2 ⊢
      grind
    · rw [pushS_v]; simp
    · rw [pushS_v]; repeat rw [if_neg (by omega)]
    · rw [pushS_v]; simp
    · rw [pushS_v]; simp
    · rw [pushS_v]; simp; omega
  · unfold f_Er_push
    rw [if_neg h8]
    exact w_fail h (by omega)
/-- an atom -/
def takeS (γ : St) (a0 a1 : Int) : St := setA (setA (setA (setA (setA (setA (setA (setA (setA γ 38 (γ 4 4) a0) 39 (γ 4 4) a1) 40 (γ 4 4) 0) 41 (γ 4 4) (-2)) 4 4 (γ 4 4 + 1)) 52 (γ 6 9) 1) 6 9 (γ 6 9 + 1)) 6 12 0) 1 6 (γ 1 6 + 1)
theorem takeS_v (γ : St) (a0 a1 : Int) (j : Nat) (k : Int) : takeS γ a0 a1 j k = if j = 1 ∧ k = 6 then γ 1 6 + 1 else if j = 6 ∧ k = 12 then 0 else if j = 6 ∧ k = 9 then γ 6 9 + 1 else if j = 52 ∧ k = γ 6 9 then 1 else if j = 4 ∧ k = 4 then γ 4 4 + 1 else if j = 41 ∧ k = γ 4 4 then -2 else if j = 40 ∧ k = γ 4 4 then 0 else if j = 39 ∧ k = γ 4 4 then a1 else if j = 38 ∧ k = γ 4 4 then a0 else γ j k := by simp [takeS, stA]
theorem take_eq {γ : St} {a0 a1 : Int} (h : ErJ γ) (h9 : γ 6 9 < 512) (hk : γ 14 (γ 1 6) ≠ 0) : f_Er_takeAtom γ a0 a1 = some (1, takeS γ a0 a1) := by
  have ⟨hT, i1, i2, i3, i4, i5, i6, i7⟩ := h
  have t1 := hT.1.2.1
  have t2 := hT.2.1
  unfold f_Er_takeAtom
  rw [if_pos h9]
  refine some_wp (wp_bnd (P := fun z => z = (0, setA (setA (setA (setA (setA γ 38 (γ 4 4) a0) 39 (γ 4 4) a1) 40 (γ 4 4) 0) 41 (γ 4 4) (-2)) 4 4 (γ 4 4 + 1))) ?_ (fun r γ' e => ?_))
  · unfold f_Cd_add
    exact wp_chk (by omega) (wp_sub (wp_chk (by simp [stA]; omega) (wp_sub (wp_chk (by simp [stA]; omega) (wp_sub (wp_chk (by simp [stA]; omega) (wp_sub (wp_chk (by simp [stA]; omega) (wp_sub (wp_some (by simp [stA])))))))))))
  · have e := congrArg Prod.snd e
    have e : γ' = _ := e
    subst e
    refine wp_chk (by simp [stA]; omega) (wp_sub (wp_chk (by simp [stA]; omega) (wp_sub (wp_sub ?_))))
    refine wp_bs (step_eq (h.1.ext (fun j k h1 => by simp [stA]; grind)) (by simpa [stA] using hk)) (wp_some ?_)
    simp [takeS, stepS, stA]
theorem w_take {γ : St} {a0 a1 : Int} (h : RS γ) (hn : γ 6 12 = 1) (hk : γ 14 (γ 1 6) ≠ 0) (ha : a0 = 2 ∧ (0 ≤ a1 ∧ a1 < γ 28 (γ 3 9)) ∨ a0 = 3 ∨ a0 = 40 ∨ a0 = 41) : wp (f_Er_takeAtom γ a0 a1) (RsP γ) := by
  by_cases h9 : γ 6 9 < 512
  · have ee := take_eq (a0 := a0) (a1 := a1) h.1 h9 hk
    have q1 : ErJ (takeS γ a0 a1) := (eq_wp (w_Er_takeAtom h.1 hn hk) ee).1
    have q2 : FrE γ (takeS γ a0 a1) := (eq_wp (w_Er_takeAtom h.1 hn hk) ee).2.1
    have i0 := h.2.1.1
    have i1 := h.1.2.1
    have i2 := h.1.2.2.1
    have nI : 0 ≤ inS γ (γ 6 8) := inS_nn (fun i q1 q2 q3 => (h.2.1.2.2.2.1 i q1 q2 q3).2.1)
    generalize hs : takeS γ a0 a1 = γs at *
    have s0 : ∀ j k, γs j k = if j = 1 ∧ k = 6 then γ 1 6 + 1 else if j = 6 ∧ k = 12 then 0 else if j = 6 ∧ k = 9 then γ 6 9 + 1 else if j = 52 ∧ k = γ 6 9 then 1 else if j = 4 ∧ k = 4 then γ 4 4 + 1 else if j = 41 ∧ k = γ 4 4 then -2 else if j = 40 ∧ k = γ 4 4 then 0 else if j = 39 ∧ k = γ 4 4 then a1 else if j = 38 ∧ k = γ 4 4 then a0 else γ j k := fun j k => by rw [← hs]; exact takeS_v _ _ _ _ _
    have a8 : γs 6 8 = γ 6 8 := by rw [s0]; simp
    have a9 : γs 6 9 = γ 6 9 + 1 := by rw [s0]; simp
    have a40 : γs 40 (γ 4 4) = 0 := by rw [s0]; simp
    have a39 : γs 39 (γ 4 4) = a1 := by rw [s0]; simp
    have a38 : γs 38 (γ 4 4) = a0 := by rw [s0]; simp
    refine wp_eq ee (RsP.ok ⟨q1, ?_, ?_, ?_⟩ ⟨q2, ?_, fun j k h1 h2 h3 => ?_⟩ ?_ ?_ ?_)
    · refine h.2.1.add (by rw [s0]; simp) (fun j k hj => by rw [s0]; repeat rw [if_neg (by omega)]) ?_ ?_ ?_
      · rw [a8, a9, a40, inS_ext (γ := γ) (fun i _ _ => ⟨by rw [s0]; simp, by rw [s0]; simp⟩)]; omega
      · intro i h1 h2 h3
        rw [s0] at h3
        simp at h3
        have := h.2.1.2.2.2.1 i h1 (by omega) h3
        unfold ClI at this ⊢
        rw [s0 49, s0 50, s0 51, s0 3 9, s0 4 4]
        simp
        omega
      · rw [a38, a39, a40]
        unfold sdK
        omega
    · exact h.2.2.1.ext (fun j k hj => by rw [s0]; repeat rw [if_neg (by omega)])
    · exact h.2.2.2.ext (by omega) (fun k => by rw [s0]; simp)
    · rw [s0]; simp; omega
    · rw [s0]; repeat rw [if_neg (by omega)]
    · rw [s0]; simp
    · rw [s0]; simp
    · rw [s0]; simp; omega
  · unfold f_Er_takeAtom
    rw [if_neg h9]
    exact w_fail h (by omega)
