/-! equality: the class's loop over a right side -/
/-- the loop goes on while nothing is wrong -/
def LpC (γ : St) (i : Int) : Prop := γ 6 14 = 0 ∧ i < γ 1 5
theorem lp_0 (n : Nat) (γ : St) (i : Int) {y : Int × St} (e : f_Er_readRightSide_L57 n γ 0 i = some y) : y = (0, γ) := by
  cases n with
  | zero => cases e
  | succ n =>
    unfold f_Er_readRightSide_L57 at e
    rw [if_pos rfl] at e
    have e2 := (chk_e e).2
    cases e2; rfl
theorem lp_op (n : Nat) (γ : St) (i : Int) (h : LpC γ i) (hd : γ 6 12 = 0) : f_Er_readRightSide_L57 (n + 1) γ 1 i = bndN (f_Er_readOperator γ) fun r15 γ16 => chk (i32 (i + 1)) (f_Er_readRightSide_L57 n γ16 r15 (i + 1)) := by
  rw [f_Er_readRightSide_L57, if_neg (show ¬ (1 : Int) = 0 by decide), if_neg (show ¬ (γ 6 14 ≠ 0) from fun r => r h.1), if_neg (show ¬ γ 1 5 ≤ i by have := h.2; omega), if_pos hd]
  rfl
theorem lp_or (n : Nat) (γ : St) (i : Int) (h : LpC γ i) (hd : γ 6 12 ≠ 0) : f_Er_readRightSide_L57 (n + 1) γ 1 i = bndN (f_Er_readOperand γ) fun r15 γ16 => chk (i32 (i + 1)) (f_Er_readRightSide_L57 n γ16 r15 (i + 1)) := by
  rw [f_Er_readRightSide_L57, if_neg (show ¬ (1 : Int) = 0 by decide), if_neg (show ¬ (γ 6 14 ≠ 0) from fun r => r h.1), if_neg (show ¬ γ 1 5 ≤ i by have := h.2; omega), if_neg hd]
  rfl
/-- one step of reduce, done the moment the reference does it -/
theorem pq_flush {α : Type} {m : Option α} {Q : Int × St → α → Prop} {γ : St} {n : Nat} {i : Int} (h : LpC γ i) (hd : γ 6 12 = 0) (hf : γ 1 7 = 0) (hs : 0 < γ 6 8) (hm : γ 6 11 = 0 ∨ 1 < γ 6 8) (hw : γ 14 (γ 1 6) ≠ 27) (hr : lstK (γ 14 (γ 1 6)) ≤ rankK (topK γ)) (h1 : rdM γ < 200 → pq (f_Er_readRightSide_L57 n (rdS γ) 1 i) m Q) (h2 : 200 ≤ rdM γ → pq (some (0, flS (rdS γ) 3)) m Q) : pq (f_Er_readRightSide_L57 n γ 1 i) m Q := by
  cases n with
  | zero => exact pq_nl
  | succ n =>
    have o : ∀ (j : Nat) (k : Int), j = 1 ∨ j = 6 ∧ 10 < k → rdS γ j k = γ j k := fun j k q => rdS_o γ (by omega) (by omega) (by omega) (by omega)
    have h' : LpC (rdS γ) i := ⟨by rw [o 6 14 (by omega)]; exact h.1, by rw [o 1 5 (by omega)]; exact h.2⟩
    have hd' : rdS γ 6 12 = 0 := by rw [o 6 12 (by omega)]; exact hd
    intro y z e1 e2
    rw [lp_op n γ i h hd] at e1
    obtain ⟨w, e3, e4⟩ := bN_e e1
    rcases flush_op hf hs hm hw hr e3 with ⟨a, b⟩ | ⟨a, b⟩
    · refine h1 a y z ?_ e2
      rw [lp_op n (rdS γ) i h' hd', b]
      exact e4
    · subst b
      have e5 := (chk_e e4).2
      have e6 := lp_0 n _ _ e5
      subst e6
      exact h2 a _ z rfl e2
/-- a second comparison behind a comparison: the class takes all down, and says no -/
def Dm (γ : St) : Option (Int × St) := bndN (f_Er_reduce γ 1) fun r19 γ20 => if r19 = 0 then some (0, γ20) else bndN (f_Tk_fail γ20 1) fun _ γ23 => some (0, γ23)
theorem pq_dflush {α : Type} {m : Option α} {Q : Int × St → α → Prop} {γ : St} (hf : γ 1 7 = 0) (hs : 0 < γ 6 8) (hr : 1 ≤ rankK (topK γ)) (h1 : rdM γ < 200 → pq (Dm (rdS γ)) m Q) (h2 : 200 ≤ rdM γ → pq (some (0, flS (rdS γ) 3)) m Q) : pq (Dm γ) m Q := by
  intro y z e1 e2
  unfold Dm at e1
  rcases red_bnd hf hs hr (fun γ' => by rw [if_pos rfl]) e1 with ⟨a, b⟩ | ⟨a, b⟩
  · exact h1 a y z b e2
  · subst b
    exact h2 a _ z rfl e2
