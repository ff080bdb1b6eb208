/-! equality: the next token takes the top of the stack down -/
theorem reduce_1 {γ : St} {x : Int} {y : Int × St} (hf : γ 1 7 = 0) (h : 0 < γ 6 8) (hr : x ≤ rankK (topK γ)) (e : f_Er_reduce γ x = some y) : rdM γ < 200 ∧ f_Er_reduce (rdS γ) x = some y ∨ 200 ≤ rdM γ ∧ y = (0, flS (rdS γ) 3) := by
  obtain ⟨z, e1, e2⟩ := reduce_s h hr e
  rcases rd1_pc hf z e1 with ⟨a, b⟩ | ⟨a, b⟩
  · subst b
    rcases e2 with ⟨c, d⟩ | ⟨c, d⟩
    · exact absurd (show (1 : Int) = 0 from c) (by decide)
    · exact Or.inl ⟨a, d⟩
  · subst b
    rcases e2 with ⟨c, d⟩ | ⟨c, d⟩
    · exact Or.inr ⟨a, d⟩
    · exact absurd rfl c
theorem rdS_o (γ : St) {j : Nat} {k : Int} (h : j < 38 ∨ 41 < j) (h4 : j = 4 → k ≠ 4) (h6 : j = 6 → k < 8 ∨ 10 < k) (h52 : j ≠ 52) : rdS γ j k = γ j k := by
  unfold rdS
  rw [caS_o _ _ _ _ (by omega) (by omega)]
  show (if _ then _ else _) = _
  rw [if_neg (by omega), if_neg (by omega), if_neg (by omega), if_neg (by omega)]
theorem rdS_8 (γ : St) : rdS γ 6 8 = γ 6 8 - 1 := by
  unfold rdS
  rw [caS_o _ _ _ _ (by omega) (by omega)]
  show (if _ then _ else _) = _
  rw [if_neg (by omega), if_neg (by omega), if_neg (by omega), if_pos ⟨rfl, rfl⟩]
/-- down to which rank a token takes the stack down -/
def lstK (t : Int) : Int := if 0 < rankK t ∧ rankK t < 8 ∧ t ≠ 34 then (if rankK t ≤ 2 ∨ rankK t = 5 then rankK t + 1 else rankK t) else 1
theorem bN_e {ζ : Type} {c : Option (Int × St)} {K : Int → St → Option ζ} {y : ζ} (h : bndN c K = some y) : ∃ z, c = some z ∧ K z.1 z.2 = some y := by
  match c, h with
  | some z, h => exact ⟨z, rfl, h⟩
/-- behind a reduce the same goes on -/
theorem red_bnd {γ : St} {x : Int} {y : Int × St} {K : Int → St → Option (Int × St)} (hf : γ 1 7 = 0) (h : 0 < γ 6 8) (hr : x ≤ rankK (topK γ)) (hK : ∀ γ', K 0 γ' = some (0, γ')) (e : bndN (f_Er_reduce γ x) K = some y) : rdM γ < 200 ∧ bndN (f_Er_reduce (rdS γ) x) K = some y ∨ 200 ≤ rdM γ ∧ y = (0, flS (rdS γ) 3) := by
  obtain ⟨z, e1, e2⟩ := bN_e e
  rcases reduce_1 hf h hr e1 with ⟨a, b⟩ | ⟨a, b⟩
  · refine Or.inl ⟨a, ?_⟩
    rw [b]; exact e2
  · refine Or.inr ⟨a, ?_⟩
    subst b
    rw [hK] at e2
    cases e2; rfl
theorem flush_two {γ : St} {t : Int} {y : Int × St} (hf : γ 1 7 = 0) (h : 0 < γ 6 8) (ht : 0 < rankK t ∧ rankK t < 8 ∧ t ≠ 34) (hr : lstK t ≤ rankK (topK γ)) (e : f_Er_readTwoSided γ t (rankK t) = some y) : rdM γ < 200 ∧ f_Er_readTwoSided (rdS γ) t (rankK t) = some y ∨ 200 ≤ rdM γ ∧ y = (0, flS (rdS γ) 3) := by
  unfold lstK at hr
  rw [if_pos ht] at hr
  have b28 : ∀ x, x ≤ rankK (topK γ) → f_Er_readTwoSided_b28 γ t (rankK t) x = some y → rdM γ < 200 ∧ f_Er_readTwoSided_b28 (rdS γ) t (rankK t) x = some y ∨ 200 ≤ rdM γ ∧ y = (0, flS (rdS γ) 3) := fun x hx e => by
    unfold f_Er_readTwoSided_b28 at e ⊢
    exact red_bnd hf h hx (fun γ' => by rw [if_neg (by decide)]) e
  have b21 : rankK t + 1 ≤ rankK (topK γ) → f_Er_readTwoSided_b21 γ t (rankK t) = some y → rdM γ < 200 ∧ f_Er_readTwoSided_b21 (rdS γ) t (rankK t) = some y ∨ 200 ≤ rdM γ ∧ y = (0, flS (rdS γ) 3) := fun hx e => by
    unfold f_Er_readTwoSided_b21 at e ⊢
    rw [chk_t (by omega)] at e ⊢
    exact b28 _ hx e
  unfold f_Er_readTwoSided f_Er_readTwoSided_b10 at e ⊢
  by_cases c : 2 < rankK t
  · rw [if_pos c, if_neg (show ¬ ((0 : Int) ≠ 0) by decide)] at e ⊢
    by_cases c2 : rankK t ≠ 5
    · rw [if_pos c2] at e ⊢
      rw [if_neg (by omega)] at hr
      exact b28 _ hr e
    · rw [if_neg c2] at e ⊢
      rw [if_pos (by omega)] at hr
      exact b21 hr e
  · rw [if_neg c, if_pos (show (1 : Int) ≠ 0 by decide)] at e ⊢
    rw [if_pos (by omega)] at hr
    exact b21 hr e
theorem flush_75 {γ : St} {t : Int} {y : Int × St} (hf : γ 1 7 = 0) (h : 0 < γ 6 8) (hr : 1 ≤ rankK (topK γ)) (e : f_Er_readOperator_b75 γ t = some y) : rdM γ < 200 ∧ f_Er_readOperator_b75 (rdS γ) t = some y ∨ 200 ≤ rdM γ ∧ y = (0, flS (rdS γ) 3) := by
  unfold f_Er_readOperator_b75 at e ⊢
  exact red_bnd hf h hr (fun γ' => by rw [if_pos rfl]) e
theorem flush_43 {γ : St} {t z : Int} {y : Int × St} (hf : γ 1 7 = 0) (h : 0 < γ 6 8) (hz : z = 0) (hr : lstK t ≤ rankK (topK γ)) (e : f_Er_readOperator_b43 γ t z = some y) : rdM γ < 200 ∧ f_Er_readOperator_b43 (rdS γ) t z = some y ∨ 200 ≤ rdM γ ∧ y = (0, flS (rdS γ) 3) := by
  subst hz
  unfold f_Er_readOperator_b43 at e ⊢
  rw [bndN_eq (f_S_rank_eq _ _)] at e ⊢
  by_cases c1 : rankK t ≤ 0
  · rw [if_pos c1] at e ⊢
    unfold lstK at hr
    rw [if_neg (by omega)] at hr
    exact flush_75 hf h hr e
  · rw [if_neg c1] at e ⊢
    by_cases c2 : 8 ≤ rankK t
    · rw [if_pos c2] at e ⊢
      unfold lstK at hr
      rw [if_neg (by omega)] at hr
      exact flush_75 hf h hr e
    · rw [if_neg c2] at e ⊢
      by_cases c3 : t = 34
      · rw [if_pos c3] at e ⊢
        unfold lstK at hr
        rw [if_neg (by omega)] at hr
        exact flush_75 hf h hr e
      · rw [if_neg c3, if_neg (by decide)] at e ⊢
        obtain ⟨w, e1, e2⟩ := bN_e e
        have e2 : some (w.1, w.2) = some y := e2
        cases e2
        rcases flush_two hf h ⟨by omega, by omega, c3⟩ hr e1 with ⟨a, b⟩ | ⟨a, b⟩
        · exact Or.inl ⟨a, by rw [b]; rfl⟩
        · exact Or.inr ⟨a, by rw [← b]⟩
/-- the next token takes the top of the stack down -/
theorem flush_op {γ : St} {y : Int × St} (hf : γ 1 7 = 0) (h : 0 < γ 6 8) (hm : γ 6 11 = 0 ∨ 1 < γ 6 8) (hw : γ 14 (γ 1 6) ≠ 27) (hr : lstK (γ 14 (γ 1 6)) ≤ rankK (topK γ)) (e : f_Er_readOperator γ = some y) : rdM γ < 200 ∧ f_Er_readOperator (rdS γ) = some y ∨ 200 ≤ rdM γ ∧ y = (0, flS (rdS γ) 3) := by
  have e16 : rdS γ 1 6 = γ 1 6 := rdS_o γ (by omega) (by omega) (by omega) (by omega)
  have e14 : rdS γ 14 (γ 1 6) = γ 14 (γ 1 6) := rdS_o γ (by omega) (by omega) (by omega) (by omega)
  have e11 : rdS γ 6 11 = γ 6 11 := rdS_o γ (by omega) (by omega) (by omega) (by omega)
  have b26 : f_Er_readOperator_b26 γ (γ 14 (γ 1 6)) = some y → rdM γ < 200 ∧ f_Er_readOperator_b26 (rdS γ) (γ 14 (γ 1 6)) = some y ∨ 200 ≤ rdM γ ∧ y = (0, flS (rdS γ) 3) := fun e => by
    unfold f_Er_readOperator_b26 f_Er_readOperator_b27 at e ⊢
    rw [if_pos hw] at e ⊢
    exact flush_43 hf h rfl hr e
  unfold f_Er_readOperator f_Tk_kindNow at e ⊢
  rw [e16, e14]
  obtain ⟨w, e1, e2⟩ := bN_e e
  have c := (chk_e e1).1
  have e3 := (chk_e e1).2
  cases e3
  rw [chk_t c]
  show rdM γ < 200 ∧ (if rdS γ 6 11 = 0 then f_Er_readOperator_b26 (rdS γ) (γ 14 (γ 1 6)) else if rdS γ 6 8 ≠ 0 then f_Er_readOperator_b26 (rdS γ) (γ 14 (γ 1 6)) else f_Er_readOperator_b27 (rdS γ) (γ 14 (γ 1 6)) 1) = some y ∨ _
  rw [e11, rdS_8]
  by_cases q : γ 6 11 = 0
  · rw [if_pos q] at e2 ⊢
    exact b26 e2
  · have e4 : (if γ 6 11 = 0 then f_Er_readOperator_b26 γ (γ 14 (γ 1 6)) else if γ 6 8 ≠ 0 then f_Er_readOperator_b26 γ (γ 14 (γ 1 6)) else f_Er_readOperator_b27 γ (γ 14 (γ 1 6)) 1) = some y := e2
    rw [if_neg q, if_pos (show γ 6 8 ≠ 0 by omega)] at e4
    rw [if_neg q, if_pos (show γ 6 8 - 1 ≠ 0 by omega)]
    exact b26 e4
