/-! equality: the class's lexer, piece by piece -/
theorem skpF_up {b : Int → Int} {L : Int} : ∀ (n : Nat) (p : Int), p ≤ L → L - p < n → skpF b L (n + 1) p = skpF b L n p := by
  intro n
  induction n with
  | zero => intro p h1 h2; exfalso; omega
  | succ n ih =>
    intro p h1 h2
    show (if L ≤ p then p else if b p = 45 ∧ bA b L (p + 1) = 45 then skpF b L (n + 1) (eolF b L FU p) else if b p = 32 ∨ b p = 9 ∨ b p = 10 ∨ b p = 13 then skpF b L (n + 1) (p + 1) else p) = (if L ≤ p then p else if b p = 45 ∧ bA b L (p + 1) = 45 then skpF b L n (eolF b L FU p) else if b p = 32 ∨ b p = 9 ∨ b p = 10 ∨ b p = 13 then skpF b L n (p + 1) else p)
    by_cases q : L ≤ p
    · rw [if_pos q, if_pos q]
    · rw [if_neg q, if_neg q]
      by_cases q2 : b p = 45 ∧ bA b L (p + 1) = 45
      · have e := eolF_b (b := b) (L := L) FU p h1
        have fu := FU_v
        have e3 := e.2.2 (by omega) (by omega) (by omega)
        rw [if_pos q2, if_pos q2, ih _ e.2.1 (by omega)]
      · rw [if_neg q2, if_neg q2]
        by_cases q3 : b p = 32 ∨ b p = 9 ∨ b p = 10 ∨ b p = 13
        · rw [if_pos q3, if_pos q3, ih _ (by omega) (by omega)]
        · rw [if_neg q3, if_neg q3]
/-- what is skipped -/
def skP (b : Int → Int) (L p : Int) : Int := skpF b L FU p
theorem skP_1 {b : Int → Int} {L p : Int} (h0 : 0 ≤ p) (h1 : p < L) (hL : L ≤ 10240) (h : b p = 32 ∨ b p = 9 ∨ b p = 10 ∨ b p = 13) : skP b L p = skP b L (p + 1) := by
  have e : skP b L p = skpF b L 999999 (p + 1) := by
    show (if L ≤ p then p else if b p = 45 ∧ bA b L (p + 1) = 45 then skpF b L 999999 (eolF b L FU p) else if b p = 32 ∨ b p = 9 ∨ b p = 10 ∨ b p = 13 then skpF b L 999999 (p + 1) else p) = _
    rw [if_neg (by omega), if_neg (by omega), if_pos h]
  rw [e]
  exact (skpF_up 999999 (p + 1) (by omega) (by omega)).symm
theorem skP_c {b : Int → Int} {L p : Int} (h0 : 0 ≤ p) (h1 : p < L) (hL : L ≤ 10240) (h : b p = 45 ∧ bA b L (p + 1) = 45) : skP b L p = skP b L (eolF b L FU p) := by
  have eb := eolF_b (b := b) (L := L) FU p (by omega)
  have e : skP b L p = skpF b L 999999 (eolF b L FU p) := by
    show (if L ≤ p then p else if b p = 45 ∧ bA b L (p + 1) = 45 then skpF b L 999999 (eolF b L FU p) else if b p = 32 ∨ b p = 9 ∨ b p = 10 ∨ b p = 13 then skpF b L 999999 (p + 1) else p) = _
    rw [if_neg (by omega), if_pos h]
  rw [e]
  exact (skpF_up 999999 _ eb.2.1 (by omega)).symm
theorem skP_st {b : Int → Int} {L p : Int} (h : Sto b L p) : skP b L p = p := skpF_id h FU
theorem skP_L {b : Int → Int} {L : Int} : skP b L L = L := skP_st (Or.inl (Int.le_refl _))
/-- a sign's kind in the class -/
def sgC (k : Int) : Int := if k = 0 then 0 else if k = 40 then 4 else if k = 41 then 5 else if k = 58 then 6 else if k = 59 then 7 else if k = 44 then 8 else if k = 61 then 9 else if k = 300 then 10 else if k = 60 then 11 else if k = 301 then 12 else if k = 62 then 13 else if k = 302 then 14 else if k = 43 then 15 else if k = 45 then 16 else if k = 42 then 17 else if k = 303 then 18 else if k = 304 then 19 else 1
theorem two_eq (γ : St) (c d : Int) : f_Tk_signOfTwo γ c d = some (if 299 < sgK c d then sgC (sgK c d) else 1, γ) := by
  unfold f_Tk_signOfTwo sgK
  by_cases d1 : d = 62
  · subst d1
    by_cases c1 : c = 60
    · subst c1; rfl
    · by_cases c2 : c = 45
      · subst c2; rfl
      · by_cases c3 : c = 61
        · subst c3; rfl
        · rw [if_neg (by omega), if_pos c1, if_pos c2, if_pos c3]
          congr 2
          by_cases q : c = 40 ∨ c = 41 ∨ c = 42 ∨ c = 43 ∨ c = 44 ∨ c = 58 ∨ c = 59
          · rw [if_pos q, if_neg (by omega)]
          · rw [if_neg q, if_neg c2, if_neg c1, if_neg c3]
            by_cases q2 : c = 62
            · subst q2; rfl
            · rw [if_neg q2, if_neg (by decide)]
  · by_cases d2 : d = 61
    · subst d2
      by_cases c1 : c = 60
      · subst c1; rfl
      · by_cases c2 : c = 62
        · subst c2; rfl
        · rw [if_pos (by omega), if_neg (by omega), if_pos c1, if_pos c2]
          congr 2
          by_cases q : c = 40 ∨ c = 41 ∨ c = 42 ∨ c = 43 ∨ c = 44 ∨ c = 58 ∨ c = 59
          · rw [if_pos q, if_neg (by omega)]
          · rw [if_neg q, if_neg c1, if_neg c2]
            by_cases q2 : c = 45
            · subst q2; rfl
            · rw [if_neg q2]
              by_cases q3 : c = 61
              · subst q3; rfl
              · rw [if_neg q3, if_neg (by decide)]
    · rw [if_pos d1, if_pos d2]
      congr 2
      rw [if_neg d1, if_neg d1, if_neg d2, if_neg d1, if_neg d2, if_neg]
      split
      · omega
      · split
        · omega
        · split
          · omega
          · split
            · omega
            · split <;> omega
theorem one_eq (γ : St) (c d : Int) (h : sgK c d ≤ 299) : f_Tk_signOfOne γ c = some (sgC (sgK c d), γ) := by
  have k : sgK c d = c ∧ (c = 40 ∨ c = 41 ∨ c = 42 ∨ c = 43 ∨ c = 44 ∨ c = 58 ∨ c = 59 ∨ c = 45 ∨ c = 60 ∨ c = 61 ∨ c = 62) ∨ sgK c d = 3 ∧ ¬ (c = 40 ∨ c = 41 ∨ c = 42 ∨ c = 43 ∨ c = 44 ∨ c = 58 ∨ c = 59 ∨ c = 45 ∨ c = 60 ∨ c = 61 ∨ c = 62) := by
    unfold sgK at h ⊢
    split
    · left; constructor
      · rfl
      · omega
    · rename_i q1
      rw [if_neg q1] at h
      split
      · rename_i q2
        rw [if_pos q2] at h
        split
        · rename_i q3
          rw [if_pos q3] at h; exfalso; omega
        · left; constructor
          · rfl
          · omega
      · rename_i q2
        rw [if_neg q2] at h
        split
        · rename_i q3
          rw [if_pos q3] at h
          split
          · rename_i q4
            rw [if_pos q4] at h; exfalso; omega
          · rename_i q4
            rw [if_neg q4] at h
            split
            · rename_i q5
              rw [if_pos q5] at h; exfalso; omega
            · left; constructor
              · rfl
              · omega
        · rename_i q3
          rw [if_neg q3] at h
          split
          · rename_i q4
            rw [if_pos q4] at h
            split
            · rename_i q5
              rw [if_pos q5] at h; exfalso; omega
            · left; constructor
              · rfl
              · omega
          · rename_i q4
            rw [if_neg q4] at h
            split
            · rename_i q5
              rw [if_pos q5] at h
              split
              · rename_i q6
                rw [if_pos q6] at h; exfalso; omega
              · left; constructor
                · rfl
                · omega
            · right; constructor
              · rfl
              · omega
  rcases k with ⟨e, q⟩ | ⟨e, q⟩
  · rw [e]
    rcases q with q | q | q | q | q | q | q | q | q | q | q <;> subst q <;> rfl
  · rw [e]
    unfold f_Tk_signOfOne
    rw [if_neg (by omega), if_neg (by omega), if_neg (by omega), if_neg (by omega), if_neg (by omega), if_neg (by omega), if_neg (by omega), if_neg (by omega), if_neg (by omega), if_neg (by omega), if_neg (by omega)]
    rfl
theorem let_eq (γ : St) (c : Int) : f_Tk_isLetter γ c = some (ltB c, γ) := by
  unfold f_Tk_isLetter f_Tk_isLetter_b12 ltB
  by_cases q : 97 ≤ c ∧ c ≤ 122
  · rw [if_pos q, if_neg (by omega), if_pos (by omega)]
  · rw [if_neg q]
    by_cases q2 : 65 ≤ c ∧ c ≤ 90
    · rw [if_pos q2, if_pos (by omega), if_neg (by omega), if_neg (by omega)]
    · rw [if_neg q2]
      by_cases q3 : c < 97
      · rw [if_pos q3]
        by_cases q4 : c < 65
        · rw [if_pos q4]
        · rw [if_neg q4, if_pos (by omega)]
      · rw [if_neg q3, if_neg (by omega), if_neg (by omega), if_pos (by omega)]
theorem dig_eq (γ : St) (c : Int) : f_Tk_isDigit γ c = some (dgB c, γ) := by
  unfold f_Tk_isDigit dgB
  by_cases q : 48 ≤ c ∧ c ≤ 57
  · rw [if_pos q, if_neg (by omega), if_neg (by omega)]
  · rw [if_neg q]
    by_cases q2 : c < 48
    · rw [if_pos q2]
    · rw [if_neg q2, if_pos (by omega)]
theorem line_eq {γ : St} {L : Int} (hL : L ≤ 10240) : ∀ (n : Nat) (p : Int), 0 ≤ p → p ≤ L → L - p < n → f_Tk_lineEnd_L2 n γ L p = some (eolF (γ 13) L n p, γ) := by
  intro n
  induction n with
  | zero => intro p h0 h1 h2; exfalso; omega
  | succ n ih =>
    intro p h0 h1 h2
    show (if L ≤ p then some (p, γ) else chk (inb p 65638) (if γ 13 p = 10 then some (p, γ) else chk (i32 (p + 1)) (f_Tk_lineEnd_L2 n γ L (p + 1)))) = some (if L ≤ p then p else if γ 13 p = 10 then p else eolF (γ 13) L n (p + 1), γ)
    by_cases q : L ≤ p
    · rw [if_pos q, if_pos q]
    · rw [if_neg q, if_neg q, chk_t (by omega)]
      by_cases q2 : γ 13 p = 10
      · rw [if_pos q2, if_pos q2]
      · rw [if_neg q2, if_neg q2, chk_t (by omega)]
        exact ih (p + 1) (by omega) (by omega) (by omega)
/-- a number's value -/
def nmF (b : Int → Int) (L : Int) : Nat → Int → Int → Int
  | 0, _, x => x
  | n + 1, p, x => if L ≤ p then x else if dgB (b p) = 0 then x else nmF b L n (p + 1) (wr (wr (wr (x * 10) + b p) - 48))
theorem num_eq {γ : St} {a L : Int} {e : St → Int → Int → Int → Int → Option (Int × St)} (hL : L ≤ 10240) : ∀ (n : Nat) (p x : Int), 0 ≤ p → p ≤ L → L - p < n → f_Tk_scanNumber_L5 e n γ a L p x = e γ a L (deF (γ 13) L n p) (nmF (γ 13) L n p x) := by
  intro n
  induction n with
  | zero => intro p x h0 h1 h2; exfalso; omega
  | succ n ih =>
    intro p x h0 h1 h2
    unfold f_Tk_scanNumber_L5
    show _ = e γ a L (if L ≤ p then p else if dgB (γ 13 p) ≠ 0 then deF (γ 13) L n (p + 1) else p) (if L ≤ p then x else if dgB (γ 13 p) = 0 then x else nmF (γ 13) L n (p + 1) (wr (wr (wr (x * 10) + γ 13 p) - 48)))
    by_cases q : L ≤ p
    · rw [if_pos q, if_pos q, if_pos q]
    · rw [if_neg q, if_neg q, if_neg q, chk_t (by omega), bndN_eq (dig_eq γ _)]
      by_cases q2 : dgB (γ 13 p) = 0
      · rw [if_pos q2, if_pos q2, if_neg (fun h => h q2)]
      · rw [if_neg q2, if_neg q2, if_pos q2, chk_t (by omega)]
        show chk (i32 (p + 1)) _ = _
        rw [chk_t (by omega)]
        exact ih (p + 1) _ (by omega) (by omega) (by omega)
theorem word_eq {γ : St} {a L : Int} {e : St → Int → Int → Int → Option (Int × St)} (hL : L ≤ 10240) : ∀ (n : Nat) (p : Int), 0 ≤ p → p ≤ L → L - p < n → f_Tk_scanWord_L2 e n γ a L p = e γ a L (weF (γ 13) L n p) := by
  intro n
  induction n with
  | zero => intro p h0 h1 h2; exfalso; omega
  | succ n ih =>
    intro p h0 h1 h2
    unfold f_Tk_scanWord_L2 f_Tk_scanWord_b42
    show _ = e γ a L (if L ≤ p then p else if ltB (γ 13 p) ≠ 0 ∨ dgB (γ 13 p) ≠ 0 ∨ γ 13 p = 95 then weF (γ 13) L n (p + 1) else p)
    by_cases q : L ≤ p
    · rw [if_pos q, if_pos q]
    · rw [if_neg q, if_neg q, chk_t (by omega), bndN_eq (let_eq γ _)]
      by_cases q2 : ltB (γ 13 p) ≠ 0
      · rw [if_pos q2, if_pos (Or.inl q2), chk_t (by omega)]
        exact ih (p + 1) (by omega) (by omega) (by omega)
      · rw [if_neg q2, chk_t (by omega), bndN_eq (dig_eq γ _)]
        by_cases q3 : dgB (γ 13 p) ≠ 0
        · rw [if_pos q3, if_pos (Or.inr (Or.inl q3)), chk_t (by omega)]
          exact ih (p + 1) (by omega) (by omega) (by omega)
        · rw [if_neg q3, chk_t (by omega)]
          by_cases q4 : γ 13 p = 95
          · rw [if_neg (fun h => h q4), if_pos (Or.inr (Or.inr q4)), chk_t (by omega)]
            exact ih (p + 1) (by omega) (by omega) (by omega)
          · rw [if_pos q4, if_neg (fun h => by
              rcases h with h | h | h
              · exact q2 h
              · exact q3 h
              · exact q4 h)]
theorem weF_st {b : Int → Int} {L : Int} : ∀ (n : Nat) (p : Int), p ≤ L → L - p < n → L ≤ weF b L n p ∨ ¬ (ltB (b (weF b L n p)) ≠ 0 ∨ dgB (b (weF b L n p)) ≠ 0 ∨ b (weF b L n p) = 95) := by
  intro n
  induction n with
  | zero => intro p h1 h2; exfalso; omega
  | succ n ih =>
    intro p h1 h2
    show L ≤ (if L ≤ p then p else if ltB (b p) ≠ 0 ∨ dgB (b p) ≠ 0 ∨ b p = 95 then weF b L n (p + 1) else p) ∨ ¬ (ltB (b (if L ≤ p then p else if ltB (b p) ≠ 0 ∨ dgB (b p) ≠ 0 ∨ b p = 95 then weF b L n (p + 1) else p)) ≠ 0 ∨ dgB (b (if L ≤ p then p else if ltB (b p) ≠ 0 ∨ dgB (b p) ≠ 0 ∨ b p = 95 then weF b L n (p + 1) else p)) ≠ 0 ∨ b (if L ≤ p then p else if ltB (b p) ≠ 0 ∨ dgB (b p) ≠ 0 ∨ b p = 95 then weF b L n (p + 1) else p) = 95)
    by_cases q : L ≤ p
    · rw [if_pos q]; exact Or.inl q
    · rw [if_neg q]
      by_cases q2 : ltB (b p) ≠ 0 ∨ dgB (b p) ≠ 0 ∨ b p = 95
      · rw [if_pos q2]; exact ih (p + 1) (by omega) (by omega)
      · rw [if_neg q2]; exact Or.inr q2
