/-! the reference's lexer, as functions of the tape -/
def bA (b : Int → Int) (L k : Int) : Int := if L ≤ k then 0 else b k
def eolF (b : Int → Int) (L : Int) : Nat → Int → Int
  | 0, p => p
  | n + 1, p => if L ≤ p then p else if b p = 10 then p else eolF b L n (p + 1)
def skpF (b : Int → Int) (L : Int) : Nat → Int → Int
  | 0, p => p
  | n + 1, p => if L ≤ p then p else if b p = 45 ∧ bA b L (p + 1) = 45 then skpF b L n (eolF b L FU p) else if b p = 32 ∨ b p = 9 ∨ b p = 10 ∨ b p = 13 then skpF b L n (p + 1) else p
def ltB (c : Int) : Int := if 97 ≤ c ∧ c ≤ 122 then 1 else if 65 ≤ c ∧ c ≤ 90 then 1 else 0
def dgB (c : Int) : Int := if 48 ≤ c ∧ c ≤ 57 then 1 else 0
def weF (b : Int → Int) (L : Int) : Nat → Int → Int
  | 0, p => p
  | n + 1, p => if L ≤ p then p else if ltB (b p) ≠ 0 ∨ dgB (b p) ≠ 0 ∨ b p = 95 then weF b L n (p + 1) else p
def deF (b : Int → Int) (L : Int) : Nat → Int → Int
  | 0, p => p
  | n + 1, p => if L ≤ p then p else if dgB (b p) ≠ 0 then deF b L n (p + 1) else p
def sgK (c d : Int) : Int := if c = 40 ∨ c = 41 ∨ c = 42 ∨ c = 43 ∨ c = 44 ∨ c = 58 ∨ c = 59 then c else if c = 45 then (if d = 62 then 303 else c) else if c = 60 then (if d = 62 then 300 else if d = 61 then 301 else c) else if c = 61 then (if d = 62 then 304 else c) else if c = 62 then (if d = 61 then 302 else c) else 3
/-- the token at s: what it is, where it ends -/
def tkK (b : Int → Int) (L s : Int) : Int := if L ≤ s then 0 else if ltB (b s) ≠ 0 then (if weF b L FU s - s ≤ 31 then 1 else 3) else if dgB (b s) ≠ 0 then (if deF b L FU s - s ≤ 9 then 2 else 3) else sgK (b s) (bA b L (s + 1))
def tkE (b : Int → Int) (L s : Int) : Int := if L ≤ s then s else if ltB (b s) ≠ 0 then weF b L FU s else if dgB (b s) ≠ 0 then deF b L FU s else if sgK (b s) (bA b L (s + 1)) ≤ 299 then s + 1 else s + 2
theorem eolF_b {b : Int → Int} {L : Int} : ∀ (n : Nat) (p : Int), p ≤ L → p ≤ eolF b L n p ∧ eolF b L n p ≤ L ∧ (0 < n → p < L → b p ≠ 10 → p < eolF b L n p) := by
  intro n
  induction n with
  | zero => intro p h; exact ⟨Int.le_refl _, h, fun q => absurd q (by omega)⟩
  | succ n ih =>
    intro p h
    unfold eolF
    by_cases q : L ≤ p
    · rw [if_pos q]; exact ⟨Int.le_refl _, h, fun _ q2 => by omega⟩
    · rw [if_neg q]
      by_cases q2 : b p = 10
      · rw [if_pos q2]; exact ⟨Int.le_refl _, h, fun _ _ q3 => absurd q2 q3⟩
      · rw [if_neg q2]
        have := ih (p + 1) (by omega)
        exact ⟨by omega, this.2.1, fun _ _ _ => by omega⟩
theorem skpF_b {b : Int → Int} {L : Int} : ∀ (n : Nat) (p : Int), p ≤ L → p ≤ skpF b L n p ∧ skpF b L n p ≤ L := by
  intro n
  induction n with
  | zero => intro p h; exact ⟨Int.le_refl _, h⟩
  | succ n ih =>
    intro p h
    unfold skpF
    by_cases q : L ≤ p
    · rw [if_pos q]; exact ⟨Int.le_refl _, h⟩
    · rw [if_neg q]
      by_cases q2 : b p = 45 ∧ bA b L (p + 1) = 45
      · rw [if_pos q2]
        have e := eolF_b (b := b) FU p h
        have := ih _ e.2.1
        omega
      · rw [if_neg q2]
        by_cases q3 : b p = 32 ∨ b p = 9 ∨ b p = 10 ∨ b p = 13
        · rw [if_pos q3]
          have := ih (p + 1) (by omega)
          omega
        · rw [if_neg q3]; exact ⟨Int.le_refl _, h⟩
theorem weF_b {b : Int → Int} {L : Int} : ∀ (n : Nat) (p : Int), p ≤ L → p ≤ weF b L n p ∧ weF b L n p ≤ L ∧ (0 < n → p < L → ltB (b p) ≠ 0 → p < weF b L n p) := by
  intro n
  induction n with
  | zero => intro p h; exact ⟨Int.le_refl _, h, fun q => absurd q (by omega)⟩
  | succ n ih =>
    intro p h
    unfold weF
    by_cases q : L ≤ p
    · rw [if_pos q]; exact ⟨Int.le_refl _, h, fun _ q2 => by omega⟩
    · rw [if_neg q]
      by_cases q2 : ltB (b p) ≠ 0 ∨ dgB (b p) ≠ 0 ∨ b p = 95
      · rw [if_pos q2]
        have := ih (p + 1) (by omega)
        exact ⟨by omega, this.2.1, fun _ _ _ => by omega⟩
      · rw [if_neg q2]; exact ⟨Int.le_refl _, h, fun _ _ q3 => absurd (Or.inl q3) q2⟩
theorem deF_b {b : Int → Int} {L : Int} : ∀ (n : Nat) (p : Int), p ≤ L → p ≤ deF b L n p ∧ deF b L n p ≤ L ∧ (0 < n → p < L → dgB (b p) ≠ 0 → p < deF b L n p) := by
  intro n
  induction n with
  | zero => intro p h; exact ⟨Int.le_refl _, h, fun q => absurd q (by omega)⟩
  | succ n ih =>
    intro p h
    unfold deF
    by_cases q : L ≤ p
    · rw [if_pos q]; exact ⟨Int.le_refl _, h, fun _ q2 => by omega⟩
    · rw [if_neg q]
      by_cases q2 : dgB (b p) ≠ 0
      · rw [if_pos q2]
        have := ih (p + 1) (by omega)
        exact ⟨by omega, this.2.1, fun _ _ _ => by omega⟩
      · rw [if_neg q2]; exact ⟨Int.le_refl _, h, fun _ _ q3 => absurd q3 q2⟩
theorem sgK_two {c d : Int} (h : 299 < sgK c d) : d ≠ 0 ∧ c ≤ 62 ∨ 299 < c := by
  unfold sgK at h
  grind (splits := 40)
theorem tkE_b {b : Int → Int} {L s : Int} (h : s ≤ L) : s ≤ tkE b L s ∧ tkE b L s ≤ L ∨ s < L ∧ 299 < b s := by
  have := FU_v
  unfold tkE
  by_cases q : L ≤ s
  · rw [if_pos q]; exact Or.inl ⟨Int.le_refl _, h⟩
  · rw [if_neg q]
    by_cases q2 : ltB (b s) ≠ 0
    · rw [if_pos q2]
      have := weF_b (b := b) FU s h
      exact Or.inl ⟨this.1, this.2.1⟩
    · rw [if_neg q2]
      by_cases q3 : dgB (b s) ≠ 0
      · rw [if_pos q3]
        have := deF_b (b := b) FU s h
        exact Or.inl ⟨this.1, this.2.1⟩
      · rw [if_neg q3]
        by_cases q4 : sgK (b s) (bA b L (s + 1)) ≤ 299
        · rw [if_pos q4]; exact Or.inl (by omega)
        · rw [if_neg q4]
          have t := sgK_two (c := b s) (d := bA b L (s + 1)) (by omega)
          rcases t with t | t
          · have : bA b L (s + 1) ≠ 0 := t.1
            unfold bA at this
            by_cases q5 : L ≤ s + 1
            · rw [if_pos q5] at this; exact absurd rfl this
            · exact Or.inl (by omega)
          · exact Or.inr ⟨by omega, t⟩
theorem tkE_lt {b : Int → Int} {L s : Int} (h : s < L) : s < tkE b L s := by
  have := FU_v
  unfold tkE
  rw [if_neg (by omega)]
  by_cases q2 : ltB (b s) ≠ 0
  · rw [if_pos q2]
    exact (weF_b (b := b) FU s (by omega)).2.2 (by omega) h q2
  · rw [if_neg q2]
    by_cases q3 : dgB (b s) ≠ 0
    · rw [if_pos q3]
      exact (deF_b (b := b) FU s (by omega)).2.2 (by omega) h q3
    · rw [if_neg q3]
      split <;> omega
theorem tkK_0 {b : Int → Int} {L s : Int} (h : tkK b L s ≠ 0) : s < L := by
  unfold tkK at h
  by_cases q : L ≤ s
  · rw [if_pos q] at h; exact absurd rfl h
  · omega
theorem setA_self {γ : St} {j : Nat} {i : Int} : setA γ j i (γ j i) = γ := by
  funext g k
  rw [stA]
  by_cases q : g = j ∧ k = i
  · rw [if_pos q, q.1, q.2]
  · rw [if_neg q]
theorem setA_setA {γ : St} {j : Nat} {i v w : Int} : setA (setA γ j i v) j i w = setA γ j i w := by
  funext g k
  rw [stA, stA, stA]
  by_cases q : g = j ∧ k = i
  · rw [if_pos q, if_pos q]
  · rw [if_neg q, if_neg q, if_neg q]
theorem digit_eq (γ : St) (c : Int) : f_M_digit γ c = some (dgB c, γ) := by
  unfold f_M_digit dgB
  by_cases q : c < 48
  · rw [if_pos q, if_neg (by omega)]
  · rw [if_neg q]
    by_cases q2 : 57 < c
    · rw [if_pos q2, if_neg (by omega)]
    · rw [if_neg q2, if_pos (by omega)]
theorem letter_eq (γ : St) (c : Int) : f_M_letter γ c = some (ltB c, γ) := by
  unfold f_M_letter f_M_letter_b12 ltB
  grind (splits := 20)
theorem sign_eq (γ : St) (c d : Int) : f_M_sign γ c d = some (sgK c d, γ) := by
  unfold f_M_sign sgK
  grind (splits := 60)
theorem byteAt_eq {γ : St} {k : Int} (h : 0 ≤ k) (hL : γ 0 1 ≤ 10240) : f_M_byteAt γ k = some (bA (γ 1) (γ 0 1) k, γ) := by
  unfold f_M_byteAt bA
  by_cases q : γ 0 1 ≤ k
  · rw [if_pos q, if_pos q]
  · rw [if_neg q, if_neg q]
    exact some_wp (wp_chk (by omega) (wp_some rfl))
theorem parts_L42_eq {x : St → Option (Int × St)} : ∀ (n : Nat) (γ : St), γ 0 1 ≤ 10240 → 0 ≤ γ 0 5 → γ 0 5 ≤ γ 0 1 → γ 0 1 - γ 0 5 < n → f_M_parts_L42 x n γ = x (setA γ 0 5 (eolF (γ 1) (γ 0 1) n (γ 0 5))) := by
  intro n
  induction n with
  | zero => intro γ h1 h2 h3 h4; exfalso; omega
  | succ n ih =>
    intro γ h1 h2 h3 h4
    unfold f_M_parts_L42 eolF
    by_cases q : γ 0 1 ≤ γ 0 5
    · rw [if_pos q, if_pos q, setA_self]
    · rw [if_neg q, if_neg q, chk_t (show inb (γ 0 5) 65536 by omega)]
      by_cases q2 : γ 1 (γ 0 5) = 10
      · rw [if_pos q2, if_pos q2, setA_self]
      · rw [if_neg q2, if_neg q2, chk_t (show i32 (γ 0 5 + 1) by omega)]
        show f_M_parts_L42 x n (setA γ 0 5 (γ 0 5 + 1)) = _
        have e1 : setA γ 0 5 (γ 0 5 + 1) 0 1 = γ 0 1 := by rw [stA, if_neg (by omega)]
        have e5 : setA γ 0 5 (γ 0 5 + 1) 0 5 = γ 0 5 + 1 := by rw [stA, if_pos ⟨rfl, rfl⟩]
        have eb : setA γ 0 5 (γ 0 5 + 1) 1 = γ 1 := funext fun k => by rw [stA, if_neg (by omega)]
        rw [ih _ (by omega) (by omega) (by omega) (by omega), e1, e5, eb, setA_setA]
theorem parts_L0_eq : ∀ (n : Nat) (γ : St), γ 0 1 ≤ 10240 → 0 ≤ γ 0 5 → γ 0 5 ≤ γ 0 1 → γ 0 1 - γ 0 5 < n → f_M_parts_L0 n γ = some (0, setA γ 0 5 (skpF (γ 1) (γ 0 1) n (γ 0 5))) := by
  have := FU_v
  intro n
  induction n with
  | zero => intro γ h1 h2 h3 h4; exfalso; omega
  | succ n ih =>
    intro γ h1 h2 h3 h4
    have nx : ∀ p, 0 ≤ p → γ 0 5 < p → p ≤ γ 0 1 → f_M_parts_L0 n (setA γ 0 5 p) = some (0, setA γ 0 5 (skpF (γ 1) (γ 0 1) n p)) := fun p r0 r1 r2 => by
      have e1 : setA γ 0 5 p 0 1 = γ 0 1 := by rw [stA, if_neg (by omega)]
      have e5 : setA γ 0 5 p 0 5 = p := by rw [stA, if_pos ⟨rfl, rfl⟩]
      have eb : setA γ 0 5 p 1 = γ 1 := funext fun k => by rw [stA, if_neg (by omega)]
      rw [ih _ (by omega) (by omega) (by omega) (by omega), e1, e5, eb, setA_setA]
    have b80 : γ 0 5 < γ 0 1 → f_M_parts_b80 (f_M_parts_L0 n) γ (γ 1 (γ 0 5)) = some (0, setA γ 0 5 (if γ 1 (γ 0 5) = 32 ∨ γ 1 (γ 0 5) = 9 ∨ γ 1 (γ 0 5) = 10 ∨ γ 1 (γ 0 5) = 13 then skpF (γ 1) (γ 0 1) n (γ 0 5 + 1) else γ 0 5)) := fun lt => by
      have b104 : f_M_parts_b104 (f_M_parts_L0 n) γ = some (0, setA γ 0 5 (skpF (γ 1) (γ 0 1) n (γ 0 5 + 1))) := by
        unfold f_M_parts_b104 f_M_parts_b118
        rw [chk_t (show i32 (γ 0 5 + 1) by omega)]
        exact nx _ (by omega) (by omega) (by omega)
      unfold f_M_parts_b80
      by_cases q1 : γ 1 (γ 0 5) = 32
      · rw [if_pos q1, if_pos (Or.inl q1)]; exact b104
      · rw [if_neg q1]
        by_cases q2 : γ 1 (γ 0 5) = 9
        · rw [if_pos q2, if_pos (Or.inr (Or.inl q2))]; exact b104
        · rw [if_neg q2]
          by_cases q3 : γ 1 (γ 0 5) = 10
          · rw [if_pos q3, if_pos (Or.inr (Or.inr (Or.inl q3)))]; exact b104
          · rw [if_neg q3]
            by_cases q4 : γ 1 (γ 0 5) ≠ 13
            · rw [if_pos q4, if_neg (by omega), setA_self]
            · rw [if_neg q4, if_pos (by omega)]; exact b104
    unfold f_M_parts_L0 skpF
    by_cases q : γ 0 1 ≤ γ 0 5
    · rw [if_pos q, if_pos q, setA_self]
    · rw [if_neg q, if_neg q, chk_t (show inb (γ 0 5) 65536 by omega)]
      show (if γ 1 (γ 0 5) ≠ 45 then _ else _) = _
      by_cases q2 : γ 1 (γ 0 5) ≠ 45
      · rw [if_pos q2, if_neg (fun r => q2 r.1)]; exact b80 (by omega)
      · rw [if_neg q2, chk_t (show i32 (γ 0 5 + 1) by omega), bndN_eq (byteAt_eq (by omega) h1)]
        by_cases q3 : bA (γ 1) (γ 0 1) (γ 0 5 + 1) ≠ 45
        · rw [if_pos q3, if_neg (fun r => q3 r.2)]; exact b80 (by omega)
        · rw [if_neg q3, if_pos ⟨by omega, by omega⟩, parts_L42_eq FU γ h1 h2 h3 (by omega)]
          unfold f_M_parts_b118
          have e := eolF_b (b := γ 1) FU (γ 0 5) h3
          exact nx _ (by omega) (e.2.2 (by omega) (by omega) (by omega)) e.2.1
/-- where the next token begins -/
def sk (γ : St) : Int := skpF (γ 1) (γ 0 1) FU (γ 0 5)
theorem parts_eq {γ : St} (h1 : γ 0 1 ≤ 10240) (h2 : 0 ≤ γ 0 5) (h3 : γ 0 5 ≤ γ 0 1) : f_M_parts γ = some (0, setA γ 0 5 (sk γ)) := by
  have := FU_v
  unfold f_M_parts sk
  exact parts_L0_eq FU γ h1 h2 h3 (by omega)
