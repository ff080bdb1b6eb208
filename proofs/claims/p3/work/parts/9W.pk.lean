/-! the reference's lexer: peek, take -/
def Sto (b : Int → Int) (L q : Int) : Prop := L ≤ q ∨ ¬ (b q = 45 ∧ bA b L (q + 1) = 45) ∧ ¬ (b q = 32 ∨ b q = 9 ∨ b q = 10 ∨ b q = 13)
theorem skpF_st {b : Int → Int} {L : Int} : ∀ (n : Nat) (p : Int), p ≤ L → L - p < n → Sto b L (skpF b L n p) := by
  have := FU_v
  intro n
  induction n with
  | zero => intro p h h2; exfalso; omega
  | succ n ih =>
    intro p h h2
    unfold skpF
    by_cases q : L ≤ p
    · rw [if_pos q]; exact Or.inl q
    · rw [if_neg q]
      by_cases q2 : b p = 45 ∧ bA b L (p + 1) = 45
      · rw [if_pos q2]
        have e := eolF_b (b := b) FU p h
        have e2 := e.2.2 (by omega) (by omega) (by omega)
        exact ih _ e.2.1 (by omega)
      · rw [if_neg q2]
        by_cases q3 : b p = 32 ∨ b p = 9 ∨ b p = 10 ∨ b p = 13
        · rw [if_pos q3]
          exact ih (p + 1) (by omega) (by omega)
        · rw [if_neg q3]; exact Or.inr ⟨q2, q3⟩
theorem skpF_id {b : Int → Int} {L q : Int} (h : Sto b L q) : ∀ n : Nat, skpF b L n q = q := by
  intro n
  cases n with
  | zero => rfl
  | succ n =>
    unfold skpF
    by_cases r : L ≤ q
    · rw [if_pos r]
    · rcases h with h | h
      · exact absurd h r
      · rw [if_neg r, if_neg h.1, if_neg h.2]
/-- what peek leaves -/
def pkS (γ : St) : St := fun j k => if j = 0 ∧ k = 5 then sk γ else if j = 0 ∧ k = 6 then tkK (γ 1) (γ 0 1) (sk γ) else if j = 0 ∧ k = 7 then sk γ else if j = 0 ∧ k = 8 then tkE (γ 1) (γ 0 1) (sk γ) else if j = 0 ∧ k = 9 then 1 else γ j k
/-- the lexer's state -/
def LX (γ : St) : Prop := (0 ≤ γ 0 1 ∧ γ 0 1 ≤ 10240) ∧ (0 ≤ γ 0 5 ∧ γ 0 5 ≤ γ 0 1) ∧ (∀ k, γ 1 k ≤ 127) ∧ (γ 0 9 = 0 ∨ γ 0 9 = 1 ∧ pkS γ = γ)
theorem LX.skb {γ : St} (h : LX γ) : γ 0 5 ≤ sk γ ∧ sk γ ≤ γ 0 1 ∧ Sto (γ 1) (γ 0 1) (sk γ) := by
  have := FU_v
  have ⟨a1, a2, a3, a4⟩ := h
  have b := skpF_b (b := γ 1) (L := γ 0 1) FU (γ 0 5) a2.2
  exact ⟨b.1, b.2, skpF_st FU _ a2.2 (by omega)⟩
theorem LX.te {γ : St} (h : LX γ) : sk γ ≤ tkE (γ 1) (γ 0 1) (sk γ) ∧ tkE (γ 1) (γ 0 1) (sk γ) ≤ γ 0 1 := by
  have s := h.skb
  rcases tkE_b (b := γ 1) s.2.1 with q | q
  · exact q
  · have := h.2.2.1 (sk γ); omega
theorem pkS_1 (γ : St) : pkS γ 1 = γ 1 := funext fun k => by show (if _ then _ else _) = _; repeat rw [if_neg (by omega)]
theorem pkS_o (γ : St) (j : Nat) (k : Int) (h : j ≠ 0 ∨ k < 5 ∨ 9 < k) : pkS γ j k = γ j k := by show (if _ then _ else _) = _; repeat rw [if_neg (by omega)]
theorem pkS_5 (γ : St) : pkS γ 0 5 = sk γ := by show (if _ then _ else _) = _; rw [if_pos ⟨rfl, rfl⟩]
theorem pkS_6 (γ : St) : pkS γ 0 6 = tkK (γ 1) (γ 0 1) (sk γ) := by show (if _ then _ else _) = _; rw [if_neg (by omega), if_pos ⟨rfl, rfl⟩]
theorem pkS_7 (γ : St) : pkS γ 0 7 = sk γ := by show (if _ then _ else _) = _; rw [if_neg (by omega), if_neg (by omega), if_pos ⟨rfl, rfl⟩]
theorem pkS_8 (γ : St) : pkS γ 0 8 = tkE (γ 1) (γ 0 1) (sk γ) := by show (if _ then _ else _) = _; rw [if_neg (by omega), if_neg (by omega), if_neg (by omega), if_pos ⟨rfl, rfl⟩]
theorem pkS_9 (γ : St) : pkS γ 0 9 = 1 := by show (if _ then _ else _) = _; rw [if_neg (by omega), if_neg (by omega), if_neg (by omega), if_neg (by omega), if_pos ⟨rfl, rfl⟩]
theorem pkS_sk {γ : St} (h : LX γ) : sk (pkS γ) = sk γ := by
  show skpF (pkS γ 1) (pkS γ 0 1) FU (pkS γ 0 5) = _
  rw [pkS_1, pkS_o γ 0 1 (by omega), pkS_5]
  exact skpF_id h.skb.2.2 FU
theorem pkS_pk {γ : St} (h : LX γ) : pkS (pkS γ) = pkS γ := by
  funext j k
  have e : ∀ (γ' : St), pkS γ' j k = if j = 0 ∧ k = 5 then sk γ' else if j = 0 ∧ k = 6 then tkK (γ' 1) (γ' 0 1) (sk γ') else if j = 0 ∧ k = 7 then sk γ' else if j = 0 ∧ k = 8 then tkE (γ' 1) (γ' 0 1) (sk γ') else if j = 0 ∧ k = 9 then 1 else γ' j k := fun _ => rfl
  rw [e (pkS γ), pkS_sk h, pkS_1, pkS_o γ 0 1 (by omega), e γ]
  by_cases q1 : j = 0 ∧ k = 5
  · rw [if_pos q1, if_pos q1]
  · by_cases q2 : j = 0 ∧ k = 6
    · simp only [if_neg q1, if_pos q2]
    · by_cases q3 : j = 0 ∧ k = 7
      · simp only [if_neg q1, if_neg q2, if_pos q3]
      · by_cases q4 : j = 0 ∧ k = 8
        · simp only [if_neg q1, if_neg q2, if_neg q3, if_pos q4]
        · by_cases q5 : j = 0 ∧ k = 9
          · simp only [if_neg q1, if_neg q2, if_neg q3, if_neg q4, if_pos q5]
          · simp only [if_neg q1, if_neg q2, if_neg q3, if_neg q4, if_neg q5]
theorem LX.pk {γ : St} (h : LX γ) : LX (pkS γ) := by
  have ⟨a1, a2, a3, a4⟩ := h
  have s := h.skb
  refine ⟨by rw [pkS_o γ 0 1 (by omega)]; exact a1, by rw [pkS_5, pkS_o γ 0 1 (by omega)]; omega, fun k => by rw [pkS_1]; exact a3 k, Or.inr ⟨pkS_9 γ, pkS_pk h⟩⟩
theorem peek_L72_eq {x : St → Option (Int × St)} : ∀ (n : Nat) (γ : St), γ 0 1 ≤ 10240 → 0 ≤ γ 0 8 → γ 0 8 ≤ γ 0 1 → γ 0 1 - γ 0 8 < n → f_M_peek_L72 x n γ = x (setA γ 0 8 (weF (γ 1) (γ 0 1) n (γ 0 8))) := by
  intro n
  induction n with
  | zero => intro γ h1 h2 h3 h4; exfalso; omega
  | succ n ih =>
    intro γ h1 h2 h3 h4
    have nx : γ 0 8 < γ 0 1 → f_M_peek_b127 (f_M_peek_L72 x n) x γ = x (setA γ 0 8 (weF (γ 1) (γ 0 1) n (γ 0 8 + 1))) := fun lt => by
      unfold f_M_peek_b127
      rw [chk_t (show i32 (γ 0 8 + 1) by omega)]
      show f_M_peek_L72 x n (setA γ 0 8 (γ 0 8 + 1)) = _
      have e1 : setA γ 0 8 (γ 0 8 + 1) 0 1 = γ 0 1 := by rw [stA, if_neg (by omega)]
      have e5 : setA γ 0 8 (γ 0 8 + 1) 0 8 = γ 0 8 + 1 := by rw [stA, if_pos ⟨rfl, rfl⟩]
      have eb : setA γ 0 8 (γ 0 8 + 1) 1 = γ 1 := funext fun k => by rw [stA, if_neg (by omega)]
      rw [ih _ (by omega) (by omega) (by omega) (by omega), e1, e5, eb, setA_setA]
    unfold f_M_peek_L72 weF
    by_cases q : γ 0 1 ≤ γ 0 8
    · rw [if_pos q, if_pos q, setA_self]
    · rw [if_neg q, if_neg q, chk_t (show inb (γ 0 8) 65536 by omega), bndN_eq (letter_eq _ _)]
      by_cases q2 : ltB (γ 1 (γ 0 8)) ≠ 0
      · rw [if_pos q2, if_pos (Or.inl q2)]; exact nx (by omega)
      · rw [if_neg q2, chk_t (show inb (γ 0 8) 65536 by omega), bndN_eq (digit_eq _ _)]
        by_cases q3 : dgB (γ 1 (γ 0 8)) ≠ 0
        · rw [if_pos q3, if_pos (Or.inr (Or.inl q3))]; exact nx (by omega)
        · rw [if_neg q3, chk_t (show inb (γ 0 8) 65536 by omega)]
          by_cases q4 : γ 1 (γ 0 8) ≠ 95
          · rw [if_pos q4, if_neg (by intro r; rcases r with r | r | r; exact q2 r; exact q3 r; exact q4 r), setA_self]
          · rw [if_neg q4, if_pos (Or.inr (Or.inr (by omega)))]; exact nx (by omega)
theorem peek_L173_eq {x : St → Option (Int × St)} : ∀ (n : Nat) (γ : St), γ 0 1 ≤ 10240 → 0 ≤ γ 0 8 → γ 0 8 ≤ γ 0 1 → γ 0 1 - γ 0 8 < n → f_M_peek_L173 x n γ = x (setA γ 0 8 (deF (γ 1) (γ 0 1) n (γ 0 8))) := by
  intro n
  induction n with
  | zero => intro γ h1 h2 h3 h4; exfalso; omega
  | succ n ih =>
    intro γ h1 h2 h3 h4
    unfold f_M_peek_L173 deF
    by_cases q : γ 0 1 ≤ γ 0 8
    · rw [if_pos q, if_pos q, setA_self]
    · rw [if_neg q, if_neg q, chk_t (show inb (γ 0 8) 65536 by omega), bndN_eq (digit_eq _ _)]
      by_cases q3 : dgB (γ 1 (γ 0 8)) = 0
      · rw [if_pos q3, if_neg (fun r => r q3), setA_self]
      · rw [if_neg q3, if_pos q3, chk_t (show i32 (γ 0 8 + 1) by omega)]
        show f_M_peek_L173 x n (setA γ 0 8 (γ 0 8 + 1)) = _
        have e1 : setA γ 0 8 (γ 0 8 + 1) 0 1 = γ 0 1 := by rw [stA, if_neg (by omega)]
        have e5 : setA γ 0 8 (γ 0 8 + 1) 0 8 = γ 0 8 + 1 := by rw [stA, if_pos ⟨rfl, rfl⟩]
        have eb : setA γ 0 8 (γ 0 8 + 1) 1 = γ 1 := funext fun k => by rw [stA, if_neg (by omega)]
        rw [ih _ (by omega) (by omega) (by omega) (by omega), e1, e5, eb, setA_setA]
set_option maxHeartbeats 1000000 in
theorem peek_eq {γ : St} (h : LX γ) : f_M_peek γ = some (tkK (γ 1) (γ 0 1) (sk γ), pkS γ) := by
  have ⟨a1, a2, a3, a4⟩ := h
  have s := h.skb
  have := FU_v
  unfold f_M_peek
  by_cases q : γ 0 9 = 0
  · rw [if_pos q, bndN_eq (parts_eq a1.2 a2.1 a2.2)]
    have p : ∀ v8 v6 : Int, v8 = tkE (γ 1) (γ 0 1) (sk γ) → v6 = tkK (γ 1) (γ 0 1) (sk γ) → ∀ γ' : St, (∀ j k, γ' j k = if j = 0 ∧ k = 6 then v6 else if j = 0 ∧ k = 8 then v8 else if j = 0 ∧ k = 7 then sk γ else if j = 0 ∧ k = 9 then 1 else if j = 0 ∧ k = 5 then sk γ else γ j k) → γ' = pkS γ := fun v8 v6 e8 e6 γ' e => by
      funext j k
      rw [e, e8, e6]
      show _ = (if _ then _ else _)
      grind (splits := 20)
    refine some_wp (wp_sub (wp_sub (wp_sub (wp_sub ?_))))
    generalize hg : setA _ 0 6 0 = γ2
    have c : ∀ j k, γ2 j k = if j = 0 ∧ k = 6 then 0 else if j = 0 ∧ k = 8 then sk γ else if j = 0 ∧ k = 7 then sk γ else if j = 0 ∧ k = 9 then 1 else if j = 0 ∧ k = 5 then sk γ else γ j k := fun j k => by rw [← hg]; simp [stA]
    have c5 : γ2 0 5 = sk γ := by rw [c]; simp
    have c1 : γ2 0 1 = γ 0 1 := by rw [c]; simp
    have c8 : γ2 0 8 = sk γ := by rw [c]; simp
    have cb : γ2 1 = γ 1 := funext fun k => by rw [c]; simp
    rw [c5, c1]
    refine wp_ite (fun q1 => ?_) (fun q1 => wp_some ?_)
    · refine wp_chk (by omega) (wp_sub ?_)
      rw [cb]
      refine wp_bs (letter_eq _ _) (wp_ite (fun q2 => wp_bs (digit_eq _ _) (wp_ite (fun q3 => ?_) (fun q3 => ?_))) (fun q2 => ?_))
      · rw [c5]
        refine wp_chk (by omega) (wp_sub ?_)
        have d5 : setA γ2 0 8 (sk γ + 1) 0 5 = sk γ := by rw [stA, if_neg (by omega)]; exact c5
        have d1 : setA γ2 0 8 (sk γ + 1) 0 1 = γ 0 1 := by rw [stA, if_neg (by omega)]; exact c1
        have db : setA γ2 0 8 (sk γ + 1) 1 = γ 1 := funext fun k => by rw [stA, if_neg (by omega), cb]
        rw [d5]
        refine wp_chk (by omega) (wp_bs (byteAt_eq (by omega) (by rw [d1]; exact a1.2)) (wp_bs (sign_eq _ _ _) (wp_sub ?_)))
        rw [d1, db]
        have eK : tkK (γ 1) (γ 0 1) (sk γ) = sgK (γ 1 (sk γ)) (bA (γ 1) (γ 0 1) (sk γ + 1)) := by
          unfold tkK
          rw [if_neg (by omega), if_neg (by omega), if_neg (by omega)]
        have eE : tkE (γ 1) (γ 0 1) (sk γ) = if sgK (γ 1 (sk γ)) (bA (γ 1) (γ 0 1) (sk γ + 1)) ≤ 299 then sk γ + 1 else sk γ + 2 := by
          unfold tkE
          rw [if_neg (by omega), if_neg (by omega), if_neg (by omega)]
        generalize hv : sgK (γ 1 (sk γ)) (bA (γ 1) (γ 0 1) (sk γ + 1)) = v at *
        have e6 : setA (setA γ2 0 8 (sk γ + 1)) 0 6 v 0 6 = v := by rw [stA, if_pos ⟨rfl, rfl⟩]
        have e8 : setA (setA γ2 0 8 (sk γ + 1)) 0 6 v 0 8 = sk γ + 1 := by rw [stA, if_neg (by omega), stA, if_pos ⟨rfl, rfl⟩]
        rw [e6, e8]
        refine wp_ite (fun q4 => wp_some ?_) (fun q4 => wp_chk (by omega) (wp_sub (wp_some ?_)))
        · rw [if_pos q4] at eE
          rw [p (sk γ + 1) v eE.symm eK.symm (setA (setA γ2 0 8 (sk γ + 1)) 0 6 v) (fun j k => by rw [stA, stA, c]; grind (splits := 20)), eK]
        · rw [if_neg q4] at eE
          have pp := p (sk γ + 1 + 1) v (by omega) eK.symm (setA (setA (setA γ2 0 8 (sk γ + 1)) 0 6 v) 0 8 (sk γ + 1 + 1)) (fun j k => by rw [stA, stA, stA, c]; grind (splits := 20))
          rw [pp, pkS_6]
      · have eE : tkE (γ 1) (γ 0 1) (sk γ) = deF (γ 1) (γ 0 1) FU (sk γ) := by
          unfold tkE
          rw [if_neg (by omega), if_neg (by omega), if_pos q3]
        have eK : tkK (γ 1) (γ 0 1) (sk γ) = if deF (γ 1) (γ 0 1) FU (sk γ) - sk γ ≤ 9 then 2 else 3 := by
          unfold tkK
          rw [if_neg (by omega), if_neg (by omega), if_pos q3]
        have te := h.te
        rw [peek_L173_eq FU γ2 (by omega) (by omega) (by omega) (by omega), cb, c1, c8]
        rw [← eE] at eK ⊢
        generalize hv : tkE (γ 1) (γ 0 1) (sk γ) = v at *
        have e8 : setA γ2 0 8 v 0 8 = v := by rw [stA, if_pos ⟨rfl, rfl⟩]
        have e5 : setA γ2 0 8 v 0 5 = sk γ := by rw [stA, if_neg (by omega)]; exact c5
        unfold f_M_peek_b212
        rw [e8, e5]
        refine wp_chk (by omega) (wp_ite (fun q4 => wp_sub (wp_some ?_)) (fun q4 => wp_sub (wp_some ?_)))
        · rw [if_pos q4] at eK
          rw [p v 2 rfl eK.symm (setA (setA γ2 0 8 v) 0 6 2) (fun j k => by rw [stA, stA, c]; grind (splits := 20)), pkS_6]
        · rw [if_neg q4] at eK
          rw [p v 3 rfl eK.symm (setA (setA γ2 0 8 v) 0 6 3) (fun j k => by rw [stA, stA, c]; grind (splits := 20)), pkS_6]
      · have eE : tkE (γ 1) (γ 0 1) (sk γ) = weF (γ 1) (γ 0 1) FU (sk γ) := by
          unfold tkE
          rw [if_neg (by omega), if_pos q2]
        have eK : tkK (γ 1) (γ 0 1) (sk γ) = if weF (γ 1) (γ 0 1) FU (sk γ) - sk γ ≤ 31 then 1 else 3 := by
          unfold tkK
          rw [if_neg (by omega), if_pos q2]
        have te := h.te
        rw [peek_L72_eq FU γ2 (by omega) (by omega) (by omega) (by omega), cb, c1, c8]
        rw [← eE] at eK ⊢
        generalize hv : tkE (γ 1) (γ 0 1) (sk γ) = v at *
        have e8 : setA γ2 0 8 v 0 8 = v := by rw [stA, if_pos ⟨rfl, rfl⟩]
        have e5 : setA γ2 0 8 v 0 5 = sk γ := by rw [stA, if_neg (by omega)]; exact c5
        unfold f_M_peek_b140
        rw [e8, e5]
        refine wp_chk (by omega) (wp_ite (fun q4 => wp_sub (wp_some ?_)) (fun q4 => wp_sub (wp_some ?_)))
        · rw [if_pos q4] at eK
          rw [p v 1 rfl eK.symm (setA (setA γ2 0 8 v) 0 6 1) (fun j k => by rw [stA, stA, c]; grind (splits := 20)), pkS_6]
        · rw [if_neg q4] at eK
          rw [p v 3 rfl eK.symm (setA (setA γ2 0 8 v) 0 6 3) (fun j k => by rw [stA, stA, c]; grind (splits := 20)), pkS_6]
    · have eE : tkE (γ 1) (γ 0 1) (sk γ) = sk γ := by unfold tkE; rw [if_pos (by omega)]
      have eK : tkK (γ 1) (γ 0 1) (sk γ) = 0 := by unfold tkK; rw [if_pos (by omega)]
      rw [p (sk γ) 0 eE.symm eK.symm γ2 c, eK]
  · rcases a4 with r | r
    · exact absurd r q
    · rw [if_neg q, ← pkS_6 γ, r.2]
