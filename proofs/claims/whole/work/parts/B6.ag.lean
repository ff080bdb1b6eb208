/-! equality: the class's scan, whole; both tapes are cut alike -/
theorem s2_scan {γ : St} {L : Int} (h0 : 0 ≤ L ∧ L ≤ 10240) (hK : KwI γ) (hB : ∀ k, 0 ≤ k → k < L → γ 13 k ≤ 127) : wp (f_Tk_scan γ L) (fun z => (TkR z.2 ∧ FrT γ z.2 ∧ z.2 1 7 = 0 ∧ z.2 1 6 = 0 ∧ ∀ w, 0 ≤ w → w < z.2 2 8 → z.2 22 w = 0 ∧ z.2 23 w = 0) ∧ TsE z.2 L) := by
  refine wp_and (w_Tk_scan h0) ?_
  have := FU_v
  unfold f_Tk_scan
  refine wp_bnd (w2_begin hK) (fun r γ1 h => wp_sub (wp_sub (wp_sub (wp_sub ?_))))
  have h1 : (WdX True γ1 ∧ FrW γ γ1) ∧ WdC γ1 ∧ KwI γ1 ∧ KwW γ1 22 ∧ γ1 2 8 = 22 := h
  obtain ⟨⟨⟨j1, j2, j3⟩, hf⟩, c1, c2, c3, c4⟩ := h1
  have hT : TkI True 0 (setA (setA (setA (setA γ1 1 5 0) 1 6 0) 1 7 0) 1 8 0) := by
    refine ⟨⟨?_, ?_, ?_⟩, ?_, ?_⟩
    · simp [stA]; exact j1
    · intro h h1 h2; simp [stA]; exact j2 h h1 h2
    · intro w h1 h2; simp [stA] at h2 ⊢; have q := j3 w h1 h2; exact ⟨q.1, q.2.1, q.2.2.1, q.2.2.2.1, q.2.2.2.2 trivial⟩
    · simp [stA]
    · intro t h1 h2; simp [stA] at h2; omega
  have e5 : setA (setA (setA (setA γ1 1 5 0) 1 6 0) 1 7 0) 1 8 0 1 5 = 0 := by simp [stA]
  have o : ∀ (j : Nat) (k : Int), j ≠ 1 → setA (setA (setA (setA γ1 1 5 0) 1 6 0) 1 7 0) 1 8 0 j k = γ1 j k := fun j k q => by rw [stA, if_neg (by omega), stA, if_neg (by omega), stA, if_neg (by omega), stA, if_neg (by omega)]
  generalize setA (setA (setA (setA γ1 1 5 0) 1 6 0) 1 7 0) 1 8 0 = γ2 at *
  have e13 : ∀ k, γ1 13 k = γ 13 k := fun k => hf 13 k (by omega) (by omega)
  have g : ScG γ2 L 0 := by
    refine ⟨⟨⟨by omega, h0.1⟩, by omega, by omega⟩, ⟨c1.fr (fun j k q => o j k (by omega)) (o 2 8 (by omega)), fun i q1 q2 => by rw [o 13 i (by omega)]; exact c2 i q1 q2, fun w q => by rw [o 18 w (by omega), o 19 w (by omega)]; exact c3 w q, by rw [o 2 8 (by omega)]; omega, fun k q1 q2 => by rw [o 13 k (by omega), e13]; exact hB k q1 q2⟩, ?_, ?_, ?_, ?_⟩
    · rw [o 2 8 (by omega), c4]; exact ⟨by omega, fun _ _ => by omega⟩
    · intro t q1 q2; omega
    · intro t q1 q2; omega
    · unfold nxP; rw [if_pos e5]
  exact s2_scan_L31 h0 FU γ2 0 0 hT (Or.inl g) (by omega) (by omega) (by omega)
section AG
variable {b c : Int → Int} {L : Int}
theorem bA_ag (h : ∀ k, 0 ≤ k → k < L → b k = c k) {p : Int} (hp : 0 ≤ p) : bA b L p = bA c L p := by
  unfold bA
  by_cases q : L ≤ p
  · rw [if_pos q, if_pos q]
  · rw [if_neg q, if_neg q, h p hp (by omega)]
theorem eolF_ag (h : ∀ k, 0 ≤ k → k < L → b k = c k) : ∀ (n : Nat) (p : Int), 0 ≤ p → eolF b L n p = eolF c L n p := by
  intro n
  induction n with
  | zero => intro p _; rfl
  | succ n ih =>
    intro p hp
    unfold eolF
    by_cases q : L ≤ p
    · rw [if_pos q, if_pos q]
    · rw [if_neg q, if_neg q, h p hp (by omega), ih (p + 1) (by omega)]
theorem skpF_ag (h : ∀ k, 0 ≤ k → k < L → b k = c k) : ∀ (n : Nat) (p : Int), 0 ≤ p → skpF b L n p = skpF c L n p := by
  intro n
  induction n with
  | zero => intro p _; rfl
  | succ n ih =>
    intro p hp
    unfold skpF
    by_cases q : L ≤ p
    · rw [if_pos q, if_pos q]
    · have e := eolF_b (b := c) (L := L) FU p (by omega)
      rw [if_neg q, if_neg q, h p hp (by omega), bA_ag h (p := p + 1) (by omega), eolF_ag h FU p hp, ih _ (by omega), ih (p + 1) (by omega)]
theorem weF_ag (h : ∀ k, 0 ≤ k → k < L → b k = c k) : ∀ (n : Nat) (p : Int), 0 ≤ p → weF b L n p = weF c L n p := by
  intro n
  induction n with
  | zero => intro p _; rfl
  | succ n ih =>
    intro p hp
    unfold weF
    by_cases q : L ≤ p
    · rw [if_pos q, if_pos q]
    · rw [if_neg q, if_neg q, h p hp (by omega), ih (p + 1) (by omega)]
theorem deF_ag (h : ∀ k, 0 ≤ k → k < L → b k = c k) : ∀ (n : Nat) (p : Int), 0 ≤ p → deF b L n p = deF c L n p := by
  intro n
  induction n with
  | zero => intro p _; rfl
  | succ n ih =>
    intro p hp
    unfold deF
    by_cases q : L ≤ p
    · rw [if_pos q, if_pos q]
    · rw [if_neg q, if_neg q, h p hp (by omega), ih (p + 1) (by omega)]
theorem tkK_ag (h : ∀ k, 0 ≤ k → k < L → b k = c k) {p : Int} (hp : 0 ≤ p) : tkK b L p = tkK c L p := by
  unfold tkK
  by_cases q : L ≤ p
  · rw [if_pos q, if_pos q]
  · rw [if_neg q, if_neg q, h p hp (by omega), weF_ag h FU p hp, deF_ag h FU p hp, bA_ag h (p := p + 1) (by omega)]
theorem tkE_ag (h : ∀ k, 0 ≤ k → k < L → b k = c k) {p : Int} (hp : 0 ≤ p) : tkE b L p = tkE c L p := by
  unfold tkE
  by_cases q : L ≤ p
  · rw [if_pos q, if_pos q]
  · rw [if_neg q, if_neg q, h p hp (by omega), weF_ag h FU p hp, deF_ag h FU p hp, bA_ag h (p := p + 1) (by omega)]
theorem skP_ag (h : ∀ k, 0 ≤ k → k < L → b k = c k) {p : Int} (hp : 0 ≤ p) : skP b L p = skP c L p := skpF_ag h FU p hp
end AG
