/-! equality: both read the same tokens -/
def TsN (γ : St) (L N : Int) : Prop := ScC γ L ∧ (0 ≤ N ∧ N < γ 1 5) ∧ ScA γ L (N + 1) ∧ ScN γ L N ∧ (tkK (γ 13) L (γ 15 N) = 0 ∧ N = γ 1 5 - 1 ∨ tkK (γ 13) L (γ 15 N) = 3)
theorem TsE.n {γ : St} {L : Int} (h : TsE γ L) : ∃ N, TsN γ L N := by
  obtain ⟨a, N, b⟩ := h
  exact ⟨N, a, b⟩
/-- both stand at the same token -/
def LexR (N : Int) (γ δ : St) : Prop := LX δ ∧ (∀ k, 0 ≤ k → k < δ 0 1 → δ 1 k = γ 13 k) ∧ TsN γ (δ 0 1) N ∧ (0 ≤ γ 1 6 ∧ γ 1 6 ≤ N) ∧ sk δ = γ 15 (γ 1 6)
theorem sgC_b (k : Int) : 0 ≤ sgC k ∧ sgC k ≤ 19 ∧ sgC k ≠ 2 ∧ sgC k ≠ 3 := by
  unfold sgC
  grind (splits := 40)
theorem sgC_inj {a k : Int} (h : sgC a = sgC k) (h4 : sgC k ≠ 1) : a = k := by
  unfold sgC at h h4
  grind (splits := 400)
section LR
variable {N : Int} {γ δ : St}
theorem LexR.s0 (h : LexR N γ δ) : 0 ≤ sk δ := by
  have a := h.1.skb
  have b := h.1.2.1
  omega
theorem LexR.K (h : LexR N γ δ) : tkK (γ 13) (δ 0 1) (γ 15 (γ 1 6)) = tK δ := by
  have s := h.s0
  unfold tK
  rw [tkK_ag h.2.1 s, h.2.2.2.2]
theorem LexR.E (h : LexR N γ δ) : tkE (γ 13) (δ 0 1) (γ 15 (γ 1 6)) = tE δ := by
  have s := h.s0
  unfold tE
  rw [tkE_ag h.2.1 s, h.2.2.2.2]
theorem LexR.A (h : LexR N γ δ) : TkA γ (δ 0 1) (γ 1 6) := by
  have a := h.2.2.2.1
  exact (h.2.2.1.2.2.1 (γ 1 6) a.1 (by omega)).2
/-- a word -/
theorem LexR.wd (h : LexR N γ δ) (k : tK δ = 1) : (0 ≤ γ 16 (γ 1 6) ∧ γ 16 (γ 1 6) < γ 2 8) ∧ spW γ (γ 16 (γ 1 6)) (sk δ) (tE δ - sk δ) ∧ (γ 16 (γ 1 6) < 22 → γ 14 (γ 1 6) = 20 + γ 16 (γ 1 6)) ∧ (22 ≤ γ 16 (γ 1 6) → γ 14 (γ 1 6) = 2) := by
  have a := h.A.1 (h.K.trans k)
  rw [h.E, ← h.2.2.2.2] at a
  exact a
/-- a number -/
theorem LexR.nu (h : LexR N γ δ) (k : tK δ = 2) : γ 14 (γ 1 6) = 3 ∧ γ 16 (γ 1 6) = nmF (γ 13) (δ 0 1) FU (sk δ) 0 := by
  have a := h.A.2.1 (h.K.trans k)
  rw [← h.2.2.2.2] at a
  exact a
/-- neither -/
theorem LexR.ot (h : LexR N γ δ) (k1 : tK δ ≠ 1) (k2 : tK δ ≠ 2) : γ 14 (γ 1 6) = sgC (tK δ) := by
  have a := h.A.2.2
  rw [h.K] at a
  exact a k1 k2
theorem LexR.kw (h : LexR N γ δ) {w : Nat} (hw : w < 22) : γ 14 (γ 1 6) = 20 + w ↔ kwQ δ w := by
  have c := h.2.2.1.1
  have tl := h.1.te2
  have s := h.s0
  have sp := KwW.sp (p := sk δ) (m := tE δ - sk δ) c.2.1 c.2.2.1 hw (by omega)
  constructor
  · intro e
    by_cases k1 : tK δ = 1
    · have a := h.wd k1
      by_cases q : γ 16 (γ 1 6) < 22
      · have e2 : γ 16 (γ 1 6) = w := by have := a.2.2.1 q; omega
        rw [e2] at a
        have b := sp.1 a.2.1
        exact ⟨k1, b.1, fun i q1 q2 => by rw [h.2.1 _ (by omega) (by omega)]; exact b.2 i q1 q2⟩
      · have := a.2.2.2 (by omega); exfalso; omega
    · by_cases k2 : tK δ = 2
      · have := (h.nu k2).1; exfalso; omega
      · have e1 := h.ot k1 k2
        have := sgC_b (tK δ)
        exfalso; omega
  · rintro ⟨k1, k2, k3⟩
    have a := h.wd k1
    have b := sp.2 ⟨k2, fun i q1 q2 => by rw [← h.2.1 _ (by omega) (by omega)]; exact k3 i q1 q2⟩
    have e := c.1.one (by omega) (by have := c.2.2.2.1; omega) a.1.1 a.1.2 b a.2.1
    have := a.2.2.1 (by omega)
    omega
theorem LexR.nm (h : LexR N γ δ) : γ 14 (γ 1 6) = 2 ↔ nmQ δ := by
  constructor
  · intro e
    by_cases k1 : tK δ = 1
    · exact ⟨k1, fun ⟨w, q1, q2⟩ => by have := (h.kw q1).2 q2; omega⟩
    · by_cases k2 : tK δ = 2
      · have := (h.nu k2).1; exfalso; omega
      · have e1 := h.ot k1 k2
        have := sgC_b (tK δ)
        exfalso; omega
  · rintro ⟨k1, k2⟩
    have a := h.wd k1
    by_cases q : γ 16 (γ 1 6) < 22
    · have e := a.2.2.1 q
      exact absurd ⟨(γ 16 (γ 1 6)).toNat, by omega, (h.kw (w := (γ 16 (γ 1 6)).toNat) (by omega)).1 (by omega)⟩ k2
    · exact a.2.2.2 (by omega)
theorem LexR.no (h : LexR N γ δ) : γ 14 (γ 1 6) = 3 ↔ tK δ = 2 := by
  constructor
  · intro e
    by_cases k1 : tK δ = 1
    · have a := h.wd k1
      have := a.2.2
      exfalso; omega
    · by_cases k2 : tK δ = 2
      · exact k2
      · have e1 := h.ot k1 k2
        have := sgC_b (tK δ)
        exfalso; omega
  · intro k; exact (h.nu k).1
/-- a sign, or the end -/
theorem LexR.sg (h : LexR N γ δ) {k : Int} (hk : sgC k ≠ 1) : γ 14 (γ 1 6) = sgC k ↔ tK δ = k := by
  have b := sgC_b k
  constructor
  · intro e
    by_cases k1 : tK δ = 1
    · have a := h.wd k1
      have := a.2.2
      exfalso; omega
    · by_cases k2 : tK δ = 2
      · have := (h.nu k2).1; exfalso; omega
      · exact sgC_inj ((h.ot k1 k2).symm.trans e) hk
  · intro e
    have k1 : tK δ ≠ 1 := fun q => hk (by rw [← e, q]; rfl)
    have k2 : tK δ ≠ 2 := fun q => hk (by rw [← e, q]; rfl)
    rw [h.ot k1 k2, e]
theorem LexR.pk (h : LexR N γ δ) : LexR N γ (pkS δ) := by
  have ⟨h1, h2, h3, h4, h5⟩ := h
  refine ⟨h1.pk, ?_, ?_, h4, ?_⟩
  · rw [pkS_o δ 0 1 (by omega), pkS_1]; exact h2
  · rw [pkS_o δ 0 1 (by omega)]; exact h3
  · rw [pkS_sk h1]; exact h5
theorem WdC.fr2 {γ γ' : St} {L : Int} (h : ScC γ L) (e : ∀ j k, 13 ≤ j ∧ j ≤ 20 → γ' j k = γ j k) (e8 : γ' 2 8 = γ 2 8) : ScC γ' L := by
  have ⟨h1, h2, h3, h4, h5⟩ := h
  exact ⟨h1.fr (fun j k q => e j k (by omega)) e8, fun i q1 q2 => by rw [e 13 i (by omega)]; exact h2 i q1 q2, fun w q => by rw [e 18 w (by omega), e 19 w (by omega)]; exact h3 w q, by rw [e8]; exact h4, fun k q1 q2 => by rw [e 13 k (by omega)]; exact h5 k q1 q2⟩
theorem TsN.fr {γ γ' : St} {L N : Int} (h : TsN γ L N) (e : ∀ j k, 13 ≤ j ∧ j ≤ 20 → γ' j k = γ j k) (e5 : γ' 1 5 = γ 1 5) (e8 : γ' 2 8 = γ 2 8) : TsN γ' L N := by
  have ⟨h1, h2, h3, h4, h5⟩ := h
  have e13 : γ' 13 = γ 13 := funext fun k => e 13 k (by omega)
  have e15 : γ' 15 = γ 15 := funext fun k => e 15 k (by omega)
  refine ⟨WdC.fr2 h1 e e8, by omega, fun t q1 q2 => ?_, h4.fr e13 (fun t _ => e 15 t (by omega)), by rw [e13, e15, e5]; exact h5⟩
  have k := h3 t q1 q2
  have en : nxP γ' L t = nxP γ L t := by unfold nxP; rw [e13, e15]
  rw [en, e13, e15]
  exact ⟨k.1, k.2.fr e13 (e 14 t (by omega)) (e 15 t (by omega)) (e 16 t (by omega)) (fun w _ => ⟨e 18 w (by omega), e 19 w (by omega)⟩) (by omega)⟩
/-- one token on -/
theorem LexR.tk (h : LexR N γ δ) (hT : TkR γ) (k0 : tK δ ≠ 0) (k3 : tK δ ≠ 3) : γ 1 6 < N ∧ f_Tk_step γ = some (0, setA γ 1 6 (γ 1 6 + 1)) ∧ LexR N (setA γ 1 6 (γ 1 6 + 1)) (tkS δ) := by
  have ⟨h1, h2, h3, h4, h5⟩ := h
  have K := h.K
  have E := h.E
  have ln : γ 1 6 < N := by
    by_cases q : γ 1 6 = N
    · rw [q] at K
      rcases h3.2.2.2.2 with r | r
      · exact absurd (K.symm.trans r.1) k0
      · exact absurd (K.symm.trans r) k3
    · omega
  have b := h3.2.1
  have o : ∀ (j : Nat) (k : Int), (j ≠ 1 ∨ k ≠ 6) → setA γ 1 6 (γ 1 6 + 1) j k = γ j k := fun j k q => by rw [stA, if_neg (by omega)]
  have e6 : setA γ 1 6 (γ 1 6 + 1) 1 6 = γ 1 6 + 1 := by rw [stA, if_pos ⟨rfl, rfl⟩]
  refine ⟨ln, ?_, h1.tk, ?_, ?_, ?_, ?_⟩
  · have := hT.1.2.1
    unfold f_Tk_step
    rw [chk_t (by omega), if_neg (by omega), chk_t (by omega)]
    rfl
  · rw [tkS_o δ 0 1 (by omega), tkS_1]
    intro k q1 q2
    rw [o 13 k (by omega)]
    exact h2 k q1 q2
  · rw [tkS_o δ 0 1 (by omega)]
    exact h3.fr (fun j k q => o j k (by omega)) (o 1 5 (by omega)) (o 2 8 (by omega))
  · rw [e6]; omega
  · rw [e6, o 15 _ (by omega)]
    have a := (h3.2.2.1 (γ 1 6 + 1) (by omega) (by omega)).1
    unfold nxP at a
    rw [if_neg (by omega), show γ 1 6 + 1 - 1 = γ 1 6 by omega, E] at a
    rw [a]
    show skpF (tkS δ 1) (tkS δ 0 1) FU (tkS δ 0 5) = _
    rw [tkS_1, tkS_o δ 0 1 (by omega), tkS_5]
    have t := h1.te2
    have s := h.s0
    exact skpF_ag h2 FU (tE δ) (by omega)
end LR
