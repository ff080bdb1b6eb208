/-! the reference's equations: what one is -/
theorem sgK_40 {c d : Int} (h : sgK c d = 40) : c = 40 := by
  unfold sgK at h
  grind (splits := 40)
theorem tkK_40 {b : Int → Int} {L s : Int} (h : tkK b L s = 40) : b s = 40 := by
  unfold tkK at h
  by_cases q : L ≤ s
  · rw [if_pos q] at h; exact absurd h (by decide)
  · rw [if_neg q] at h
    by_cases q2 : ltB (b s) ≠ 0
    · rw [if_pos q2] at h
      exfalso
      split at h <;> omega
    · rw [if_neg q2] at h
      by_cases q3 : dgB (b s) ≠ 0
      · rw [if_pos q3] at h
        exfalso
        split at h <;> omega
      · rw [if_neg q3] at h; exact sgK_40 h
theorem tkK_1 {b : Int → Int} {L s : Int} (h : tkK b L s = 1) : b s ≠ 40 := by
  intro e
  unfold tkK at h
  have l : ltB (b s) = 0 := by rw [e]; rfl
  have g : dgB (b s) = 0 := by rw [e]; rfl
  have k : ∀ d, sgK (b s) d = 40 := fun d => by rw [e]; rfl
  by_cases q : L ≤ s
  · rw [if_pos q] at h; exact absurd h (by decide)
  · rw [if_neg q, if_neg (by omega), if_neg (by omega), k] at h; exact absurd h (by decide)
/-- an equation -/
def EqR (nv nn l5 : Int) (γ : St) (k : Int) : Prop := (0 ≤ γ 15 k ∧ γ 15 k ≤ 10240) ∧ (0 ≤ γ 16 k ∧ γ 16 k < γ 16 (k + 1)) ∧ (∀ i, γ 16 k ≤ i → i < γ 16 (k + 1) → l5 ≤ γ 18 i ∧ γ 18 i < nv) ∧ (0 ≤ γ 19 k ∧ γ 19 k ≤ γ 17 k ∧ γ 26 (γ 17 k) = γ 17 k + 1 - γ 19 k) ∧ (∀ e, γ 19 k ≤ e → e ≤ γ 17 k → Gn nv nn γ (γ 19 k) e) ∧ (γ 1 (γ 15 k) = 40 → γ 20 (γ 17 k) = 3) ∧ (γ 1 (γ 15 k) ≠ 40 → γ 16 (k + 1) = γ 16 k + 1)
/-- equations before b, lefts before l, parts before P stay -/
def FqE (b l P : Int) (γ γ' : St) : Prop := (∀ k, γ' 1 k = γ 1 k) ∧ (∀ k, k < b → γ' 15 k = γ 15 k ∧ γ' 17 k = γ 17 k ∧ γ' 19 k = γ 19 k) ∧ (∀ k, k ≤ b → γ' 16 k = γ 16 k) ∧ (∀ i, i < l → γ' 18 i = γ 18 i) ∧ ∀ j : Nat, 20 ≤ j → j ≤ 27 → j ≠ 24 → ∀ e, e < P → γ' j e = γ j e
theorem EqR.fr {nv nn l5 b l P k : Int} {γ γ' : St} (h : EqR nv nn l5 γ k) (f : FqE b l P γ γ') (hk : k < b) (hl : γ 16 (k + 1) ≤ l) (hP : γ 17 k < P) : EqR nv nn l5 γ' k := by
  have ⟨a1, a2, a3, a4, a5, a6, a7⟩ := h
  have ⟨f1, f2, f3, f4, f5⟩ := f
  have g := f2 k hk
  have g3 := f3 k (by omega)
  have g3' := f3 (k + 1) (by omega)
  refine ⟨by rw [g.1]; exact a1, by rw [g3, g3']; exact a2, ?_, ?_, ?_, ?_, ?_⟩
  · rw [g3, g3']
    intro i q1 q2
    rw [f4 i (by omega)]
    exact a3 i q1 q2
  · rw [g.2.1, g.2.2, f5 26 (by omega) (by omega) (by omega) _ hP]
    exact a4
  · rw [g.2.1, g.2.2]
    intro e q1 q2
    exact (a5 e q1 q2).fr (Int.le_refl _) (fun k r1 r2 => f5 23 (by omega) (by omega) (by omega) k (by omega)) (fun j r1 r2 r3 r4 r5 k r6 r7 => f5 j r1 r2 r4 k (by omega))
  · rw [g.1, f1, g.2.1, f5 20 (by omega) (by omega) (by omega) _ hP]
    exact a6
  · rw [g.1, f1, g3, g3']
    exact a7
/-- the equations of the node at hand: from a to b -/
def EqL (nv nn l5 a b l P : Int) (γ : St) : Prop := (∀ k, a ≤ k → k < b → EqR nv nn l5 γ k ∧ γ 16 (k + 1) ≤ l ∧ γ 17 k < P) ∧ (∀ k, a ≤ k → k + 1 < b → γ 19 (k + 1) = γ 17 k + 1) ∧ γ 16 b = l
theorem EqL.fr {nv nn l5 a b l P : Int} {γ γ' : St} (h : EqL nv nn l5 a b l P γ) (f : FqE b l P γ γ') : EqL nv nn l5 a b l P γ' := by
  have ⟨f1, f2, f3, f4, f5⟩ := f
  refine ⟨fun k q1 q2 => ?_, fun k q1 q2 => ?_, by rw [f3 b (Int.le_refl _)]; exact h.2.2⟩
  · have r := h.1 k q1 q2
    exact ⟨r.1.fr f q2 r.2.1 r.2.2, by rw [f3 (k + 1) (by omega)]; exact r.2.1, by rw [(f2 k q2).2.1]; exact r.2.2⟩
  · rw [(f2 (k + 1) q2).2.2, (f2 k (by omega)).2.1]
    exact h.2.1 k q1 q2
