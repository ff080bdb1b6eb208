/-! equality: the relation between calls, without values -/
def RlT (γ δ : St) : Prop := KwI γ ∧ γ 0 10 = δ 0 1 ∧ (∀ k, 0 ≤ k → k < δ 0 1 → δ 1 k = γ 13 k) ∧ γ 0 11 = δ 0 55 ∧ γ 1 7 = δ 0 3 ∧ γ 1 8 = δ 0 4
theorem RlT.kp {γ γ' δ δ' : St} (h : RlT γ δ) (a : KS γ γ') (b : KM δ δ') : RlT γ' δ' := by
  have ⟨h1, h2, h3, h4, h5, h6⟩ := h
  have s : ∀ j k, (j = 0 → k ≠ 13 ∧ k ≠ 14) → j < 10 → γ' j k = γ j k := fun j k q1 q2 => a j k q1 (by omega) (by omega) (by omega) (by omega) (by omega) (by omega) (by omega) (by omega) (by omega) (by omega)
  have t : ∀ k, γ' 13 k = γ 13 k := fun k => a 13 k (by omega) (by omega) (by omega) (by omega) (by omega) (by omega) (by omega) (by omega) (by omega) (by omega) (by omega)
  have m : ∀ j k, (j = 0 → k ≠ 2 ∧ k ≠ 72 ∧ k ≠ 82 ∧ k ≠ 83) → j < 46 → δ' j k = δ j k := fun j k q1 q2 => b j k q1 (by omega) (by omega) (by omega)
  refine ⟨fun i q1 q2 => by rw [t]; exact h1 i q1 q2, by rw [s 0 10 (by omega) (by omega), m 0 1 (by omega) (by omega)]; exact h2, fun k q1 q2 => ?_, by rw [s 0 11 (by omega) (by omega), m 0 55 (by omega) (by omega)]; exact h4, by rw [s 1 7 (by omega) (by omega), m 0 3 (by omega) (by omega)]; exact h5, by rw [s 1 8 (by omega) (by omega), m 0 4 (by omega) (by omega)]; exact h6⟩
  rw [m 0 1 (by omega) (by omega)] at q2
  rw [m 1 k (by omega) (by omega), t]
  exact h3 k q1 q2
theorem rl_rd {c : Int} {γ δ : St} (hC : ClsI c γ) (hc : c < 512) (hm : MoI c δ) (h : RlT γ δ) : pq (f_S_read γ) (f_M_read δ) (fun y z => y.1 = z.1 ∧ RlT y.2 z.2) := by
  have ⟨h1, h2, h3, h4, h5, h6⟩ := h
  have en : ∀ (δ : St) (k : Int), k ≠ 1 → enS δ 0 k = δ 0 k := fun δ k q => enS_o (by omega) (by omega) (by omega)
  refine pq_rd3 hC hc h1 h2 h3 hm h4 (fun γ' δ' q1 q2 q3 q4 q5 q6 => ⟨rfl, fun i w1 w2 => (q4 i).trans (h1 i w1 w2), ?_, fun k w1 w2 => ?_, ?_, ?_, ?_⟩) (fun γ' δ' γ6 γ9 δ3 δ5 δ7 w e e8 => ?_)
  · exact q3.1.trans (enS_1 (δ := (setA (setA δ' 0 3 (γ' 1 7)) 0 4 (γ' 1 8)))).symm
  · exfalso
    have w2 : k < enS (setA (setA δ' 0 3 (γ' 1 7)) 0 4 (γ' 1 8)) 0 1 := w2
    rw [enS_1] at w2
    omega
  · refine Eq.trans ?_ (en (setA (setA δ' 0 3 (γ' 1 7)) 0 4 (γ' 1 8)) 55 (by omega)).symm
    rw [stA, if_neg (by omega), stA, if_neg (by omega)]; exact q2
  · refine Eq.trans ?_ (en (setA (setA δ' 0 3 (γ' 1 7)) 0 4 (γ' 1 8)) 3 (by omega)).symm
    rw [stA, if_neg (by omega), stA, if_pos ⟨rfl, rfl⟩]
  · refine Eq.trans ?_ (en (setA (setA δ' 0 3 (γ' 1 7)) 0 4 (γ' 1 8)) 4 (by omega)).symm
    rw [stA, if_pos ⟨rfl, rfl⟩]
  · obtain ⟨⟨N, pn⟩, ht, rs, rsi, rm, lk⟩ := w
    obtain ⟨⟨fl, ld⟩, ⟨σ, κ, lb⟩, _, _, _, ⟨s55, _, lk18⟩, ok⟩ := lk
    obtain ⟨so, _, _, _, _, o5, _, o7⟩ := ok
    have of := so.1
    have n1 : 1 ≤ δ' 0 18 := rsi.2.2.2.2
    have c39 : γ' 3 9 = δ' 0 18 := pn.1.2.2.1.1
    have c9 : ∀ j k, (j < 8 ∨ j = 13) → γ9 j k = setA γ' 0 11 (γ' 0 11 + γ' 31 (δ' 0 18 - 1)) j k := fun j k q => by rw [of j k (by omega) (by omega), fl j k (by omega)]
    have d7 : ∀ k, k ≠ 67 → δ7 0 k = δ3 0 k := fun k q => by rw [o7 0 k (by omega), o5 0 k (by omega) (by omega) (by omega)]
    have e39 : γ9 3 9 = δ' 0 18 := by rw [c9 3 9 (by omega), stA, if_neg (by omega)]; exact c39
    have e88 : γ9 8 8 = δ7 0 51 := by rw [of 8 8 (by omega) (by omega), d7 51 (by omega), ld.2.2.1]; exact lb.2.2.2.2.2.1.2
    have e18 : δ7 0 18 = δ' 0 18 := by
      rw [d7 18 (by omega)]
      exact lk18 0 18 (by omega) (by omega)
    have e55 : δ7 0 55 = δ' 0 55 + γ' 31 (δ' 0 18 - 1) := by rw [d7 55 (by omega)]; exact s55
    refine pq_cr (fun _ => pq_ar ?_)
    rw [b292_eq, if_pos (by rw [stA, if_pos ⟨rfl, rfl⟩]; omega)]
    intro y z e1 e2
    obtain ⟨g1, g2, g3⟩ := g_rdB (γ := γ9) (by omega) y e1
    cases e2
    have y9 : ∀ j k, (j < 8 ∨ j = 13) → (j = 0 → k ≠ 12) → y.2 j k = setA γ' 0 11 (γ' 0 11 + γ' 31 (δ' 0 18 - 1)) j k := fun j k q q2 => by rw [g3 j k q2 (by omega) (by omega) (by omega) (by omega) (by omega)]; exact c9 j k q
    refine ⟨?_, fun i w1 w2 => ?_, ?_, fun k w1 w2 => ?_, ?_, ?_, ?_⟩
    · show y.1 = setA δ7 0 49 (δ7 0 18 - 1) 0 51
      rw [g1, stA, if_neg (by omega)]; exact e88
    · rw [y9 13 i (by omega) (by omega), stA, if_neg (by omega), rs.1 13 i (by omega)]
      exact h1 i w1 w2
    · refine Eq.trans ?_ (enS_1 (δ := (setA δ7 0 49 (δ7 0 18 - 1)))).symm
      rw [y9 0 10 (by omega) (by omega), stA, if_neg (by omega)]; exact rs.2.1
    · exfalso
      have w2 : k < enS (setA δ7 0 49 (δ7 0 18 - 1)) 0 1 := w2
      rw [enS_1] at w2
      omega
    · refine Eq.trans ?_ (en (setA δ7 0 49 (δ7 0 18 - 1)) 55 (by omega)).symm
      rw [y9 0 11 (by omega) (by omega), stA, if_pos ⟨rfl, rfl⟩, stA, if_neg (by omega), e55, e]
    · refine Eq.trans ?_ (en (setA δ7 0 49 (δ7 0 18 - 1)) 3 (by omega)).symm
      rw [y9 1 7 (by omega) (by omega), stA, if_neg (by omega), stA, if_neg (by omega), d7 3 (by omega), lk18 0 3 (by omega) (by omega), e8.1]
      exact rm.2.2.1.2.1.symm
    · refine Eq.trans ?_ (en (setA δ7 0 49 (δ7 0 18 - 1)) 4 (by omega)).symm
      rw [y9 1 8 (by omega) (by omega), stA, if_neg (by omega), stA, if_neg (by omega), d7 4 (by omega), lk18 0 4 (by omega) (by omega), e8.2]
      exact rm.2.2.1.2.2.1.symm
