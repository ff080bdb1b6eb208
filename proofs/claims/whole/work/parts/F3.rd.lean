/-! equality: read -/
theorem flA_at {γ : St} {j g : Nat} {lo hi v k : Int} : flA γ j lo hi v g k = if g = j ∧ lo ≤ k ∧ k < hi then v else γ g k := rfl
/-- what the reference's read leaves at its end -/
def enS (δ : St) : St := flA (flA (setA δ 0 1 0) 50 0 100 0) 52 0 6600 0
theorem enS_o {δ : St} {j : Nat} {k : Int} (h1 : j ≠ 50) (h2 : j ≠ 52) (h3 : j = 0 → k ≠ 1) : enS δ j k = δ j k := by
  unfold enS
  rw [flA_at, if_neg (by omega), flA_at, if_neg (by omega), stA, if_neg (by omega)]
theorem enS_1 {δ : St} : enS δ 0 1 = 0 := by
  unfold enS
  rw [flA_at, if_neg (by omega), flA_at, if_neg (by omega), stA, if_pos ⟨rfl, rfl⟩]
theorem b292_eq (δ : St) : f_M_read_b292 δ = if 0 ≤ δ 0 49 then some (δ 0 51, enS δ) else some (-1, enS δ) := by
  have e1 : enS δ 0 49 = δ 0 49 := enS_o (by omega) (by omega) (by omega)
  have e2 : enS δ 0 51 = δ 0 51 := enS_o (by omega) (by omega) (by omega)
  rw [← e1, ← e2]
  rfl
theorem pq_b177 {γ δ : St} {a b : Int} {Q : Int × St → Int × St → Prop} (h1 : γ 0 12 = -1) (h2 : δ 0 49 = -1) (q : Q (-1, γ) (-1, enS (setA (setA δ 0 3 a) 0 4 b))) : pq (f_S_read_b177 γ) (f_M_read_h δ a b) Q := by
  unfold f_S_read_b177 f_M_read_h
  rw [b292_eq, if_neg (by omega), if_neg (by rw [stA, if_neg (by omega), stA, if_neg (by omega)]; omega)]
  intro y z e1 e2
  cases e1
  cases e2
  exact q
/-- a program is there: what stands before the class builds -/
def RdK (c : Int) (γ δ γ' δ' γ6 γ9 δ3 δ5 δ7 : St) : Prop := (∃ N, PnR N γ' δ') ∧ TopI γ' ∧ RdS γ γ' ∧ RsI c δ' ∧ RdM δ δ' ∧ LkD γ' δ' γ6 γ9 δ3 δ5 δ7
theorem pq_rd {c : Int} {γ δ : St} (hC : ClsI c γ) (hc : c < 512) (hK : KwI γ) (e10 : γ 0 10 = δ 0 1) (eb : ∀ k, 0 ≤ k → k < δ 0 1 → δ 1 k = γ 13 k) (hm : MoI c δ) (e11 : γ 0 11 = δ 0 55) {Q : Int × St → Int × St → Prop} (bad : ∀ γ' δ', γ' 1 7 ≠ 0 → γ' 0 11 = δ' 0 55 → (γ' 0 10 = 0 ∧ γ' 0 12 = -1 ∧ γ' 0 13 = 0 ∧ γ' 0 14 = 0) → (∀ k, γ' 13 k = γ 13 k) → (δ' 0 49 = -1 ∧ δ' 0 72 = 0 ∧ δ' 0 83 = 0 ∧ δ' 0 2 = 0) → (∀ k, δ' 1 k = δ 1 k) → Q (-1, γ') (-1, enS (setA (setA δ' 0 3 (γ' 1 7)) 0 4 (γ' 1 8)))) (ok : ∀ γ' δ' γ6 γ9 δ3 δ5 δ7, RdK c γ δ γ' δ' γ6 γ9 δ3 δ5 δ7 → γ' 0 11 = δ' 0 55 → pq (rdB γ9) (chk (i32 ((δ7 0 18) - 1)) (ap (setA δ7 0 49 ((δ7 0 18) - 1)) fun γ17 => f_M_read_b292 γ17)) Q) : pq (f_S_read γ) (f_M_read δ) Q := by
  refine pq_read2 (I := KeI) ke_node ke_pk (fun γ δ h1 h2 => ⟨fun f q1 q2 => by exfalso; omega, fun f q1 q2 => by exfalso; omega⟩) hC hc hK e10 eb hm (fun γ' δ' q1 q2 q3 q4 => ?_) (fun N γ' δ' q1 q2 q3 q4 q5 q6 q7 => ?_)
  · have ⟨s1, s2, s3, s4, s5⟩ := q2
    have ⟨m1, m2, m3, m4⟩ := q4
    unfold f_S_read_b101
    rw [if_pos q1]
    exact pq_b177 s3 m4 (bad γ' δ' q1 (by rw [s1 0 11 (by omega), m1 55 (by omega)]; exact e11) ⟨s2, s3, s4, s5⟩ (fun k => s1 13 k (by omega)) ⟨m4, m3.2.2.2.1, m3.2.2.2.2, m3.1⟩ (fun k => m2 1 k (by omega)))
  · have ⟨s1, s2, s3, s4, s5⟩ := q3
    have ⟨m1, m2, m3, m4⟩ := q5
    have e : γ' 0 11 = δ' 0 55 := by rw [s1 0 11 (by omega), m1 55 (by omega)]; exact e11
    refine pq_end q1 q2 q4 q6.1 q6.2 q7 e (fun γ2 δ2 w1 w2 w3 w4 w5 => ?_) (fun γ6 γ9 δ3 δ5 δ7 w => ok γ' δ' γ6 γ9 δ3 δ5 δ7 ⟨⟨N, q1⟩, q2, q3, q4, q5, w⟩ e)
    refine pq_b177 (by rw [w3 12 (by omega)]; exact s3) (by rw [w5 0 49 (by omega) (by omega)]; exact m4) (bad γ2 δ2 w1 w2 ⟨by rw [w3 10 (by omega)]; exact s2, by rw [w3 12 (by omega)]; exact s3, by rw [w3 13 (by omega)]; exact s4, by rw [w3 14 (by omega)]; exact s5⟩ (fun k => by rw [w4]; exact s1 13 k (by omega)) ⟨by rw [w5 0 49 (by omega) (by omega)]; exact m4, by rw [w5 0 72 (by omega) (by omega)]; exact m3.2.2.2.1, by rw [w5 0 83 (by omega) (by omega)]; exact m3.2.2.2.2, by rw [w5 0 2 (by omega) (by omega)]; exact m3.1⟩ (fun k => by rw [w5 1 k (by omega) (by omega)]; exact m2 1 k (by omega)))
