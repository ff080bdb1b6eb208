/-! equality: push and takeAtom, as functions -/
theorem step_pc2 {γ : St} (h : γ 1 6 + 1 < γ 1 5) : pc (f_Tk_step γ) (fun z => z = (0, nxS γ)) := fun y e => by
  unfold f_Tk_step at e
  have e1 := (chk_e e).2
  rw [if_neg (by omega)] at e1
  have e2 : some (0, nxS γ) = some y := (chk_e e1).2
  cases e2; rfl
theorem LexR.lt {N : Int} {γ δ : St} (h : LexR N γ δ) (k0 : tK δ ≠ 0) (k3 : tK δ ≠ 3) : γ 1 6 + 1 < γ 1 5 := by
  have ⟨h1, h2, h3, h4, h5⟩ := h
  have K := h.K
  have ln : γ 1 6 < N := by
    by_cases q : γ 1 6 = N
    · rw [q] at K
      rcases h3.2.2.2.2 with r | r
      · exact absurd (K.symm.trans r.1) k0
      · exact absurd (K.symm.trans r) k3
    · omega
  have b := h3.2.1
  omega
/-- something waits -/
def puS (γ : St) (k w : Int) : St := fun j i => if j = 6 ∧ i = 13 then w else if j = 6 ∧ i = 12 then 1 else if j = 6 ∧ i = 10 then γ 6 10 + nestK k else if j = 6 ∧ i = 8 then γ 6 8 + 1 else if j = 48 ∧ i = γ 6 8 then k else γ j i
theorem puS_o (γ : St) (k w : Int) {j : Nat} {i : Int} (h : j ≠ 6 ∨ i < 8 ∨ i = 9 ∨ i = 11 ∨ 13 < i) (h2 : j ≠ 48 ∨ i ≠ γ 6 8) : puS γ k w j i = γ j i := by
  show (if _ then _ else _) = _
  rw [if_neg (by omega), if_neg (by omega), if_neg (by omega), if_neg (by omega), if_neg (by omega)]
theorem push_pc {γ : St} {k w : Int} (h : γ 6 8 < 512) (hl : γ 1 6 + 1 < γ 1 5) : pc (f_Er_push γ k w) (fun z => z = (1, nxS (puS γ k w))) := by
  unfold f_Er_push
  rw [if_pos h]
  refine pc_c (fun _ => pc_a (pc_c (fun _ => pc_a (pc_b (P := fun z => z = (nestK k, setA (setA γ 48 (γ 6 8) k) 6 8 (setA γ 48 (γ 6 8) k 6 8 + 1))) (fun y e => by rw [f_S_nesting_eq] at e; cases e; rfl) (fun r γ1 e => ?_)))))
  cases e
  refine pc_c (fun _ => pc_a (pc_a (pc_c (fun _ => pc_a ?_))))
  generalize hg : setA _ 6 13 w = γ2
  have e : γ2 = puS γ k w := by
    rw [← hg]
    funext j i
    simp [stA, puS]
  rw [e]
  have hl' : puS γ k w 1 6 + 1 < puS γ k w 1 5 := by rw [puS_o γ k w (by omega) (by omega), puS_o γ k w (by omega) (by omega)]; exact hl
  refine pc_b (step_pc2 hl') (fun r γ3 e => ?_)
  cases e
  exact pc_s rfl
/-- an atom is taken -/
def taS (γ : St) (k v : Int) : St := fun j i => if j = 6 ∧ i = 12 then 0 else if j = 6 ∧ i = 9 then γ 6 9 + 1 else if j = 52 ∧ i = γ 6 9 then 1 else caS γ k v 0 j i
theorem takeAtom_pc {γ : St} {k v : Int} (h : γ 6 9 < 512) (hl : γ 1 6 + 1 < γ 1 5) : pc (f_Er_takeAtom γ k v) (fun z => z = (1, nxS (taS γ k v))) := by
  unfold f_Er_takeAtom
  rw [if_pos h]
  refine pc_b cdadd_pc (fun r γ1 e => ?_)
  cases e
  refine pc_c (fun _ => pc_a (pc_c (fun _ => pc_a (pc_a ?_))))
  have e9 : caS γ k v 0 6 9 = γ 6 9 := caS_o _ _ _ _ (by omega) (by omega)
  generalize hg : setA _ 6 12 0 = γ2
  have e : γ2 = taS γ k v := by
    rw [← hg]
    funext j i
    simp [stA, taS, e9]
  rw [e]
  have o : ∀ i, taS γ k v 1 i = γ 1 i := fun i => by
    show (if _ then _ else _) = _
    rw [if_neg (by omega), if_neg (by omega), if_neg (by omega), caS_o _ _ _ _ (by omega) (by omega)]
  refine pc_b (step_pc2 (by rw [o, o]; exact hl)) (fun r γ3 e => ?_)
  cases e
  exact pc_s rfl
