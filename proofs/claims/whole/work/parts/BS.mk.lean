/-! equality: the reference makes an atom -/
def m0S (γ : St) (a0 a1 : Int) : St := fun j k => if (j = 26 ∨ j = 27) ∧ k = γ 0 40 then 1 else if j = 24 ∧ k = γ 0 40 then -2 else if (j = 22 ∨ j = 23) ∧ k = γ 0 40 then -1 else if j = 21 ∧ k = γ 0 40 then a1 else if j = 20 ∧ k = γ 0 40 then a0 else if j = 0 ∧ k = 40 then γ 0 40 + 1 else γ j k
theorem L74_no {P : Res → Prop} {x : St → Int → Int → Option Res} {a b : Int} (γ : St) (h : pc (x γ a b) P) : ∀ n : Nat, pc (f_M_make_L74 x n γ a b (-1)) P
  | 0 => pc_n
  | n + 1 => by
    unfold f_M_make_L74
    rw [if_pos (by decide)]
    exact h
theorem make0_pc {γ : St} {a0 a1 : Int} (h : a0 = 0 ∨ a0 = 1 ∨ a0 = 2) : pc (f_M_make γ a0 a1 (-1) 1) (fun z => z = (.inr (γ 0 40), m0S γ a0 a1)) := by
  unfold f_M_make
  refine pc_c (fun _ => pc_a (pc_a (pc_c (fun _ => pc_a (pc_c (fun _ => pc_a (pc_c (fun _ => pc_a (pc_c (fun _ => pc_a (pc_c (fun _ => pc_a (pc_c (fun _ => pc_a (pc_c (fun _ => pc_a ?_))))))))))))))))
  generalize hg : setA _ 27 (γ 0 40) 1 = γ2
  have e : γ2 = m0S γ a0 a1 := by
    rw [← hg]
    funext j k
    simp [stA, m0S]
    grind
  rw [e]
  refine L74_no _ ?_ FU
  unfold f_M_make_b134 f_M_make_b203
  have e27 : m0S γ a0 a1 27 (γ 0 40) = 1 := by
    show (if _ then _ else _) = _
    rw [if_pos ⟨by omega, rfl⟩]
  rw [e27, if_pos (by decide), if_neg (by omega), if_neg (by omega), if_pos (by omega), if_pos (by omega)]
  exact pc_c (fun _ => pc_s rfl)
