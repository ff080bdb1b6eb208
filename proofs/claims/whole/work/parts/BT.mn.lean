/-! equality: the reference makes a part over its kids -/
/-- one kid is counted in -/
def kdS (γ : St) (n k : Int) : St := fun j i => if j = 27 ∧ i = n then max (γ 27 n) (γ 27 k + 1) else if j = 26 ∧ i = n then γ 26 n + γ 26 k else γ j i
theorem kdS_o (γ : St) (n k : Int) {j : Nat} {i : Int} (h : j ≠ 26 ∧ j ≠ 27 ∨ i ≠ n) : kdS γ n k j i = γ j i := by
  show (if _ then _ else _) = _
  rw [if_neg (by omega), if_neg (by omega)]
theorem L74_kd {P : Res → Prop} {x : St → Int → Int → Option Res} {a n k : Int} (γ : St) (hk : 0 ≤ k) (h : ∀ m : Nat, pc (f_M_make_L74 x m (kdS γ n k) a n (γ 23 k)) P) : ∀ m : Nat, pc (f_M_make_L74 x m γ a n k) P
  | 0 => pc_n
  | m + 1 => by
    unfold f_M_make_L74
    rw [if_neg (by omega)]
    refine pc_c (fun _ => pc_c (fun _ => pc_c (fun _ => pc_c (fun _ => pc_a (pc_c (fun _ => pc_c (fun _ => pc_c (fun _ => pc_c (fun _ => pc_a (pc_c (fun _ => pc_a ?_)))))))))))
    generalize hg : setA (setA γ 26 n _) 27 n _ = γ2
    have e : γ2 = kdS γ n k := by
      rw [← hg]
      funext j i
      simp [stA, kdS]
    rw [e, kdS_o γ n k (by omega)]
    exact h m
