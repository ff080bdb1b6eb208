/-! the class's expression reader: reduce -/
theorem w_red_L119 {e : St → Int → Int → Int → Int → Option (Int × St)} {Q : Int × St → Prop} {γ : St} {x46 x47 x48 : Int} (hE : ∀ v, 0 ≤ v → v ≤ γ 4 4 → wp (e γ x46 x47 x48 v) Q) (hm : ∀ i, γ 6 9 - 1 ≤ i → i < γ 6 9 - 1 + x48 → 0 ≤ γ 52 i ∧ γ 52 i ≤ γ 4 4) (hb : 1 ≤ γ 6 9 ∧ γ 6 9 - 1 + x48 ≤ 512) (h48 : x48 ≤ 3) : ∀ (n : Nat) (x49 x50 : Int), 1 ≤ x50 → x50 ≤ x48 → 0 ≤ x49 → x49 ≤ γ 4 4 → x48 - x50 < n → wp (f_Er_reduce_L119 e n γ x46 x47 x48 x49 x50) Q := by
  intro n
  induction n with
  | zero => intro x49 x50 h1 h2 h3 h4 h5; exfalso; omega
  | succ n ih =>
    intro x49 x50 h1 h2 h3 h4 h5
    unfold f_Er_reduce_L119
    refine wp_ite (fun _ => hE _ h3 h4) (fun c => wp_chk (by omega) (wp_chk (by omega) (wp_chk (by omega) (wp_ite (fun _ => wp_chk (by omega) (wp_chk (by omega) (wp_chk (by omega) ?_))) (fun _ => ?_)))))
    · have := hm (γ 6 9 - 1 + x50) (by omega) (by omega)
      unfold f_Er_reduce_b164
      exact wp_chk (by omega) (ih _ _ (by omega) (by omega) (by omega) (by omega) (by omega))
    · unfold f_Er_reduce_b164
      exact wp_chk (by omega) (ih _ _ (by omega) (by omega) (by omega) (by omega) (by omega))
/-- what reduce leaves -/
def RdP (γ : St) (z : Int × St) : Prop := ErJ z.2 ∧ FrR γ z.2 ∧ z.2 6 12 = 0 ∧ z.2 6 8 ≤ γ 6 8 ∧ z.2 1 6 = γ 1 6 ∧ (∀ j k, (j = 6 ∧ 10 < k ∨ 42 ≤ j ∧ j ≠ 52) → z.2 j k = γ j k) ∧ ErS z.2 ∧ (z.1 = 0 ∧ z.2 1 7 ≠ 0 ∨ z.1 = 1 ∧ z.2 1 7 = γ 1 7)
theorem rank_nd {k : Int} (h : 1 ≤ rankK k) : (k ≠ 34 → rankK k ≠ 8 → ndK k = 1) ∧ (rankK k = 8 → ndK k = 0) ∧ (k = 34 → ndK k = 2) := by
  unfold rankK ndK at *
  grind (splits := 60)
theorem red_sd {k : Int} (h : 1 ≤ rankK k) : sdK (if k = 34 then 32 else k) (ndK k + 1) ∧ k ≠ 43 ∧ k ≠ 2 ∧ k ≠ 27 := by
  unfold rankK ndK sdK at *
  grind (splits := 60)
