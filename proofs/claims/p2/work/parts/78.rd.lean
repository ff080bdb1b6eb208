/-! the class's reader: small functions -/
/-- what an operator on the stack holds below it -/
def ndK (k : Int) : Int := if k = 34 then 2 else if (9 ≤ k ∧ k ≤ 19) ∨ (29 ≤ k ∧ k ≤ 31) ∨ k = 33 ∨ (37 ≤ k ∧ k ≤ 39) then 1 else 0
theorem ndK_b (k : Int) : 0 ≤ ndK k ∧ ndK k ≤ 2 := by
  unfold ndK
  split
  · omega
  · split <;> omega
def rankK (k : Int) : Int := if 9 ≤ k ∧ k ≤ 14 then 5 else if k = 15 ∨ k = 16 then 6 else if k = 17 ∨ k = 38 ∨ k = 39 then 7 else if k = 18 ∨ k = 34 ∨ k = 37 then 1 else if k = 19 then 2 else if k = 28 ∨ k = 35 ∨ k = 36 ∨ k = 42 then 8 else if k = 29 then 4 else if k = 30 ∨ k = 31 then 3 else 0
theorem f_S_rank_eq (γ : St) (a0 : Int) : f_S_rank γ a0 = some (rankK a0, γ) := by
  unfold f_S_rank rankK
  grind (splits := 80)
def nestK (k : Int) : Int := if (9 ≤ k ∧ k ≤ 17) ∨ (29 ≤ k ∧ k ≤ 31) ∨ k = 38 ∨ k = 39 then 0 else 1
theorem f_S_nesting_eq (γ : St) (a0 : Int) : f_S_nesting γ a0 = some (nestK a0, γ) := by
  unfold f_S_nesting nestK
  grind (splits := 80)
theorem wp_eq {α : Type} {o : Option α} {a : α} {Q : α → Prop} (e : o = some a) (h : Q a) : wp o Q := by rw [e]; exact h
/-- sums over the stack -/
def sumK (f : Int → Int) (g : Int → Int) : Nat → Int
  | 0 => 0
  | n + 1 => sumK f g n + f (g n)
theorem sumK_cong {f g g' : Int → Int} : ∀ {n : Nat}, (∀ i : Int, 0 ≤ i → i < n → g i = g' i) → sumK f g n = sumK f g' n := by
  intro n
  induction n with
  | zero => intro _; rfl
  | succ n ih =>
    intro h
    show sumK f g n + f (g n) = sumK f g' n + f (g' n)
    rw [ih (fun i h1 h2 => h i h1 (by omega)), h n (by omega) (by omega)]
theorem sumK_nn {f g : Int → Int} (hf : ∀ k, 0 ≤ f k) : ∀ {n : Nat}, 0 ≤ sumK f g n := by
  intro n
  induction n with
  | zero => exact Int.le_refl _
  | succ n ih =>
    have := hf (g n)
    show 0 ≤ sumK f g n + f (g n)
    omega
theorem w_Cd_add {γ : St} {a0 a1 a2 : Int} (h : 0 ≤ γ 4 4 ∧ γ 4 4 < 65537) : wp (f_Cd_add γ a0 a1 a2) (fun z => z.2 4 4 = γ 4 4 + 1 ∧ (z.2 38 (γ 4 4) = a0 ∧ z.2 39 (γ 4 4) = a1 ∧ z.2 40 (γ 4 4) = a2) ∧ (∀ j k, (j < 38 ∨ 41 < j ∨ k ≠ γ 4 4) → (j ≠ 4 ∨ k ≠ 4) → z.2 j k = γ j k)) := by
  unfold f_Cd_add
  refine wp_chk (by omega) (wp_sub (wp_chk (by simp [stA]; omega) (wp_sub (wp_chk (by simp [stA]; omega) (wp_sub (wp_chk (by simp [stA]; omega) (wp_sub (wp_chk (by simp [stA]; omega) (wp_sub (wp_some ?_))))))))))
  refine ⟨by simp [stA], ⟨by simp [stA], by simp [stA], by simp [stA]⟩, fun j k h1 h2 => ?_⟩
  simp [stA]
  grind
