/-! equality: reduce, one step at a time -/
def k0 (γ : St) (_ g : Int) : Option (Int × St) := some (g, γ)
theorem b203_s {k2 : St → Int → Int → Option (Int × St)} (γ : St) (a b c d : Int) : f_Er_reduce_b203 k2 γ a b c d = bndN (f_Er_reduce_b203 k0 γ a b c d) (fun g γ' => k2 γ' a g) := by
  unfold f_Er_reduce_b203 f_Er_reduce_b228 f_Er_reduce_b233
  simp only [bN_N, bN_I]
  rfl
theorem b172_s {k2 : St → Int → Int → Option (Int × St)} (γ : St) (a b c d : Int) : f_Er_reduce_b172 k2 γ a b c d = bndN (f_Er_reduce_b172 k0 γ a b c d) (fun g γ' => k2 γ' a g) := by
  unfold f_Er_reduce_b172
  simp only [bN_C, bN_I, ap, b203_s (k2 := k2)]
theorem L119_s {k2 : St → Int → Int → Option (Int × St)} {a b c : Int} : ∀ (n : Nat) (γ : St) (d i : Int), f_Er_reduce_L119 (f_Er_reduce_b172 k2) n γ a b c d i = bndN (f_Er_reduce_L119 (f_Er_reduce_b172 k0) n γ a b c d i) (fun g γ' => k2 γ' a g) := by
  intro n
  induction n with
  | zero => intro γ d i; rfl
  | succ n ih =>
    intro γ d i
    unfold f_Er_reduce_L119 f_Er_reduce_b164
    simp only [bN_C, bN_I, ih, b172_s (k2 := k2)]
theorem b75_s {k2 : St → Int → Int → Option (Int × St)} (γ : St) (a b c : Int) : f_Er_reduce_b75 k2 γ a b c = bndN (f_Er_reduce_b75 k0 γ a b c) (fun g γ' => k2 γ' a g) := by
  unfold f_Er_reduce_b75
  simp only [bN_N, bN_C, ap, L119_s (k2 := k2)]
/-- the top of the stack is taken down -/
def rd1 (γ : St) (x84 : Int) : Option (Int × St) :=
  chk (i32 ((γ 6 8) - 1)) (ap (setA γ 6 8 ((γ 6 8) - 1)) fun γ98 =>
  chk (inb (γ98 6 8) 512) (ap (γ98 48 (γ98 6 8)) fun x102 =>
  if x102 ≠ 34 then
  (bndN (f_S_rank γ98 x102) fun r103 γ104 =>
  if r103 ≠ 8 then
  (f_Er_reduce_b75 k0 γ104 x84 x102 2)
  else
  (f_Er_reduce_b75 k0 γ104 x84 x102 1))
  else
  (f_Er_reduce_b75 k0 γ98 x84 x102 3)))
/-- what stands on top -/
def topK (γ : St) : Int := γ 48 (γ 6 8 - 1)
theorem red_0 (n : Nat) (γ : St) (x : Int) : f_Er_reduce_L2 (n + 1) γ x 0 = some (0, γ) := by
  unfold f_Er_reduce_L2
  rw [if_pos rfl, chk_t (Or.inl rfl)]
theorem red_n (n : Nat) (γ : St) (x : Int) (h : γ 6 8 ≤ 0) : f_Er_reduce_L2 (n + 1) γ x 1 = some (1, γ) := by
  unfold f_Er_reduce_L2
  rw [if_neg (by decide), if_pos h, chk_t (Or.inr rfl)]
theorem red_l (n : Nat) (γ : St) (x : Int) (h : 0 < γ 6 8 ∧ γ 6 8 ≤ 512) (hr : rankK (topK γ) < x) : f_Er_reduce_L2 (n + 1) γ x 1 = some (1, γ) := by
  unfold f_Er_reduce_L2
  rw [if_neg (by decide), if_neg (by omega), chk_t (by omega), chk_t (by omega), bndN_eq (f_S_rank_eq γ _), if_pos (show rankK (γ 48 (γ 6 8 - 1)) < x from hr), chk_t (Or.inr rfl)]
theorem red_s (n : Nat) (γ : St) (x : Int) (h : 0 < γ 6 8 ∧ γ 6 8 ≤ 512) (hr : x ≤ rankK (topK γ)) : f_Er_reduce_L2 (n + 1) γ x 1 = bndN (rd1 γ x) (fun g γ' => f_Er_reduce_L2 n γ' x g) := by
  have hr' : ¬ rankK (γ 48 (γ 6 8 - 1)) < x := by show ¬ rankK (topK γ) < x; omega
  rw [f_Er_reduce_L2, if_neg (show ¬ (1 : Int) = 0 by decide), if_neg (show ¬ γ 6 8 ≤ 0 by omega), chk_t (show i32 (γ 6 8 - 1) by omega), chk_t (show inb (γ 6 8 - 1) 512 by omega), bndN_eq (f_S_rank_eq γ _), if_neg hr']
  unfold rd1
  simp only [bN_C, bN_I, bN_N, ap, b75_s (k2 := f_Er_reduce_L2 n)]
