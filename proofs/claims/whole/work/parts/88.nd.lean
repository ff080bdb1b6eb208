/-! the class's nodes: what stands when a node is read -/
/-- sums over a stretch -/
def sm (f : Int → Int) (a b : Int) : Int := sumK (fun x => x) (fun i => f (a + i)) (b - a).toNat
theorem sm_nil {f : Int → Int} {a b : Int} (h : b ≤ a) : sm f a b = 0 := by
  unfold sm
  rw [show (b - a).toNat = 0 by omega]
  rfl
theorem sm_succ {f : Int → Int} {a b : Int} (h : a ≤ b) : sm f a (b + 1) = sm f a b + f b := by
  unfold sm
  rw [show b + 1 - a = (b - a) + 1 by omega, sumK_pop (show 0 < (b - a) + 1 by omega), show b - a + 1 - 1 = b - a by omega, show a + (b - a) = b by omega]
theorem sm_ext {f g : Int → Int} {a b : Int} (h : ∀ i, a ≤ i → i < b → f i = g i) : sm f a b = sm g a b := by
  unfold sm
  exact sumK_cong (fun i h1 h2 => h (a + i) (by omega) (by omega))
theorem sm_cons {f : Int → Int} {a b : Int} (h : a < b) : sm f a b = f a + sm f (a + 1) b := by
  have x : ∀ m : Nat, sm f a (a + 1 + m) = f a + sm f (a + 1) (a + 1 + m) := by
    intro m
    induction m with
    | zero =>
      rw [show a + 1 + ((0 : Nat) : Int) = a + 1 by omega, sm_succ (Int.le_refl _), sm_nil (Int.le_refl _), sm_nil (Int.le_refl _)]
      omega
    | succ m ih =>
      rw [show a + 1 + ((m + 1 : Nat) : Int) = a + 1 + m + 1 by omega, sm_succ (by omega), ih, sm_succ (by omega)]
      omega
  have := x (b - a - 1).toNat
  rw [show a + 1 + (((b - a - 1).toNat : Nat) : Int) = b by omega] at this
  exact this
theorem sm_nn {f : Int → Int} {a b : Int} (h : ∀ i, a ≤ i → i < b → 0 ≤ f i) : 0 ≤ sm f a b := by
  have x : ∀ m : Nat, a + m ≤ b → 0 ≤ sm f a (a + m) := by
    intro m
    induction m with
    | zero => intro _; rw [sm_nil (by omega)]; omega
    | succ m ih =>
      intro hm
      have := ih (by omega)
      have := h (a + m) (by omega) (by omega)
      rw [show a + ((m + 1 : Nat) : Int) = a + m + 1 by omega, sm_succ (by omega)]
      omega
  by_cases c : a ≤ b
  · have := x (b - a).toNat (by omega)
    rw [show a + (((b - a).toNat : Nat) : Int) = b by omega] at this
    exact this
  · rw [sm_nil (by omega)]; omega
/-- a variable's clock and how deep it is -/
def VrI (γ : St) (f v : Int) : Prop := (-1 ≤ γ 34 (f + v) ∧ γ 34 (f + v) < 2 * v) ∧ (0 ≤ γ 35 (f + v) ∧ γ 35 (f + v) ≤ 8)
/-- an equation that has been read, of the node n -/
def EqC (γ : St) (n e : Int) : Prop := (0 ≤ γ 43 e ∧ γ 43 e < γ 44 e ∧ γ 44 e ≤ γ 4 4) ∧ Pf γ (γ 43 e) = e ∧ Pf γ (γ 44 e) = e + 1 ∧ (0 ≤ γ 45 e ∧ 1 ≤ γ 46 e ∧ γ 45 e + γ 46 e ≤ γ 4 12) ∧ (∀ i, γ 45 e ≤ i → i < γ 45 e + γ 46 e → 0 ≤ γ 47 i ∧ γ 47 i < γ 28 n) ∧ ∀ i, γ 43 e ≤ i → i < γ 44 e → PtI γ n (γ 28 n) e i
/-- an equation that has been checked -/
def EqD (γ : St) (n e : Int) : Prop := (∀ i, γ 43 e ≤ i → i < γ 44 e → (γ 38 i = 43 → γ 40 i = γ 26 (γ 39 i) ∧ γ 27 (γ 39 i) = (if i = γ 44 e - 1 then γ 46 e else 1)) ∧ -1 ≤ γ 41 i ∧ γ 41 i < 2 * γ 28 n) ∧ (γ 38 (γ 44 e - 1) ≠ 43 → γ 46 e = 1)
def cpF (γ : St) (i : Int) : Int := 1 + (if γ 38 i = 43 then γ 31 (γ 39 i) else 0)
def cvF (γ : St) (i : Int) : Int := if γ 38 i = 43 then γ 32 (γ 39 i) else 0
/-- a node's sizes -/
def SzI (γ : St) (n : Int) : Prop := (0 ≤ γ 31 n ∧ γ 31 n ≤ 1000000 ∧ (γ 31 n < 1000000 → γ 31 n = sm (cpF γ) (γ 43 (γ 29 n)) (γ 44 (γ 29 n + γ 30 n - 1)) + γ 30 n)) ∧ (0 ≤ γ 32 n ∧ γ 32 n ≤ 1000000 ∧ (γ 32 n < 1000000 → γ 32 n = γ 28 n + sm (cvF γ) (γ 43 (γ 29 n)) (γ 44 (γ 29 n + γ 30 n - 1))))
/-- a node that is closed -/
def NdC (γ : St) (n : Int) : Prop := (0 ≤ γ 25 n ∧ γ 25 n ≤ 99 * n ∧ 0 ≤ γ 26 n ∧ 0 ≤ γ 27 n ∧ γ 26 n + γ 27 n ≤ γ 28 n ∧ γ 28 n ≤ 99) ∧ (0 ≤ γ 29 n ∧ 1 ≤ γ 30 n ∧ γ 29 n + γ 30 n ≤ γ 4 10) ∧ (∀ v, 0 ≤ v → v < γ 28 n → VrI γ (γ 25 n) v) ∧ (∀ e, γ 29 n ≤ e → e < γ 29 n + γ 30 n → EqC γ n e ∧ EqD γ n e) ∧ (∀ e, γ 29 n ≤ e → e + 1 < γ 29 n + γ 30 n → γ 43 (e + 1) = γ 44 e) ∧ SzI γ n
theorem EqC.ext {γ γ' : St} {n n' e : Int} (h : EqC γ n e) (he : 0 ≤ e) (l28 : γ 28 n ≤ γ' 28 n') (ln : n ≤ n') (e3 : ∀ j k, 38 ≤ j → j ≤ 40 → k < γ 4 4 → γ' j k = γ j k) (e4 : ∀ j, 43 ≤ j → j ≤ 46 → γ' j e = γ j e) (e5 : ∀ k, k < γ 4 12 → γ' 47 k = γ 47 k) (m4 : γ 4 4 ≤ γ' 4 4) (m12 : γ 4 12 ≤ γ' 4 12) : EqC γ' n' e := by
  have ⟨a1, a2, a3, a4, a5, a6⟩ := h
  have b3 := e4 43 (by omega) (by omega)
  have b4 := e4 44 (by omega) (by omega)
  have b5 := e4 45 (by omega) (by omega)
  have b6 := e4 46 (by omega) (by omega)
  have p : ∀ k, k ≤ γ 4 4 → Pf γ' k = Pf γ k := fun k hk => Pf_ext (fun i _ _ => e3 40 i (by omega) (by omega) (by omega))
  refine ⟨by omega, ?_, ?_, by omega, fun i h1 h2 => ?_, fun i h1 h2 => ?_⟩
  · rw [b3, p _ (by omega)]; exact a2
  · rw [b4, p _ (by omega)]; exact a3
  · rw [e5 i (by omega)]
    have := a5 i (by omega) (by omega)
    omega
  · exact ((a6 i (by omega) (by omega)).ext (by omega) (e3 38 i (by omega) (by omega) (by omega)) (e3 39 i (by omega) (by omega) (by omega)) (fun k _ _ => e3 40 k (by omega) (by omega) (by omega))).up ln l28
theorem NdC.ext {γ γ' : St} {n : Int} (h : NdC γ n) (hn : 0 ≤ n) (e1 : ∀ j k, 25 ≤ j → j ≤ 32 → 0 ≤ k → k ≤ n → γ' j k = γ j k) (e2 : ∀ j k, (j = 34 ∨ j = 35) → k < γ 25 n + γ 28 n → γ' j k = γ j k) (e3 : ∀ j k, 38 ≤ j → j ≤ 40 → k < γ 4 4 → γ' j k = γ j k) (e41 : ∀ k, k < γ 44 (γ 29 n + γ 30 n - 1) → γ' 41 k = γ 41 k) (e4 : ∀ j k, 43 ≤ j → j ≤ 46 → k < γ 4 10 → γ' j k = γ j k) (e5 : ∀ k, k < γ 4 12 → γ' 47 k = γ 47 k) (m4 : γ 4 4 ≤ γ' 4 4) (m10 : γ 4 10 ≤ γ' 4 10) (m12 : γ 4 12 ≤ γ' 4 12) : NdC γ' n := by
  have ⟨a1, a2, a3, a4, a5, a6⟩ := h
  have b : ∀ j, 25 ≤ j → j ≤ 32 → γ' j n = γ j n := fun j h1 h2 => e1 j n h1 h2 hn (Int.le_refl _)
  have b25 := b 25 (by omega) (by omega)
  have b26 := b 26 (by omega) (by omega)
  have b27 := b 27 (by omega) (by omega)
  have b28 := b 28 (by omega) (by omega)
  have b29 := b 29 (by omega) (by omega)
  have b30 := b 30 (by omega) (by omega)
  have b31 := b 31 (by omega) (by omega)
  have b32 := b 32 (by omega) (by omega)
  have f0 := e4 43 (γ 29 n) (by omega) (by omega) (by omega)
  have f1 := e4 44 (γ 29 n + γ 30 n - 1) (by omega) (by omega) (by omega)
  -- every part within lies in an equation
  have co : ∀ m : Nat, γ 29 n + m < γ 29 n + γ 30 n → ∀ i, γ 43 (γ 29 n) ≤ i → i < γ 44 (γ 29 n + m) → ∃ e, γ 29 n ≤ e ∧ e < γ 29 n + γ 30 n ∧ γ 43 e ≤ i ∧ i < γ 44 e := by
    intro m
    induction m with
    | zero => intro hm i h1 h2; exact ⟨γ 29 n, by omega, by omega, h1, by rw [show γ 29 n = γ 29 n + ((0 : Nat) : Int) by omega]; exact h2⟩
    | succ m ih =>
      intro hm i h1 h2
      by_cases c : i < γ 44 (γ 29 n + m)
      · exact ih (by omega) i h1 c
      · have c5 := a5 (γ 29 n + m) (by omega) (by omega)
        rw [show γ 29 n + ((m + 1 : Nat) : Int) = γ 29 n + m + 1 by omega] at h2
        exact ⟨γ 29 n + m + 1, by omega, by omega, by omega, h2⟩
  have cal : ∀ i, γ 43 (γ 29 n) ≤ i → i < γ 44 (γ 29 n + γ 30 n - 1) → γ' 38 i = γ 38 i ∧ γ' 39 i = γ 39 i ∧ (γ 38 i = 43 → 0 ≤ γ 39 i ∧ γ 39 i < n) := by
    intro i h1 h2
    have := co (γ 30 n - 1).toNat (by omega) i h1 (by rw [show γ 29 n + (((γ 30 n - 1).toNat : Nat) : Int) = γ 29 n + γ 30 n - 1 by omega]; exact h2)
    obtain ⟨e, q1, q2, q3, q4⟩ := this
    have w := (a4 e q1 q2).1
    have w1 := w.1
    exact ⟨e3 38 i (by omega) (by omega) (by omega), e3 39 i (by omega) (by omega) (by omega), (w.2.2.2.2.2 i q3 q4).2.1⟩
  have mo : ∀ e, γ 29 n ≤ e → e < γ 29 n + γ 30 n → γ 44 e ≤ γ 44 (γ 29 n + γ 30 n - 1) := by
    intro e h1 h2
    have x : ∀ m : Nat, e + m < γ 29 n + γ 30 n → γ 44 e ≤ γ 44 (e + m) := by
      intro m
      induction m with
      | zero => intro _; rw [show e + ((0 : Nat) : Int) = e by omega]; omega
      | succ m ih =>
        intro hm
        have i1 := ih (by omega)
        have i2 := a5 (e + m) (by omega) (by omega)
        have i3 := (a4 (e + m + 1) (by omega) (by omega)).1.1
        rw [show e + ((m + 1 : Nat) : Int) = e + m + 1 by omega]
        omega
    have := x (γ 29 n + γ 30 n - 1 - e).toNat (by omega)
    rw [show e + (((γ 29 n + γ 30 n - 1 - e).toNat : Nat) : Int) = γ 29 n + γ 30 n - 1 by omega] at this
    exact this
  refine ⟨by omega, by omega, fun v h1 h2 => ?_, fun e h1 h2 => ⟨?_, ?_⟩, fun e h1 h2 => ?_, ?_⟩
  · unfold VrI
    rw [b25, e2 34 _ (by omega) (by omega), e2 35 _ (by omega) (by omega)]
    exact a3 v h1 (by omega)
  · have w := (a4 e (by omega) (by omega)).1
    exact w.ext (by omega) (by omega) (Int.le_refl _) e3 (fun j q1 q2 => e4 j e q1 q2 (by omega)) e5 m4 m12
  · have w := (a4 e (by omega) (by omega))
    have w1 := w.1.1
    have w2 := w.2
    have g3 := e4 43 e (by omega) (by omega) (by omega)
    have g4 := e4 44 e (by omega) (by omega) (by omega)
    have g6 := e4 46 e (by omega) (by omega) (by omega)
    refine ⟨fun i q1 q2 => ⟨fun q3 => ?_, ?_⟩, fun q3 => ?_⟩
    · rw [e3 38 i (by omega) (by omega) (by omega)] at q3
      have y := (w.1.2.2.2.2.2 i (by omega) (by omega)).2.1 q3
      have z := (w2.1 i (by omega) (by omega)).1 q3
      rw [e3 39 i (by omega) (by omega) (by omega), e3 40 i (by omega) (by omega) (by omega), e1 26 _ (by omega) (by omega) y.1 (by omega), e1 27 _ (by omega) (by omega) y.1 (by omega), g4, g6]
      exact z
    · rw [e41 i (by have := mo e (by omega) (by omega); omega), b28]
      exact (w2.1 i (by omega) (by omega)).2
    · rw [g4, e3 38 _ (by omega) (by omega) (by omega)] at q3
      rw [g6]
      exact w2.2 q3
  · rw [e4 43 _ (by omega) (by omega) (by omega), e4 44 _ (by omega) (by omega) (by omega)]
    exact a5 e (by omega) (by omega)
  · unfold SzI
    have s1 : sm (cpF γ') (γ 43 (γ 29 n)) (γ 44 (γ 29 n + γ 30 n - 1)) = sm (cpF γ) (γ 43 (γ 29 n)) (γ 44 (γ 29 n + γ 30 n - 1)) := sm_ext (fun i h1 h2 => by
      have ⟨c1, c2, c3⟩ := cal i h1 h2
      unfold cpF
      rw [c1, c2]
      by_cases q : γ 38 i = 43
      · rw [if_pos q, if_pos q, e1 31 _ (by omega) (by omega) (c3 q).1 (by have := c3 q; omega)]
      · rw [if_neg q, if_neg q])
    have s2 : sm (cvF γ') (γ 43 (γ 29 n)) (γ 44 (γ 29 n + γ 30 n - 1)) = sm (cvF γ) (γ 43 (γ 29 n)) (γ 44 (γ 29 n + γ 30 n - 1)) := sm_ext (fun i h1 h2 => by
      have ⟨c1, c2, c3⟩ := cal i h1 h2
      unfold cvF
      rw [c1, c2]
      by_cases q : γ 38 i = 43
      · rw [if_pos q, if_pos q, e1 32 _ (by omega) (by omega) (c3 q).1 (by have := c3 q; omega)]
      · rw [if_neg q, if_neg q])
    rw [b31, b32, b28, b29, b30, f0, f1, s1, s2]
    exact a6
theorem NdC.l {γ : St} {n : Int} (h : NdC γ n) : γ 44 (γ 29 n + γ 30 n - 1) ≤ γ 4 4 := by
  have ⟨a1, a2, a3, a4, a5, a6⟩ := h
  exact (a4 (γ 29 n + γ 30 n - 1) (by omega) (by omega)).1.1.2.2
