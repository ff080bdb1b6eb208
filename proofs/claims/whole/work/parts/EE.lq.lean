/-! equality: what the linker has put in, against the reference's instances -/
def sdF (s : Int → Int) (ks : List Int) (j : Nat) : Int := match ks[j]? with
  | some k => s k
  | none => -1
theorem sdF_agree {s s' : Int → Int} {ks : List Int} (h : ∀ k ∈ ks, s' k = s k) (j : Nat) : sdF s' ks j = sdF s ks j := by
  unfold sdF
  cases q : ks[j]? with
  | none => rfl
  | some k => exact h k (List.mem_of_getElem? q)
def opK (k : Int) : Prop := k ≠ 2 ∧ k ≠ 3 ∧ k ≠ 27 ∧ k ≠ 40 ∧ k ≠ 41 ∧ k ≠ 43
/-- an operator's slot -/
def LqOp (V : Int) (γ δ : St) (s : Int → Int) (clk e : Int) : Prop := ∃ ks, Ch (δ 23) (δ 22 e) ks ∧ (V < s e ∧ s e < γ 8 5) ∧ (γ 54 (s e) = γ 38 e ∧ γ 55 (s e) = (if γ 38 e = 35 then -1 else sdF s ks 0) ∧ γ 56 (s e) = (if γ 38 e = 37 then -1 else if γ 38 e = 36 then slC clk else sdF s ks 1) ∧ γ 57 (s e) = sdF s ks 2) ∧ (γ 38 e = 35 ∨ γ 38 e = 36 → (0 ≤ γ 58 (s e) ∧ γ 58 (s e) < γ 8 11) ∧ γ 61 (γ 58 (s e)) = sdF s ks 0 ∧ γ 62 (γ 58 (s e)) = clk) ∧ (γ 38 e = 18 ∨ γ 38 e = 37 → (0 ≤ γ 58 (s e) ∧ γ 58 (s e) < γ 8 11) ∧ γ 61 (γ 58 (s e)) = V ∧ γ 62 (γ 58 (s e)) = clk) ∧ (γ 38 e = 37 → γ 58 (s e) + 1 < γ 8 11 ∧ γ 61 (γ 58 (s e) + 1) = sdF s ks 1 ∧ γ 62 (γ 58 (s e) + 1) = clk)
/-- a part's slot in the instance y, whose clock is c -/
def LqPt (V : Int) (γ δ : St) (s : Int → Int) (y c e : Int) : Prop := (γ 38 e = 3 ∨ γ 38 e = 40 ∨ γ 38 e = 41 → (V < s e ∧ s e < γ 8 5) ∧ γ 54 (s e) = 3 ∧ γ 58 (s e) = γ 39 e ∧ γ 55 (s e) = -1 ∧ γ 56 (s e) = -1 ∧ γ 57 (s e) = -1) ∧ (γ 38 e = 2 → s e = δ 38 y + γ 39 e) ∧ (γ 38 e = 27 → s e = s (δ 22 e)) ∧ (γ 38 e = 43 → s e = outV δ y e 0) ∧ (opK (γ 38 e) → LqOp V γ δ s (ccK (δ 38 y) c (γ 41 e)) e)
/-- a variable's slot -/
def LqVr (γ : St) (n B c i : Int) : Prop := γ 54 (B + i) = 2 ∧ γ 57 (B + i) = -1 ∧ γ 59 (B + i) = ccK B c (γ 34 (γ 25 n + i)) ∧ γ 56 (B + i) = slC (γ 59 (B + i)) ∧ (γ 26 n ≤ i → γ 60 (B + i) = γ 37 (γ 25 n + i))
/-- what an equation defines -/
def LqDf (γ δ : St) (s : Int → Int) (y k : Int) : Prop := ∀ t, 0 ≤ t → t < γ 46 k → γ 55 (δ 38 y + γ 47 (γ 45 k + t)) = if γ 38 (δ 17 k) = 43 then outV δ y (δ 17 k) t else s (δ 17 k)
/-- an instance that is put in -/
def LqIn (V : Int) (γ δ : St) (σ : Int → Int → Int) (κ : Int → Int) (y : Int) : Prop := (∀ e, psN δ (δ 35 y) ≤ e → e < peN δ (δ 35 y) → LqPt V γ δ (σ y) y (κ y) e) ∧ (∀ i, 0 ≤ i → i < γ 28 (δ 35 y) → LqVr γ (δ 35 y) (δ 38 y) (κ y) i) ∧ ∀ k, δ 7 (δ 35 y) ≤ k → k < δ 7 (δ 35 y + 1) → LqDf γ δ (σ y) y k
/-- what its call gives it -/
def LqIp (γ δ : St) (σ : Int → Int → Int) (κ : Int → Int) (y : Int) : Prop := κ y = ccK (δ 38 (δ 36 y)) (κ (δ 36 y)) (γ 41 (δ 37 y)) ∧ ∃ ms k, Ch (δ 23) (δ 22 (δ 37 y)) ms ∧ (ms.length : Int) = γ 26 (δ 35 y) ∧ (δ 7 (δ 35 (δ 36 y)) ≤ k ∧ k < δ 7 (δ 35 (δ 36 y) + 1)) ∧ (δ 19 k ≤ δ 37 y ∧ δ 37 y ≤ δ 17 k) ∧ ∀ (i : Nat) a, ms[i]? = some a → γ 55 (δ 38 y + i) = σ (δ 36 y) a ∧ γ 60 (δ 38 y + i) = γ 42 k
/-- what stays of the class's slots; row 55 may change from lo to hi -/
def LqPr (V lo hi : Int) (γ γ' : St) : Prop := (∀ j k, j < 8 ∨ 10 ≤ j ∧ j < 54 → γ' j k = γ j k) ∧ (∀ j s, 54 ≤ j → j ≤ 60 → (s < γ 9 11 ∨ V ≤ s ∧ s < γ 8 5) → (j = 55 → s < lo ∨ hi ≤ s) → γ' j s = γ j s) ∧ (∀ j i, j = 61 ∨ j = 62 → i < γ 8 11 → γ' j i = γ j i) ∧ γ 9 11 ≤ γ' 9 11 ∧ γ 8 5 ≤ γ' 8 5 ∧ γ 8 11 ≤ γ' 8 11 ∧ γ' 9 12 = γ 9 12
theorem LqPr.rf {V lo hi : Int} {γ : St} : LqPr V lo hi γ γ := ⟨fun _ _ _ => rfl, fun _ _ _ _ _ _ => rfl, fun _ _ _ _ => rfl, Int.le_refl _, Int.le_refl _, Int.le_refl _, rfl⟩
theorem LqPr.tr {V lo hi l2 h2 : Int} {γ γ' γ'' : St} (h : LqPr V lo hi γ γ') (g : LqPr V l2 h2 γ' γ'') (w : ∀ s, s < γ 9 11 ∨ V ≤ s → s < lo ∨ hi ≤ s → s < l2 ∨ h2 ≤ s) : LqPr V lo hi γ γ'' := by
  obtain ⟨a1, a2, a3, a4, a5, a6, a7⟩ := h
  obtain ⟨b1, b2, b3, b4, b5, b6, b7⟩ := g
  refine ⟨fun j k q => by rw [b1 j k q, a1 j k q], fun j s q1 q2 q3 q4 => ?_, fun j i q1 q2 => by rw [b3 j i q1 (by omega), a3 j i q1 q2], by omega, by omega, by omega, by omega⟩
  rw [b2 j s q1 q2 (by omega) (fun q5 => w s (by omega) (q4 q5)), a2 j s q1 q2 q3 q4]
theorem LqPt.up {V lo hi : Int} {γ γ' δ δ' : St} {s s' : Int → Int} {y c e : Int} (h : LqPt V γ δ s y c e) (P : LqPr V lo hi γ γ') (hV : hi ≤ V) (d22 : δ' 22 e = δ 22 e) (d23 : δ' 23 = δ 23) (d38 : δ' 38 y = δ 38 y) (dO : γ 38 e = 43 → outV δ' y e 0 = outV δ y e 0) (se : s' e = s e) (sk : ∀ ks, Ch (δ 23) (δ 22 e) ks → ∀ k ∈ ks, s' k = s k) (s27 : γ 38 e = 27 → s' (δ 22 e) = s (δ 22 e)) : LqPt V γ' δ' s' y c e := by
  obtain ⟨h1, h2, h3, h4, h5⟩ := h
  obtain ⟨a1, a2, a3, a4, a5, a6, a7⟩ := P
  have t38 := a1 38 e (by omega)
  have t39 := a1 39 e (by omega)
  have t41 := a1 41 e (by omega)
  unfold LqPt
  rw [t38, t39, t41, d22, d38, se]
  refine ⟨fun q => ?_, h2, fun q => by rw [s27 q]; exact h3 q, fun q => by rw [dO q]; exact h4 q, fun q => ?_⟩
  · obtain ⟨b, c1, c2, c3, c4, c5⟩ := h1 q
    rw [a2 54 _ (by omega) (by omega) (by omega) (by omega), a2 55 _ (by omega) (by omega) (by omega) (by omega), a2 56 _ (by omega) (by omega) (by omega) (by omega), a2 57 _ (by omega) (by omega) (by omega) (by omega), a2 58 _ (by omega) (by omega) (by omega) (by omega)]
    exact ⟨by omega, c1, c2, c3, c4, c5⟩
  · obtain ⟨ks, b1, b2, b3, b4, b5, b6⟩ := h5 q
    have g := sdF_agree (sk ks b1)
    have r54 := a2 54 (s e) (by omega) (by omega) (by omega) (by omega)
    have r55 := a2 55 (s e) (by omega) (by omega) (by omega) (by omega)
    have r56 := a2 56 (s e) (by omega) (by omega) (by omega) (by omega)
    have r57 := a2 57 (s e) (by omega) (by omega) (by omega) (by omega)
    have r58 := a2 58 (s e) (by omega) (by omega) (by omega) (by omega)
    unfold LqOp
    rw [d22, d23, se, t38, r54, r55, r56, r57, r58]
    refine ⟨ks, b1, by omega, by rw [g 0, g 1, g 2]; exact b3, fun q2 => ?_, fun q2 => ?_, fun q2 => ?_⟩
    · have := b4 q2
      rw [a3 61 _ (by omega) (by omega), a3 62 _ (by omega) (by omega), g 0]
      exact ⟨by omega, this.2⟩
    · have := b5 q2
      rw [a3 61 _ (by omega) (by omega), a3 62 _ (by omega) (by omega)]
      exact ⟨by omega, this.2⟩
    · have := b6 q2
      rw [a3 61 _ (by omega) (by omega), a3 62 _ (by omega) (by omega), g 1]
      exact ⟨by omega, this.2⟩
theorem LqVr.up {V lo hi : Int} {γ γ' : St} {n B c i : Int} (h : LqVr γ n B c i) (P : LqPr V lo hi γ γ') (hi2 : B + i < γ 9 11) : LqVr γ' n B c i := by
  obtain ⟨a1, a2, a3, a4, a5, a6, a7⟩ := P
  unfold LqVr at h ⊢
  rw [a1 34 _ (by omega), a1 25 _ (by omega), a1 26 _ (by omega), a1 37 _ (by omega), a2 54 _ (by omega) (by omega) (by omega) (by omega), a2 56 _ (by omega) (by omega) (by omega) (by omega), a2 57 _ (by omega) (by omega) (by omega) (by omega), a2 59 _ (by omega) (by omega) (by omega) (by omega), a2 60 _ (by omega) (by omega) (by omega) (by omega)]
  exact h
theorem LqDf.up {V lo hi : Int} {γ γ' δ δ' : St} {s s' : Int → Int} {y k : Int} (h : LqDf γ δ s y k) (P : LqPr V lo hi γ γ') (hb : ∀ t, 0 ≤ t → t < γ 46 k → δ 38 y + γ 47 (γ 45 k + t) < γ 9 11 ∧ (δ 38 y + γ 47 (γ 45 k + t) < lo ∨ hi ≤ δ 38 y + γ 47 (γ 45 k + t))) (d17 : δ' 17 k = δ 17 k) (d38 : δ' 38 y = δ 38 y) (dO : γ 38 (δ 17 k) = 43 → ∀ t, outV δ' y (δ 17 k) t = outV δ y (δ 17 k) t) (se : s' (δ 17 k) = s (δ 17 k)) : LqDf γ' δ' s' y k := by
  obtain ⟨a1, a2, a3, a4, a5, a6, a7⟩ := P
  intro t q1 q2
  rw [a1 46 _ (by omega)] at q2
  have b := hb t q1 q2
  rw [a1 47 _ (by omega), a1 45 _ (by omega), a1 38 _ (by omega), d17, d38, se, a2 55 _ (by omega) (by omega) (by omega) (fun _ => b.2), h t q1 q2]
  by_cases q : γ 38 (δ 17 k) = 43
  · rw [if_pos q, if_pos q, dO q t]
  · rw [if_neg q, if_neg q]
/-- the outputs of a call stay -/
theorem outV_fp {δ δ' : St} {y e : Int} (f : FP δ δ') (hy : y < δ 0 50) (ic : IsC δ y e) (hi : δ 40 y + δ 25 e < δ 0 54) (t : Int) : outV δ' y e t = outV δ y e t := by
  obtain ⟨z, z1, z2, _⟩ := ic
  unfold outV
  rw [f 40 y (by omega) (by omega) (by omega) (by omega), f 25 e (by omega) (by omega) (by omega) (by omega), f 41 _ (by omega) (by omega) (by omega) (by omega), z1, f 38 z (by omega) (by omega) (by omega) (by omega), f 21 e (by omega) (by omega) (by omega) (by omega), f 5 _ (by omega) (by omega) (by omega) (by omega)]
/-- two of a kind are counted twice -/
theorem cntN_two {f : Int → Int} {lo w i i' : Int} (hi : f i = w) (hi' : f i' = w) (lt : i < i') : ∀ {n : Nat}, lo ≤ i → i' < lo + n → 2 ≤ cntN f lo w n
  | 0, h1, h2 => by exfalso; omega
  | n + 1, h1, h2 => by
    show 2 ≤ cntN f lo w n + if f (lo + n) = w then 1 else 0
    by_cases q : i' = lo + n
    · rw [← q, if_pos hi']
      have one : ∀ {n : Nat}, i < lo + n → 1 ≤ cntN f lo w n := fun {n} => by
        induction n with
        | zero => intro h; exfalso; omega
        | succ n ih =>
          intro h
          show 1 ≤ cntN f lo w n + if f (lo + n) = w then 1 else 0
          by_cases q2 : i = lo + n
          · rw [← q2, if_pos hi]; have := (cntN_b f lo w n).1; omega
          · have := ih (by omega)
            have : (0 : Int) ≤ if f (lo + n) = w then 1 else 0 := by
              by_cases q3 : f (lo + n) = w
              · rw [if_pos q3]; omega
              · rw [if_neg q3]; omega
            omega
      have := one (n := n) (by omega)
      omega
    · have := cntN_two (lo := lo) hi hi' lt (n := n) h1 (by omega)
      have : (0 : Int) ≤ if f (lo + n) = w then 1 else 0 := by
        by_cases q3 : f (lo + n) = w
        · rw [if_pos q3]; omega
        · rw [if_neg q3]; omega
      omega
/-- no variable is left of two equations -/
theorem NdS.lf {δ : St} {f k k' i i' : Int} (h : NdS δ f) (k1 : δ 7 f ≤ k) (k2 : k < δ 7 (f + 1)) (k3 : δ 7 f ≤ k') (k4 : k' < δ 7 (f + 1)) (i1 : δ 16 k ≤ i) (i2 : i < δ 16 (k + 1)) (i3 : δ 16 k' ≤ i') (i4 : i' < δ 16 (k' + 1)) (e : δ 18 i = δ 18 i') : i = i' ∧ k = k' := by
  obtain ⟨t, l0, l, x, _⟩ := h
  have x2 := x.2.1
  have ⟨x1, _, x3, x4, x5, x6, x7, x8, x9, x10, x11, x12, x13, x14, x15⟩ := x.1
  have er := x4.1
  have mono : ∀ (n : Nat) (a b : Int), δ 7 f ≤ a → b = a + 1 + n → b ≤ δ 7 (f + 1) → δ 16 (a + 1) ≤ δ 16 b := by
    intro n
    induction n with
    | zero => intro a b h1 h2 h3; rw [h2]; simp
    | succ n ih =>
      intro a b h1 h2 h3
      have := ih a (b - 1) h1 (by omega) (by omega)
      have r2 : (0 : Int) ≤ δ 16 (b - 1) ∧ δ 16 (b - 1) < δ 16 (b - 1 + 1) := (er (b - 1) (by show δ 7 f ≤ _; omega) (by show _ < δ 7 (f + 1); omega)).1.2.1
      rw [show b - 1 + 1 = b by omega] at r2
      omega
  have base : ∀ (n : Nat) (b : Int), b = δ 7 f + n → b < δ 7 (f + 1) → l0 ≤ δ 16 b := by
    intro n
    induction n with
    | zero => intro b h1 h2; rw [show b = δ 7 f by omega]; have : δ 16 (δ 7 f) = l0 := x10; omega
    | succ n ih =>
      intro b h1 h2
      have := ih (b - 1) (by omega) (by omega)
      have r2 : (0 : Int) ≤ δ 16 (b - 1) ∧ δ 16 (b - 1) < δ 16 (b - 1 + 1) := (er (b - 1) (by show δ 7 f ≤ _; omega) (by show _ < δ 7 (f + 1); omega)).1.2.1
      rw [show b - 1 + 1 = b by omega] at r2
      omega
  have b1 := base (k - δ 7 f).toNat k (by omega) k2
  have b2 := base (k' - δ 7 f).toNat k' (by omega) k4
  have u1 : δ 16 (k + 1) ≤ l := (er k k1 k2).2.1
  have u2 : δ 16 (k' + 1) ≤ l := (er k' k3 k4).2.1
  have v1 : δ 5 f ≤ δ 18 i ∧ δ 18 i < δ 4 (f + 1) - δ 4 f := (er k k1 k2).1.2.2.1 i i1 i2
  have c1 : cntN (δ 18) l0 (δ 4 f + δ 18 i - δ 4 f) (l - l0).toNat = 1 := x2 (δ 4 f + δ 18 i) (by show δ 4 f + δ 5 f ≤ _; omega) (by show _ < δ 4 (f + 1); omega)
  rw [show δ 4 f + δ 18 i - δ 4 f = δ 18 i by omega] at c1
  have ei : i = i' := by
    by_cases q : i < i'
    · have := cntN_two (f := δ 18) (lo := l0) (w := δ 18 i) rfl e.symm q (n := (l - l0).toNat) (by omega) (by omega)
      omega
    · by_cases q2 : i' < i
      · have := cntN_two (f := δ 18) (lo := l0) (w := δ 18 i) e.symm rfl q2 (n := (l - l0).toNat) (by omega) (by omega)
        omega
      · omega
  refine ⟨ei, ?_⟩
  by_cases q : k < k'
  · have := mono (k' - k - 1).toNat k k' k1 (by omega) (by omega); omega
  · by_cases q2 : k' < k
    · have := mono (k - k' - 1).toNat k' k k3 (by omega) (by omega); omega
    · omega
