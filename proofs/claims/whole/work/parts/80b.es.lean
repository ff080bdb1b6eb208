/-! the class's expression reader: the code's shape -/
theorem sumK_pop {f g : Int → Int} {n : Int} (h : 0 < n) : sumK f g n.toNat = sumK f g (n - 1).toNat + f (g (n - 1)) := by
  have e1 : n.toNat = (n - 1).toNat + 1 := by omega
  have e2 : (((n - 1).toNat : Nat) : Int) = n - 1 := by omega
  rw [e1]
  show sumK f g (n - 1).toNat + f (g (((n - 1).toNat : Nat) : Int)) = _
  rw [e2]
/-- a part's kind and its sides -/
def sdK (k s : Int) : Prop := (k = 2 ∨ k = 3 ∨ k = 40 ∨ k = 41) ∧ s = 0 ∨ k = 43 ∧ 1 ≤ s ∨ k = 32 ∧ s = 3 ∨ (k = 27 ∨ k = 28 ∨ k = 35 ∨ k = 36 ∨ k = 42) ∧ s = 1 ∨ ((9 ≤ k ∧ k ≤ 19) ∨ (29 ≤ k ∧ k ≤ 31) ∨ (37 ≤ k ∧ k ≤ 39)) ∧ s = 2
theorem sdK_nn {k s : Int} (h : sdK k s) : 0 ≤ s := by unfold sdK at h; omega
/-- how many values the code up to k leaves -/
def Pf (γ : St) (k : Int) : Int := sumK (fun x => 1 - x) (γ 40) k.toNat
theorem Pf_ext {γ γ' : St} {k : Int} (h : ∀ i, 0 ≤ i → i < k → γ' 40 i = γ 40 i) : Pf γ' k = Pf γ k := sumK_cong (fun i h1 h2 => h i h1 (by omega))
theorem Pf_succ {γ : St} {k : Int} (h : 0 ≤ k) : Pf γ (k + 1) = Pf γ k + (1 - γ 40 k) := by
  unfold Pf
  rw [sumK_pop (show 0 < k + 1 by omega), show k + 1 - 1 = k by omega]
/-- a part of the code: nn nodes, nv variables, in the equation e -/
def PtI (γ : St) (nn nv e i : Int) : Prop := sdK (γ 38 i) (γ 40 i) ∧ (γ 38 i = 43 → 0 ≤ γ 39 i ∧ γ 39 i < nn) ∧ (γ 38 i = 2 → 0 ≤ γ 39 i ∧ γ 39 i < nv) ∧ (γ 38 i = 27 → 0 ≤ γ 39 i ∧ γ 39 i < 2 * nv) ∧ γ 40 i ≤ Pf γ i - e
theorem PtI.ext {γ γ' : St} {nn nv e i : Int} (h : PtI γ nn nv e i) (h0 : 0 ≤ i) (e38 : γ' 38 i = γ 38 i) (e39 : γ' 39 i = γ 39 i) (e40 : ∀ k, 0 ≤ k → k ≤ i → γ' 40 k = γ 40 k) : PtI γ' nn nv e i := by
  have p : Pf γ' i = Pf γ i := Pf_ext (fun k h1 h2 => e40 k h1 (by omega))
  unfold PtI
  rw [e38, e39, e40 i h0 (by omega), p]
  exact h
theorem PtI.up {γ : St} {nn nv e i nn' nv' : Int} (h : PtI γ nn nv e i) (h1 : nn ≤ nn') (h2 : nv ≤ nv') : PtI γ nn' nv' e i :=
  ⟨h.1, fun c => ⟨(h.2.1 c).1, by have := h.2.1 c; omega⟩, fun c => ⟨(h.2.2.1 c).1, by have := h.2.2.1 c; omega⟩, fun c => ⟨(h.2.2.2.1 c).1, by have := h.2.2.2.1 c; omega⟩, h.2.2.2.2⟩
/-- the inputs that open calls hold -/
def inS (γ : St) (n : Int) : Int := sumK (fun x => x) (fun i => if γ 48 i = 43 then γ 50 i else 0) n.toNat
theorem inS_ext {γ γ' : St} {n : Int} (h : ∀ i, 0 ≤ i → i < n → γ' 48 i = γ 48 i ∧ γ' 50 i = γ 50 i) : inS γ' n = inS γ n := sumK_cong (fun i h1 h2 => by
  have := h i h1 (by omega)
  show (if γ' 48 i = 43 then γ' 50 i else 0) = (if γ 48 i = 43 then γ 50 i else 0)
  rw [this.1, this.2])
theorem inS_pop {γ : St} {n : Int} (h : 0 < n) : inS γ n = inS γ (n - 1) + (if γ 48 (n - 1) = 43 then γ 50 (n - 1) else 0) := by
  unfold inS
  exact sumK_pop h
theorem inS_nn {γ : St} {n : Int} (h : ∀ i, 0 ≤ i → i < n → γ 48 i = 43 → 0 ≤ γ 50 i) : 0 ≤ inS γ n := by
  have a : ∀ m : Nat, (m : Int) ≤ n → 0 ≤ inS γ m := by
    intro m
    induction m with
    | zero => intro _; exact Int.le_refl _
    | succ m ih =>
      intro hm
      have e := inS_pop (γ := γ) (n := ((m + 1 : Nat) : Int)) (by omega)
      rw [show ((m + 1 : Nat) : Int) - 1 = (m : Int) by omega] at e
      have i1 := ih (by omega)
      have i2 := h m (by omega) (by omega)
      rw [e]
      split
      · have := i2 (by assumption); omega
      · omega
  by_cases c : 0 ≤ n
  · have := a n.toNat (by omega)
    rw [show ((n.toNat : Nat) : Int) = n by omega] at this
    exact this
  · unfold inS
    rw [show n.toNat = 0 by omega]
    exact Int.le_refl _
/-- the calls that wait -/
def ClI (γ : St) (i : Int) : Prop := (0 ≤ γ 49 i ∧ γ 49 i < γ 3 9) ∧ 0 ≤ γ 50 i ∧ 0 ≤ γ 51 i ∧ γ 51 i ≤ γ 4 4
/-- the code of the equation that is read -/
def ErS (γ : St) : Prop := (0 ≤ γ 43 (γ 4 10) ∧ γ 43 (γ 4 10) ≤ γ 4 4) ∧ Pf γ (γ 43 (γ 4 10)) = γ 4 10 ∧ Pf γ (γ 4 4) = γ 4 10 + γ 6 9 + inS γ (γ 6 8) ∧ (∀ i, 0 ≤ i → i < γ 6 8 → γ 48 i = 43 → ClI γ i) ∧ ∀ i, γ 43 (γ 4 10) ≤ i → i < γ 4 4 → PtI γ (γ 3 9) (γ 28 (γ 3 9)) (γ 4 10) i
theorem ErS.ext {γ γ' : St} (h : ErS γ) (e : ∀ j k, (j = 3 ∧ k = 9 ∨ j = 4 ∨ j = 6 ∧ (k = 8 ∨ k = 9) ∨ j = 28 ∨ 38 ≤ j ∧ j ≤ 51 ∧ j ≠ 41) → γ' j k = γ j k) : ErS γ' := by
  have ⟨⟨a1, a2⟩, a3, a4, a5, a6⟩ := h
  have b1 := e 3 9 (by omega)
  have b2 := e 4 10 (by omega)
  have b3 := e 4 4 (by omega)
  have b4 := e 6 8 (by omega)
  have b5 := e 6 9 (by omega)
  have b6 := e 43 (γ 4 10) (by omega)
  have b7 := e 28 (γ 3 9) (by omega)
  have b8 : ∀ k, Pf γ' k = Pf γ k := fun k => Pf_ext (fun i _ _ => e 40 i (by omega))
  have b9 : ∀ k, inS γ' k = inS γ k := fun k => inS_ext (fun i _ _ => ⟨e 48 i (by omega), e 50 i (by omega)⟩)
  refine ⟨?_, ?_, ?_, ?_, ?_⟩
  · rw [b2, b6, b3]; exact ⟨a1, a2⟩
  · rw [b2, b6, b8]; exact a3
  · rw [b8, b3, b2, b5, b9, b4]; exact a4
  · intro i h1 h2 h3
    rw [b4] at h2
    rw [e 48 i (by omega)] at h3
    unfold ClI
    rw [e 49 i (by omega), e 50 i (by omega), e 51 i (by omega), b1, b3]
    exact a5 i h1 h2 h3
  · intro i h1 h2
    rw [b2, b6] at h1
    rw [b3] at h2
    rw [b1, b2, b7]
    exact (a6 i h1 h2).ext (by omega) (e 38 i (by omega)) (e 39 i (by omega)) (fun k _ _ => e 40 k (by omega))
/-- one more waits -/
theorem ErS.push {γ γ' : St} (h : ErS γ) (h0 : 0 ≤ γ 6 8) (e : ∀ j k, (j = 3 ∧ k = 9 ∨ j = 4 ∨ j = 6 ∧ k = 9 ∨ j = 28 ∨ 38 ≤ j ∧ j < 48 ∧ j ≠ 41 ∨ 48 ≤ j ∧ j ≤ 51 ∧ k ≠ γ 6 8) → γ' j k = γ j k) (e8 : γ' 6 8 = γ 6 8 + 1) (ec : γ' 48 (γ 6 8) = 43 → (0 ≤ γ' 49 (γ 6 8) ∧ γ' 49 (γ 6 8) < γ 3 9) ∧ γ' 50 (γ 6 8) = 0 ∧ γ' 51 (γ 6 8) = 0) : ErS γ' := by
  have ⟨⟨a1, a2⟩, a3, a4, a5, a6⟩ := h
  have b1 := e 3 9 (by omega)
  have b2 := e 4 10 (by omega)
  have b3 := e 4 4 (by omega)
  have b5 := e 6 9 (by omega)
  have b6 := e 43 (γ 4 10) (by omega)
  have b7 := e 28 (γ 3 9) (by omega)
  have b8 : ∀ k, Pf γ' k = Pf γ k := fun k => Pf_ext (fun i _ _ => e 40 i (by omega))
  have b9 : inS γ' (γ 6 8 + 1) = inS γ (γ 6 8) := by
    rw [inS_pop (by omega), show γ 6 8 + 1 - 1 = γ 6 8 by omega, inS_ext (γ := γ) (fun i h1 h2 => ⟨e 48 i (by omega), e 50 i (by omega)⟩)]
    split
    · have := ec (by assumption); omega
    · omega
  refine ⟨?_, ?_, ?_, ?_, ?_⟩
  · rw [b2, b6, b3]; exact ⟨a1, a2⟩
  · rw [b2, b6, b8]; exact a3
  · rw [b8, b3, b2, b5, e8, b9]; exact a4
  · intro i h1 h2 h3
    rw [e8] at h2
    unfold ClI
    rw [b1, b3]
    by_cases q : i = γ 6 8
    · subst q
      have := ec h3
      omega
    · rw [e 48 i (by omega)] at h3
      rw [e 49 i (by omega), e 50 i (by omega), e 51 i (by omega)]
      exact a5 i h1 (by omega) h3
  · intro i h1 h2
    rw [b2, b6] at h1
    rw [b3] at h2
    rw [b1, b2, b7]
    exact (a6 i h1 h2).ext (by omega) (e 38 i (by omega)) (e 39 i (by omega)) (fun k _ _ => e 40 k (by omega))
/-- one part more -/
theorem ErS.add {γ γ' : St} (h : ErS γ) (e4 : γ' 4 4 = γ 4 4 + 1) (e : ∀ j k, (j = 3 ∧ k = 9 ∨ j = 4 ∧ k = 10 ∨ j = 28 ∨ (j = 38 ∨ j = 39 ∨ j = 40) ∧ k < γ 4 4 ∨ j = 43) → γ' j k = γ j k) (hb : γ' 6 9 + inS γ' (γ' 6 8) = γ 6 9 + inS γ (γ 6 8) + 1 - γ' 40 (γ 4 4)) (hs : ∀ i, 0 ≤ i → i < γ' 6 8 → γ' 48 i = 43 → ClI γ' i)
    (hp : sdK (γ' 38 (γ 4 4)) (γ' 40 (γ 4 4)) ∧ (γ' 38 (γ 4 4) = 43 → 0 ≤ γ' 39 (γ 4 4) ∧ γ' 39 (γ 4 4) < γ 3 9) ∧ (γ' 38 (γ 4 4) = 2 → 0 ≤ γ' 39 (γ 4 4) ∧ γ' 39 (γ 4 4) < γ 28 (γ 3 9)) ∧ (γ' 38 (γ 4 4) = 27 → 0 ≤ γ' 39 (γ 4 4) ∧ γ' 39 (γ 4 4) < 2 * γ 28 (γ 3 9)) ∧ γ' 40 (γ 4 4) ≤ γ 6 9 + inS γ (γ 6 8)) : ErS γ' := by
  have ⟨⟨a1, a2⟩, a3, a4, a5, a6⟩ := h
  have b1 := e 3 9 (by omega)
  have b2 := e 4 10 (by omega)
  have b6 := e 43 (γ 4 10) (by omega)
  have b7 := e 28 (γ 3 9) (by omega)
  have b8 : ∀ k, k ≤ γ 4 4 → Pf γ' k = Pf γ k := fun k hk => Pf_ext (fun i _ _ => e 40 i (by omega))
  have b9 : Pf γ' (γ 4 4 + 1) = Pf γ (γ 4 4) + (1 - γ' 40 (γ 4 4)) := by rw [Pf_succ (by omega), b8 _ (Int.le_refl _)]
  refine ⟨?_, ?_, ?_, hs, ?_⟩
  · rw [b2, b6, e4]; omega
  · rw [b2, b6, b8 _ a2]; exact a3
  · rw [e4, b9, b2]; omega
  · intro i h1 h2
    rw [b2, b6] at h1
    rw [e4] at h2
    rw [b1, b2, b7]
    by_cases q : i = γ 4 4
    · subst q
      refine ⟨hp.1, hp.2.1, hp.2.2.1, hp.2.2.2.1, ?_⟩
      rw [b8 _ (Int.le_refl _)]
      have := hp.2.2.2.2
      omega
    · exact (a6 i h1 (by omega)).ext (by omega) (e 38 i (by omega)) (e 39 i (by omega)) (fun k _ _ => e 40 k (by omega))
/-- the reader's own cells and the code from its end on change alone -/
def FrR (γ γ' : St) : Prop := FrE γ γ' ∧ γ 4 4 ≤ γ' 4 4 ∧ ∀ j k, 38 ≤ j → j ≤ 41 → k < γ 4 4 → γ' j k = γ j k
theorem FrR.rf {γ : St} : FrR γ γ := ⟨FrE.rf, Int.le_refl _, fun _ _ _ _ _ => rfl⟩
theorem FrR.tr {a b c : St} (h : FrR a b) (k : FrR b c) : FrR a c := ⟨h.1.tr k.1, Int.le_trans h.2.1 k.2.1, fun j i h1 h2 h3 => (k.2.2 j i h1 h2 (by have := h.2.1; omega)).trans (h.2.2 j i h1 h2 h3)⟩
theorem FrC.R {a b : St} (h : FrC a b) : FrR a b := ⟨h.E, Int.le_of_eq (h 4 4 (by omega)).symm, fun j k _ _ _ => h j k (by omega)⟩
