/-! the reference's trees: what a parse leaves -/
def clw (k : Int) : Int := if k = 3 then 1 else 0
def aryK (k : Int) (n : Nat) : Prop := (k ≤ 2 → n = 0) ∧ (k = 3 → 1 ≤ n) ∧ (k = 4 → n = 3) ∧ (5 ≤ k ∧ k ≤ 21 → n = 2) ∧ (22 ≤ k → n = 1)
def whK (nv nn k w : Int) : Prop := (0 ≤ k ∧ k ≤ 26) ∧ (k = 2 → 0 ≤ w ∧ w < nv) ∧ (k = 3 → 0 ≤ w ∧ w < nn) ∧ (k = 26 → 0 ≤ w ∧ w < 2 * nv)
/-- a part -/
def Gn (nv nn : Int) (γ : St) (lo e : Int) : Prop := ∃ ks, Ch (γ 23) (γ 22 e) ks ∧ Sg (γ 26) (e + 1 - γ 26 e) ks e ∧ lo ≤ e + 1 - γ 26 e ∧ aryK (γ 20 e) ks.length ∧ whK nv nn (γ 20 e) (γ 21 e) ∧ γ 27 e = hMx (γ 27) ks ∧ (1 ≤ γ 27 e ∧ γ 27 e ≤ 200)
theorem Gn.fr {nv nn lo l2 e : Int} {γ γ' : St} (h : Gn nv nn γ lo e) (hl : l2 ≤ lo) (h23 : ∀ k, lo ≤ k → k < e → γ' 23 k = γ 23 k) (hr : ∀ j : Nat, 20 ≤ j → j ≤ 27 → j ≠ 23 → j ≠ 24 → j ≠ 25 → ∀ k, lo ≤ k → k ≤ e → γ' j k = γ j k) : Gn nv nn γ' l2 e := by
  obtain ⟨ks, a1, a2, a3, a4, a5, a6, a7⟩ := h
  have le := a2.le
  have m : ∀ y ∈ ks, lo ≤ y ∧ y < e := fun y hy => by have := a2.mem y hy; omega
  have e26 := hr 26 (by omega) (by omega) (by omega) (by omega) (by omega) e (by omega) (Int.le_refl _)
  have e27 := hr 27 (by omega) (by omega) (by omega) (by omega) (by omega) e (by omega) (Int.le_refl _)
  have e20 := hr 20 (by omega) (by omega) (by omega) (by omega) (by omega) e (by omega) (Int.le_refl _)
  have e21 := hr 21 (by omega) (by omega) (by omega) (by omega) (by omega) e (by omega) (Int.le_refl _)
  have e22 := hr 22 (by omega) (by omega) (by omega) (by omega) (by omega) e (by omega) (Int.le_refl _)
  refine ⟨ks, ?_, ?_, by omega, by rw [e20]; exact a4, by rw [e20, e21]; exact a5, ?_, by rw [e27]; exact a7⟩
  · rw [e22]; exact a1.agree (fun y hy => h23 y (m y hy).1 (m y hy).2)
  · rw [e26]; exact a2.agree (fun y hy => hr 26 (by omega) (by omega) (by omega) (by omega) (by omega) y (m y hy).1 (by have := m y hy; omega))
  · rw [e27, a6]
    exact (hMx_agree (fun y hy => hr 27 (by omega) (by omega) (by omega) (by omega) (by omega) y (m y hy).1 (by have := m y hy; omega))).symm
/-- the numbers of cells go up with the parts -/
def Odr (γ : St) (f : Int → Int) (lo hi c0 c1 : Int) : Prop := ∀ e, lo ≤ e → e < hi → 0 < f (γ 20 e) → c0 ≤ γ 25 e ∧ γ 25 e + f (γ 20 e) ≤ c1 ∧ ∀ e', e < e' → e' < hi → 0 < f (γ 20 e') → γ 25 e + f (γ 20 e) ≤ γ 25 e'
theorem Odr.nil {γ : St} {f : Int → Int} {lo c0 c1 : Int} : Odr γ f lo lo c0 c1 := fun e a b => by omega
theorem Odr.fr {γ γ' : St} {f : Int → Int} {lo hi c0 c1 : Int} (h : Odr γ f lo hi c0 c1) (h20 : ∀ k, lo ≤ k → k < hi → γ' 20 k = γ 20 k) (h25 : ∀ k, lo ≤ k → k < hi → γ' 25 k = γ 25 k) : Odr γ' f lo hi c0 c1 := by
  intro e a b
  rw [h20 e a b, h25 e a b]
  intro c
  have k := h e a b c
  refine ⟨k.1, k.2.1, fun e' a' b' => ?_⟩
  rw [h20 e' (by omega) b', h25 e' (by omega) b']
  exact k.2.2 e' a' b'
theorem Odr.app {γ : St} {f : Int → Int} {lo mid hi c0 c1 c2 : Int} (h : Odr γ f lo mid c0 c1) (g : Odr γ f mid hi c1 c2) (h1 : c0 ≤ c1) (h2 : c1 ≤ c2) (hm : lo ≤ mid) : Odr γ f lo hi c0 c2 := by
  intro e a b c
  by_cases q : e < mid
  · have k := h e a q c
    refine ⟨k.1, by omega, fun e' a' b' c' => ?_⟩
    by_cases q2 : e' < mid
    · exact k.2.2 e' a' q2 c'
    · have := (g e' (by omega) b' c').1
      omega
  · have k := g e (by omega) b c
    exact ⟨by omega, k.2.1, k.2.2⟩
/-- while expressions are read -/
def PxI (γ : St) : Prop := DcI γ ∧ WdO γ 2 3 0 (γ 0 18) ∧ (0 ≤ γ 0 40 ∧ γ 0 40 ≤ γ 0 5) ∧ (0 ≤ γ 9 (γ 0 18) ∧ γ 9 (γ 0 18) + 2 * γ 19 (γ 7 (γ 0 18)) ≤ 2 * γ 0 40) ∧ (0 ≤ γ 8 (γ 0 18) ∧ 0 ≤ γ 19 (γ 7 (γ 0 18)) ∧ γ 8 (γ 0 18) + γ 19 (γ 7 (γ 0 18)) ≤ γ 0 40)
/-- the numbers of cells are small -/
def B25 (γ : St) : Prop := ∀ e, -100000 ≤ γ 25 e ∧ γ 25 e ≤ 100000
theorem B25.fr {γ γ' : St} (h : B25 γ) (f : ∀ k, γ' 25 k = γ 25 k) : B25 γ' := fun e => by rw [f]; exact h e
def Fx (p0 nd : Int) (γ γ' : St) : Prop := (∀ j k, (j = 0 → (k < 5 ∨ 9 < k) ∧ k ≠ 40) → (20 ≤ j → j ≤ 27 → k < p0) → (j = 8 ∨ j = 9 → k ≠ nd) → γ' j k = γ j k) ∧ (B25 γ → B25 γ')
/-- the parts made since γ0, with the roots ks -/
def XS (γ0 γ : St) (ks : List Int) : Prop := (PxI γ ∧ Fx (γ0 0 40) (γ0 0 18) γ0 γ ∧ γ0 0 40 ≤ γ 0 40 ∧ γ0 0 5 - γ0 0 40 ≤ γ 0 5 - γ 0 40) ∧ (Ch (γ 23) (ks.headD (-1)) ks ∧ Sg (γ 26) (γ0 0 40) ks (γ 0 40)) ∧ (∀ e, γ0 0 40 ≤ e → e < γ 0 40 → Gn (γ0 0 19 - γ0 4 (γ0 0 18)) (γ0 0 18) γ (γ0 0 40) e) ∧ (γ0 9 (γ0 0 18) ≤ γ 9 (γ0 0 18) ∧ Odr γ stw (γ0 0 40) (γ 0 40) (γ0 9 (γ0 0 18)) (γ 9 (γ0 0 18))) ∧ (γ0 8 (γ0 0 18) ≤ γ 8 (γ0 0 18) ∧ Odr γ clw (γ0 0 40) (γ 0 40) (γ0 8 (γ0 0 18)) (γ 8 (γ0 0 18)))
theorem PxI.mv {γ γ' : St} (h : PxI γ) (m : Mv γ γ') : PxI γ' := by
  have ⟨a1, a2, a3, a4, a5⟩ := h
  have e := m.2.1
  have e18 := e 0 18 (by omega)
  have e40 := e 0 40 (by omega)
  have m3 := m.2.2
  refine ⟨a1.mv m, ?_, by rw [e40]; omega, by rw [e18, e40, e 9 _ (by omega), e 7 _ (by omega), e 19 _ (by omega)]; exact a4, by rw [e18, e40, e 8 _ (by omega), e 7 _ (by omega), e 19 _ (by omega)]; exact a5⟩
  rw [e18]
  intro v q1 q2
  rw [e 2 v (by omega), e 3 v (by omega)]
  exact a2 v q1 q2
theorem XS.nil {γ : St} (h : PxI γ) : XS γ γ [] := ⟨⟨h, ⟨fun _ _ _ _ _ => rfl, fun b => b⟩, Int.le_refl _, Int.le_refl _⟩, ⟨rfl, rfl⟩, fun e a b => by omega, ⟨Int.le_refl _, Odr.nil⟩, ⟨Int.le_refl _, Odr.nil⟩⟩
theorem XS.mv {γ0 γ γ' : St} {ks : List Int} (h : XS γ0 γ ks) (m : Mv γ γ') : XS γ0 γ' ks := by
  have ⟨⟨a1, a2, a3, a4⟩, ⟨b1, b2⟩, c, ⟨d1, d2⟩, ⟨f1, f2⟩⟩ := h
  have e := m.2.1
  have e40 := e 0 40 (by omega)
  have m3 := m.2.2
  refine ⟨⟨a1.mv m, ⟨fun j k q1 q2 q3 => (e j k (by omega)).trans (a2.1 j k q1 q2 q3), fun b => (a2.2 b).fr (fun k => e 25 k (by omega))⟩, by omega, by omega⟩, ⟨b1.agree (fun y _ => e 23 y (by omega)), by rw [e40]; exact b2.agree (fun y _ => e 26 y (by omega))⟩, ?_, ?_, ?_⟩
  · rw [e40]
    intro x q1 q2
    exact (c x q1 q2).fr (Int.le_refl _) (fun k _ _ => e 23 k (by omega)) (fun j r1 r2 _ _ _ k _ _ => e j k (by omega))
  · rw [e40, e 9 _ (by omega)]
    exact ⟨d1, d2.fr (fun k _ _ => e 20 k (by omega)) (fun k _ _ => e 25 k (by omega))⟩
  · rw [e40, e 8 _ (by omega)]
    exact ⟨f1, f2.fr (fun k _ _ => e 20 k (by omega)) (fun k _ _ => e 25 k (by omega))⟩
