/-! equality: the parts of expressions -/
/-- a kind of the class's as the reference says it -/
def kdM (k : Int) : Int := if 9 ≤ k ∧ k ≤ 17 then k + 2 else if k = 3 then 0 else if k = 40 ∨ k = 41 then 1 else if k = 2 then 2 else if k = 43 then 3 else if k = 32 then 4 else if k = 18 then 5 else if k = 37 then 6 else if k = 19 then 7 else if k = 30 then 8 else if k = 31 then 9 else if k = 29 then 10 else if k = 38 then 20 else if k = 39 then 21 else if k = 42 then 22 else if k = 28 then 23 else if k = 35 then 24 else if k = 36 then 25 else if k = 27 then 26 else -1
def PtE (γ δ : St) (e : Int) : Prop := kdM (γ 38 e) = δ 20 e ∧ γ 39 e = δ 21 e ∧ (∃ ks : List Int, Sg (δ 26) (e + 1 - δ 26 e) ks e ∧ (ks.length : Int) = γ 40 e)
/-- the parts are the same -/
def PtR (γ δ : St) : Prop := (γ 4 4 = δ 0 40 ∧ 0 ≤ δ 0 40) ∧ ∀ e, 0 ≤ e → e < δ 0 40 → PtE γ δ e
theorem PtE.fr {γ γ' δ δ' : St} {e : Int} (h : PtE γ δ e) (c : ∀ j : Nat, 38 ≤ j → j ≤ 41 → γ' j e = γ j e) (d : ∀ j : Nat, 20 ≤ j → j ≤ 26 → j ≠ 22 → j ≠ 23 → j ≠ 25 → ∀ k, k ≤ e → δ' j k = δ j k) : PtE γ' δ' e := by
  obtain ⟨h1, h2, ⟨ks, h3, h4⟩⟩ := h
  have le := Int.le_refl e
  refine ⟨?_, ?_, ⟨ks, ?_, ?_⟩⟩
  · rw [c 38 (by omega) (by omega), d 20 (by omega) (by omega) (by omega) (by omega) (by omega) e le]; exact h1
  · rw [c 39 (by omega) (by omega), d 21 (by omega) (by omega) (by omega) (by omega) (by omega) e le]; exact h2
  · rw [d 26 (by omega) (by omega) (by omega) (by omega) (by omega) e le]
    exact h3.agree (fun y hy => d 26 (by omega) (by omega) (by omega) (by omega) (by omega) y (by have := h3.mem y hy; omega))
  · rw [c 40 (by omega) (by omega)]; exact h4
theorem PtR.fr {γ γ' δ δ' : St} (h : PtR γ δ) (c : ∀ j : Nat, 38 ≤ j → j ≤ 41 → ∀ k, γ' j k = γ j k) (c4 : γ' 4 4 = γ 4 4) (d : ∀ j : Nat, 20 ≤ j → j ≤ 26 → j ≠ 22 → j ≠ 23 → j ≠ 25 → ∀ k, δ' j k = δ j k) (d40 : δ' 0 40 = δ 0 40) : PtR γ' δ' := ⟨⟨by rw [c4, d40]; exact h.1.1, by rw [d40]; exact h.1.2⟩, fun e a b => (h.2 e a (by rw [← d40]; exact b)).fr (fun j q1 q2 => c j q1 q2 e) (fun j q1 q2 q3 q4 q5 k _ => d j q1 q2 q3 q4 q5 k)⟩
theorem PtR.add {γ γ' δ δ' : St} (h : PtR γ δ) (c : ∀ j : Nat, 38 ≤ j → j ≤ 41 → ∀ k, k ≠ γ 4 4 → γ' j k = γ j k) (c4 : γ' 4 4 = γ 4 4 + 1) (d : ∀ j : Nat, 20 ≤ j → j ≤ 26 → j ≠ 22 → j ≠ 23 → j ≠ 25 → ∀ k, k ≠ δ 0 40 → δ' j k = δ j k) (d40 : δ' 0 40 = δ 0 40 + 1) (n : PtE γ' δ' (δ 0 40)) : PtR γ' δ' := by
  have ⟨⟨h1, h2⟩, h3⟩ := h
  refine ⟨⟨by omega, by omega⟩, fun e a b => ?_⟩
  by_cases q : e = δ 0 40
  · rw [q]; exact n
  · exact (h3 e a (by omega)).fr (fun j q1 q2 => c j q1 q2 e (by omega)) (fun j q1 q2 q3 q4 q5 k _ => d j q1 q2 q3 q4 q5 k (by omega))
theorem DcR.xp {N : Int} {γ γ' δ δ' : St} (h : DcR N (δ 0 19) γ δ) (l : LxR N γ' δ') (e : ∀ (j : Nat) (k : Int), 2 ≤ j ∧ j ≤ 3 ∨ 13 ≤ j ∧ j ≤ 37 → γ' j k = γ j k) (d : ∀ (j : Nat) (k : Int), j = 0 ∧ (k = 1 ∨ k = 18 ∨ k = 19) ∨ 1 ≤ j ∧ j ≤ 4 ∨ 10 ≤ j ∧ j ≤ 14 → δ' j k = δ j k) : DcR N (δ' 0 19) γ' δ' := by
  have ⟨h1, h2, h3, h4, h5, h6⟩ := h
  have er : ∀ j : Nat, 2 ≤ j ∧ j ≤ 3 ∨ 13 ≤ j ∧ j ≤ 37 → γ' j = γ j := fun j q => funext fun k => e j k q
  have dr : ∀ j : Nat, 1 ≤ j ∧ j ≤ 4 ∨ 10 ≤ j ∧ j ≤ 14 → δ' j = δ j := fun j q => funext fun k => d j k (by omega)
  have d18 := d 0 18 (by omega)
  have d19 := d 0 19 (by omega)
  have d1 := d 0 1 (by omega)
  refine ⟨l, ?_, ?_, ?_, ?_, ?_⟩
  · unfold NmR spW at h2 ⊢
    rw [er 13 (by omega), er 18 (by omega), er 19 (by omega), er 22 (by omega), er 21 (by omega), er 2 (by omega), dr 4 (by omega), dr 10 (by omega), dr 11 (by omega), d18, d19, d1]
    exact h2
  · unfold NnR spW at h3 ⊢
    rw [er 13 (by omega), er 18 (by omega), er 19 (by omega), er 23 (by omega), er 2 (by omega), dr 2 (by omega), dr 3 (by omega), d18, d1]
    exact h3
  · unfold VrR at h4 ⊢
    rw [er 3 (by omega), er 25 (by omega), er 28 (by omega), dr 4 (by omega), d18, d19]
    exact h4
  · unfold VdR at h5 ⊢
    rw [er 34 (by omega), er 36 (by omega), er 33 (by omega), dr 12 (by omega), dr 13 (by omega), dr 14 (by omega), d19]
    exact h5
  · unfold DpR at h6 ⊢
    rw [er 35 (by omega), dr 12 (by omega), dr 4 (by omega), d18, d19]
    exact h6
/-- while an expression is read -/
def XpR (N d i : Int) (γ δ : St) : Prop := DcR N (δ 0 19) γ δ ∧ PtR γ δ ∧ PxI δ ∧ (γ 6 14 = 0 ∧ γ 6 10 = d ∧ 0 ≤ i ∧ i ≤ γ 1 6) ∧ (0 ≤ γ 6 8 ∧ 0 ≤ γ 6 9 ∧ (γ 6 11 = 0 ∨ 1 ≤ γ 6 8))
theorem XpR.lp {N d i : Int} {γ δ : St} (h : XpR N d i γ δ) : LpC γ i := by
  have ⟨⟨⟨h1, h2⟩, _⟩, _, _, ⟨a, b, c, e⟩, _⟩ := h
  have ⟨_, _, t, u, _⟩ := h1
  have t2 := t.2.1
  exact ⟨a, by omega⟩
theorem XpR.pk {N d i : Int} {γ δ : St} (h : XpR N d i γ δ) : XpR N d i γ (pkS δ) := by
  have ⟨a, b, c, e⟩ := h
  have o := pkS_o δ
  exact ⟨by rw [o 0 19 (by omega)]; exact a.pk, b.fr (fun _ _ _ _ => rfl) rfl (fun j _ _ _ _ _ k => o j k (by omega)) (o 0 40 (by omega)), c.mv (Mv.pk0 a.1.1.1), e⟩
/-- one token on, the class's stacks changed -/
theorem XpR.st {N d i : Int} {γ γ1 δ : St} (h : XpR N d i γ δ) (k0 : tK δ ≠ 0) (k3 : tK δ ≠ 3) (e : ∀ (j : Nat) (k : Int), j ≤ 3 ∨ 13 ≤ j ∧ j ≤ 37 → γ1 j k = γ j k) : DcR N (tkS δ 0 19) (nxS γ1) (tkS δ) ∧ PxI (tkS δ) ∧ nxS γ1 1 6 = γ 1 6 + 1 := by
  have ⟨a, b, c, _⟩ := h
  have o := tkS_o δ
  have t : DcR N (tkS δ 0 19) (nxS γ) (tkS δ) := by rw [o 0 19 (by omega)]; exact a.tk k0 k3
  have f : ∀ (j : Nat) (k : Int), j ≤ 3 ∨ 13 ≤ j ∧ j ≤ 37 → nxS γ1 j k = nxS γ j k := fun j k q => by
    unfold nxS
    rw [e 1 6 (by omega), stA, stA, e j k q]
  have l : LxR N (nxS γ1) (tkS δ) := t.1.fr (fun j k q => f j k (by omega)) (fun k _ _ => f 1 k (by omega)) (f 2 8 (by omega)) rfl (fun _ _ => rfl)
  refine ⟨t.xp l (fun j k q => f j k (by omega)) (fun _ _ _ => rfl), c.mv (Mv.tk0 a.1.1.1), ?_⟩
  unfold nxS
  rw [stA, if_pos ⟨rfl, rfl⟩, e 1 6 (by omega)]
theorem PtR.tk {γ γ1 δ : St} (h : PtR γ δ) (e : ∀ (j : Nat) (k : Int), 38 ≤ j ∧ j ≤ 41 ∨ j = 4 → γ1 j k = γ j k) : PtR (nxS γ1) (tkS δ) := h.fr (fun j q1 q2 k => by rw [nxS_o γ1 (by omega)]; exact e j k (by omega)) (by rw [nxS_o γ1 (by omega)]; exact e 4 4 (by omega)) (fun j _ _ _ _ _ k => tkS_o δ j k (by omega)) (tkS_o δ 0 40 (by omega))
/-- what the class leaves alone -/
def FcX (γ0 γ : St) : Prop := ∀ j k, (j = 1 → k < 5 ∨ 8 < k) → (j = 4 → k ≠ 4) → (j = 6 → k < 8 ∨ 14 < k ∨ k = 11) → (38 ≤ j → j ≤ 41 → k < γ0 4 4) → (48 ≤ j → j ≤ 51 → k < γ0 6 8) → (j = 52 → k < γ0 6 9) → γ j k = γ0 j k
theorem FcX.rf {γ : St} : FcX γ γ := fun _ _ _ _ _ _ _ _ => rfl
theorem FcX.tr {γ0 γ1 γ : St} (h : FcX γ0 γ1) (g : FcX γ1 γ) (h4 : γ0 4 4 ≤ γ1 4 4) (h8 : γ0 6 8 ≤ γ1 6 8) (h9 : γ0 6 9 ≤ γ1 6 9) : FcX γ0 γ := fun j k q1 q2 q3 q4 q5 q6 => (g j k q1 q2 q3 (fun a b => by have := q4 a b; omega) (fun a b => by have := q5 a b; omega) (fun a => by have := q6 a; omega)).trans (h j k q1 q2 q3 q4 q5 q6)
/-- something more waits -/
theorem XpR.pu {N d i c w : Int} {γ δ : St} (h : XpR N d i γ δ) (k0 : tK δ ≠ 0) (k3 : tK δ ≠ 3) : XpR N (d + nestK c) (i + 1) (nxS (puS γ c w)) (tkS δ) ∧ FcX γ (nxS (puS γ c w)) ∧ (nxS (puS γ c w) 6 8 = γ 6 8 + 1 ∧ nxS (puS γ c w) 6 9 = γ 6 9 ∧ nxS (puS γ c w) 6 12 = 1 ∧ nxS (puS γ c w) 6 13 = w) ∧ topK (nxS (puS γ c w)) = c ∧ nxS (puS γ c w) 4 4 = γ 4 4 := by
  have ⟨a, b, c1, ⟨d1, d2, d3, d4⟩, ⟨e1, e2, e3⟩⟩ := h
  have s := h.st (γ1 := puS γ c w) k0 k3 (fun j k q => puS_o γ c w (by omega) (by omega))
  have n6 : ∀ k, nxS (puS γ c w) 6 k = puS γ c w 6 k := fun k => nxS_o _ (by omega)
  have p8 : puS γ c w 6 8 = γ 6 8 + 1 := by
    show (if _ then _ else _) = _
    rw [if_neg (by omega), if_neg (by omega), if_neg (by omega), if_pos ⟨rfl, rfl⟩]
  have p10 : puS γ c w 6 10 = γ 6 10 + nestK c := by
    show (if _ then _ else _) = _
    rw [if_neg (by omega), if_neg (by omega), if_pos ⟨rfl, rfl⟩]
  have p12 : puS γ c w 6 12 = 1 := by
    show (if _ then _ else _) = _
    rw [if_neg (by omega), if_pos ⟨rfl, rfl⟩]
  have p13 : puS γ c w 6 13 = w := by
    show (if _ then _ else _) = _
    rw [if_pos ⟨rfl, rfl⟩]
  have p9 : puS γ c w 6 9 = γ 6 9 := puS_o γ c w (by omega) (by omega)
  have p11 : puS γ c w 6 11 = γ 6 11 := puS_o γ c w (by omega) (by omega)
  have p14 : puS γ c w 6 14 = γ 6 14 := puS_o γ c w (by omega) (by omega)
  refine ⟨⟨s.1, b.tk (fun j k q => puS_o γ c w (by omega) (by omega)), s.2.1, ⟨by rw [n6, p14]; exact d1, by rw [n6, p10, d2], by omega, by have := s.2.2; omega⟩, by rw [n6, p8]; omega, by rw [n6, p9]; exact e2, by rw [n6, n6, p8]; omega⟩, ?_, ⟨by rw [n6, p8], by rw [n6, p9], by rw [n6, p12], by rw [n6, p13]⟩, ?_, ?_⟩
  · intro j k q1 q2 q3 q4 q5 q6
    rw [nxS_o _ (by omega), puS_o γ c w (by omega) (by omega)]
  · unfold topK
    rw [n6, p8, nxS_o _ (by omega), show γ 6 8 + 1 - 1 = γ 6 8 by omega]
    show (if _ then _ else _) = _
    rw [if_neg (by omega), if_neg (by omega), if_neg (by omega), if_neg (by omega), if_pos ⟨rfl, rfl⟩]
  · rw [nxS_o _ (by omega), puS_o γ c w (by omega) (by omega)]
