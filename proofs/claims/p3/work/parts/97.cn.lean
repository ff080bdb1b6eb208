/-! the class's nodes: check and close -/
theorem CoI.ord {γ : St} (h : CoI γ) {x y : Int} (h0 : 0 ≤ x) (h1 : x < y) (h2 : y < γ 4 10) : γ 44 x ≤ γ 43 y := by
  have ⟨c1, c2, c3, c4, c5, c6⟩ := h
  have z : ∀ m : Nat, x + 1 + m < γ 4 10 → γ 44 x ≤ γ 43 (x + 1 + m) := by
    intro m
    induction m with
    | zero =>
      intro hm
      have := c5 x h0 (by omega)
      rw [show x + 1 + ((0 : Nat) : Int) = x + 1 by omega]
      omega
    | succ m ih =>
      intro hm
      have i1 := ih (by omega)
      have i2 := c6.2 (x + 1 + m) (by omega) (by omega)
      have i3 := c5 (x + 1 + m) (by omega) (by omega)
      rw [show x + 1 + ((m + 1 : Nat) : Int) = x + 1 + m + 1 by omega]
      omega
  have := z (y - x - 1).toNat (by omega)
  rw [show x + 1 + (((y - x - 1).toNat : Nat) : Int) = y by omega] at this
  exact this
theorem NI.q {γ0 γ : St} {e : Int} (hx : CkX γ0 e) (hF : FrQ γ0 e γ) : NI γ := by
  have ⟨⟨hT, hV, hC, hZ, hU⟩, h5, h1, h2⟩ := hx
  have f : ∀ j k, j ≠ 7 → j ≠ 53 → j ≠ 41 → γ j k = γ0 j k := fun j k q1 q2 q3 => hF j k (by omega) q2 (by omega)
  have b9 := f 3 9 (by omega) (by omega) (by omega)
  have b10 := f 4 10 (by omega) (by omega) (by omega)
  have b4 := f 4 4 (by omega) (by omega) (by omega)
  have b12 := f 4 12 (by omega) (by omega) (by omega)
  refine ⟨hF.T hT, hV.ext (fun j k q => f j k (by omega) (by omega) (by omega)), hC.ext (fun j k q => f j k (by omega) (by omega) (by omega)) (Int.le_of_eq (f 1 6 (by omega) (by omega) (by omega)).symm), ?_, ?_⟩
  · rw [b9, f 25 _ (by omega) (by omega) (by omega), f 29 _ (by omega) (by omega) (by omega)]
    intro n q1 q2
    rw [b9] at q2
    have ⟨w, w2, w3⟩ := hZ n q1 q2
    have w4 := w.2.1
    have o := hC.ord (x := γ0 29 n + γ0 30 n - 1) (y := e) (by omega) (by omega) h2
    refine ⟨w.ext q1 (fun j k _ _ _ _ => f j k (by omega) (by omega) (by omega)) (fun j k _ _ => f j k (by omega) (by omega) (by omega)) (fun j k _ _ _ => f j k (by omega) (by omega) (by omega)) (fun k hk => hF 41 k (by omega) (by omega) (by omega)) (fun j k _ _ _ => f j k (by omega) (by omega) (by omega)) (fun k _ => f 47 k (by omega) (by omega) (by omega)) (by omega) (by omega) (by omega), ?_⟩
    rw [f 25 n (by omega) (by omega) (by omega), f 28 n (by omega) (by omega) (by omega), f 29 n (by omega) (by omega) (by omega), f 30 n (by omega) (by omega) (by omega)]
    exact ⟨w2, w3⟩
  · rw [b9]
    have ⟨a1, a2, a3, a4, a5⟩ := hU
    have d : ∀ j, 24 ≤ j → j ≤ 29 → γ j (γ0 3 9) = γ0 j (γ0 3 9) := fun j _ _ => f j _ (by omega) (by omega) (by omega)
    have d24 := d 24 (by omega) (by omega)
    have d25 := d 25 (by omega) (by omega)
    have d26 := d 26 (by omega) (by omega)
    have d27 := d 27 (by omega) (by omega)
    have d28 := d 28 (by omega) (by omega)
    have d29 := d 29 (by omega) (by omega)
    have d2 := f 2 8 (by omega) (by omega) (by omega)
    refine ⟨by omega, by omega, by omega, fun v q1 q2 => ?_, fun w q1 q2 => ?_⟩
    · unfold VrI
      rw [d25, b12, f 34 _ (by omega) (by omega) (by omega), f 35 _ (by omega) (by omega) (by omega), f 36 _ (by omega) (by omega) (by omega)]
      exact a4 v q1 (by omega)
    · exact (a5 w (by omega) (by omega)).ext (by omega) (by omega) (Int.le_refl _) (fun j k _ _ _ => f j k (by omega) (by omega) (by omega)) (fun j _ _ => f j w (by omega) (by omega) (by omega)) (fun k _ => f 47 k (by omega) (by omega) (by omega)) (by omega) (by omega)
theorem EqD.ext {γ γ' : St} {n e : Int} (h : EqD γ n e) (e1 : ∀ j k, (26 ≤ j ∧ j ≤ 28 ∨ 38 ≤ j ∧ j ≤ 40 ∨ 43 ≤ j ∧ j ≤ 46) → γ' j k = γ j k) (e41 : ∀ k, γ 43 e ≤ k → k < γ 44 e → γ' 41 k = γ 41 k) : EqD γ' n e := by
  have b3 := e1 43 e (by omega)
  have b4 := e1 44 e (by omega)
  have b6 := e1 46 e (by omega)
  refine ⟨fun i q1 q2 => ⟨fun q3 => ?_, ?_⟩, fun q3 => ?_⟩
  · rw [e1 38 i (by omega)] at q3
    rw [e1 39 i (by omega), e1 40 i (by omega), e1 26 _ (by omega), e1 27 _ (by omega), b4, b6]
    exact (h.1 i (by omega) (by omega)).1 q3
  · rw [e41 i (by omega) (by omega), e1 28 n (by omega)]
    exact (h.1 i (by omega) (by omega)).2
  · rw [b4, e1 38 _ (by omega)] at q3
    rw [b6]
    exact h.2 q3
/-- check's frame -/
def FrZ (γ γ' : St) : Prop := ∀ j k, j ≠ 7 → j ≠ 53 → j ≠ 41 → γ' j k = γ j k
theorem FrZ.tr {a b c : St} (h : FrZ a b) (k : FrZ b c) : FrZ a c := fun j i q1 q2 q3 => (k j i q1 q2 q3).trans (h j i q1 q2 q3)
theorem FrZ.X {a b : St} (h : FrZ a b) : FrX a b := fun j k q => h j k (by omega) (by omega) (by omega)
def CkP (γ : St) (z : Int × St) : Prop := FlP γ z ∨ z.1 = 1 ∧ NI z.2 ∧ FrZ γ z.2 ∧ ∀ e, z.2 29 (z.2 3 9) ≤ e → e < z.2 4 10 → EqD z.2 (z.2 3 9) e
theorem CkP.pre {γ γ' : St} {z : Int × St} (h : CkP γ' z) (hF : FrZ γ γ') : CkP γ z := by
  rcases h with h | h
  · exact Or.inl ⟨h.1, h.2.1, hF.X.tr h.2.2⟩
  · exact Or.inr ⟨h.1, h.2.1, hF.tr h.2.2.1, h.2.2.2⟩
theorem check_L0 {n : Nat} {γ : St} {x : Int} (hn : 0 < n) : f_Ck_check_L87 n γ 0 x = some (0, γ) := by
  cases n with
  | zero => exact absurd hn (by omega)
  | succ n =>
    unfold f_Ck_check_L87
    rw [if_pos rfl]
    exact some_wp (wp_chk (by omega) (wp_some rfl))
theorem w_check_L87 : ∀ (n : Nat) (γ : St) (e : Int), NI γ → γ 7 5 = γ 25 (γ 3 9) → γ 29 (γ 3 9) ≤ e → e ≤ γ 4 10 → (∀ x, γ 29 (γ 3 9) ≤ x → x < e → EqD γ (γ 3 9) x) → γ 4 10 - e < n → wp (f_Ck_check_L87 n γ 1 e) (CkP γ) := by
  intro n
  induction n with
  | zero => intro γ e h h5 h1 h2 h3 h4; exfalso; omega
  | succ n ih =>
    intro γ e h h5 h1 h2 h3 h4
    unfold f_Ck_check_L87
    refine wp_ite (fun c => absurd c (by decide)) (fun _ => wp_ite (fun c => wp_chk (by omega) (wp_some (Or.inr ⟨rfl, h, fun _ _ _ _ _ => rfl, fun x q1 q2 => h3 x q1 (by have q2 : x < γ 4 10 := q2; omega)⟩))) (fun c => ?_))
    have hx : CkX γ e := ⟨h, h5, h1, by omega⟩
    have b := hx.b
    have fl : ∀ γ', γ' 1 7 ≠ 0 → FrX γ γ' → wp (f_Ck_check_b122 (f_Ck_check_L87 n) γ' e) (CkP γ) := fun γ' q1 q2 => by
      unfold f_Ck_check_b122 f_Ck_check_b123
      exact wp_chk (by omega) (wp_eq (check_L0 (by omega)) (Or.inl ⟨rfl, q1, q2⟩))
    refine wp_bnd (w_typesFit hx) (fun r γ1 q => ?_)
    rcases q with q | q
    · exact wp_ite (fun _ => fl γ1 q.2.1 q.2.2) (fun c => absurd q.1 c)
    · obtain ⟨q0, qF, qD⟩ := q
      have qF : FrK γ γ1 := qF
      refine wp_ite (fun c => absurd (q0.symm.trans c) (by decide)) (fun _ => ?_)
      have f : ∀ j k, j ≠ 7 → j ≠ 53 → γ1 j k = γ j k := fun j k q1 q2 => qF j k (by omega) q2
      have g9 := f 3 9 (by omega) (by omega)
      have h' : NI γ1 := h.ext (qF.T h.1) (fun j k q => f j k (by omega) (by omega)) (Int.le_of_eq (f 1 6 (by omega) (by omega)).symm)
      have hx1 : CkX γ1 e := ⟨h', by rw [g9, qF 7 5 (by omega) (by omega), f 25 _ (by omega) (by omega)]; exact h5, by rw [g9, f 29 _ (by omega) (by omega)]; exact h1, by rw [f 4 10 (by omega) (by omega)]; omega⟩
      refine wp_bnd (w_clocksFit hx1) (fun r2 γ2 p => ?_)
      rcases p with p | p
      · exact wp_ite (fun _ => fl γ2 p.2.1 (qF.X.tr p.2.2)) (fun c => absurd p.1 c)
      · obtain ⟨p0, pF, pD⟩ := p
        have pF : FrQ γ1 e γ2 := pF
        have pD : ∀ k, γ1 43 e ≤ k → k < γ1 44 e → -1 ≤ γ2 41 k ∧ γ2 41 k < 2 * γ1 28 (γ1 3 9) := pD
        refine wp_ite (fun c => absurd (p0.symm.trans c) (by decide)) (fun _ => ?_)
        have hN2 : NI γ2 := NI.q hx1 pF
        have g : ∀ j k, j ≠ 7 → j ≠ 53 → j ≠ 41 → γ2 j k = γ j k := fun j k q1 q2 q3 => (pF j k (by omega) q2 (by omega)).trans (f j k q1 q2)
        have k9 := g 3 9 (by omega) (by omega) (by omega)
        have k10 := g 4 10 (by omega) (by omega) (by omega)
        have k29 := g 29 (γ 3 9) (by omega) (by omega) (by omega)
        have hFZ : FrZ γ γ2 := g
        unfold f_Ck_check_b123
        refine wp_chk (by omega) (wp_mono (ih γ2 (e + 1) hN2 ?_ (by rw [k9, k29]; omega) (by omega) (fun x q1 q2 => ?_) (by omega)) (fun z hz => hz.pre hFZ))
        · rw [k9, g 25 _ (by omega) (by omega) (by omega), pF 7 5 (by omega) (by omega) (by omega), qF 7 5 (by omega) (by omega)]; exact h5
        · rw [k9, k29] at q1
          rw [k9]
          by_cases qe : x = e
          · subst qe
            have y43 := g 43 x (by omega) (by omega) (by omega)
            have y44 := g 44 x (by omega) (by omega) (by omega)
            have y46 := g 46 x (by omega) (by omega) (by omega)
            have z43 := f 43 x (by omega) (by omega)
            have z44 := f 44 x (by omega) (by omega)
            refine ⟨fun i r1 r2 => ⟨fun r3 => ?_, ?_⟩, fun r3 => ?_⟩
            · rw [g 38 i (by omega) (by omega) (by omega)] at r3
              rw [g 39 i (by omega) (by omega) (by omega), g 40 i (by omega) (by omega) (by omega), g 26 _ (by omega) (by omega) (by omega), g 27 _ (by omega) (by omega) (by omega), y44, y46]
              exact qD.1 i (by omega) (by omega) r3
            · have := pD i (by omega) (by omega)
              rw [g9, f 28 _ (by omega) (by omega)] at this
              rw [g 28 _ (by omega) (by omega) (by omega)]
              exact this
            · rw [y44, g 38 _ (by omega) (by omega) (by omega)] at r3
              rw [y46]
              exact qD.2 r3
          · have o := h.2.2.1.ord (x := x) (y := e) (by have := h.2.2.2.2.2.2.1; omega) (by omega) (by omega)
            refine (h3 x q1 (by omega)).ext (fun j k _ => g j k (by omega) (by omega) (by omega)) (fun k r1 r2 => ?_)
            rw [pF 41 k (by omega) (by omega) (by have := f 43 e (by omega) (by omega); omega), f 41 k (by omega) (by omega)]
theorem w_check_L36 {γ : St} {N : Int} (h : NI γ) (h5 : γ 7 5 = γ 25 (γ 3 9)) (hN : N = γ 3 9) : ∀ (n : Nat) (x : Int), 0 ≤ x → γ 3 15 - x < n → 0 < n → wp (f_Ck_check_L36 f_Ck_check_b60 f_Ck_check_b75 n γ N x) (CkP γ) := by
  have ⟨v1, v2, v3, v4, v5⟩ := h.2.1
  have := FU_v
  have c2 := h.2.2.1.2.1
  have c1 := h.2.2.1.1
  have t1 := h.1.1.2.1
  have t2 := h.1.2.1
  have u := h.2.2.2.2.2.2.1
  intro n
  induction n with
  | zero => intro x h1 h2 h3; exact absurd h3 (by omega)
  | succ n ih =>
    intro x h1 h2 h3
    unfold f_Ck_check_L36
    refine wp_ite (fun c => ?_) (fun c => wp_chk (by omega) (wp_ite (fun _ => wp_chk (by omega) (ih _ (by omega) (by omega) (by omega))) (fun _ => ?_)))
    · unfold f_Ck_check_b75
      rw [hN]
      refine wp_chk (by omega) (wp_sub ?_)
      exact w_check_L87 FU γ _ h h5 (by omega) (by omega) (fun x q1 q2 => by omega) (by omega)
    · unfold f_Ck_check_b60
      exact wp_mono (TopI.fl h.1 (by omega)) (fun z hz => Or.inl hz)
theorem w_check {γ : St} (h : NI γ) : wp (f_Ck_check γ) (CkP γ) := by
  have ⟨v1, v2, v3, v4, v5⟩ := h.2.1
  have := FU_v
  have u := h.2.2.2.2.2.1
  unfold f_Ck_check
  refine wp_sub (wp_chk (by omega) (wp_sub ?_))
  have f : ∀ j k, j ≠ 7 → setA γ 7 5 (γ 25 (γ 3 9)) j k = γ j k := fun j k q => by rw [stA, if_neg (by omega)]
  have f5 : setA γ 7 5 (γ 25 (γ 3 9)) 7 5 = γ 25 (γ 3 9) := by rw [stA, if_pos ⟨rfl, rfl⟩]
  rw [f5, f 26 _ (by omega)]
  have h' : NI (setA γ 7 5 (γ 25 (γ 3 9))) := h.ext (h.1.ext (fun j k q => f j k (by omega))) (fun j k q => f j k (by omega)) (Int.le_of_eq (f 1 6 (by omega)).symm)
  generalize setA γ 7 5 (γ 25 (γ 3 9)) = γ1 at *
  have e9 := f 3 9 (by omega)
  have e15 := f 3 15 (by omega)
  refine wp_chk (by omega) (wp_chk (by omega) (wp_sub ?_))
  refine wp_mono (w_check_L36 h' (by rw [e9, f 25 _ (by omega)]; exact f5) e9.symm FU _ (by omega) (by omega) (by omega)) (fun z hz => hz.pre (fun j k q1 _ _ => f j k q1))
