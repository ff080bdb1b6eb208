/-! equality: the tables at the end of reading -/
/-- the class's clocks of parts are the full ones -/
theorem fl_41 {γ δ : St} {f k : Int} (nd : NdS δ f) (ar : ArN δ f) (fl : FlN γ δ (δ 4 f) k) (k1 : δ 7 f ≤ k) (k2 : k < δ 7 (f + 1)) {e : Int} (e1 : δ 19 k ≤ e) (e2 : e ≤ δ 17 k) : γ 41 e = if δ 20 e = 25 then δ 29 (δ 22 e) else δ 29 e := by
  obtain ⟨F, h1, h2⟩ := fl
  obtain ⟨a1, a2, a3⟩ := ar k k1 k2
  have eq := nd.eq k1 k2
  have gn := nd.gn k1 k2
  have same : ∀ (n : Nat) (e : Int), δ 17 k - e < n → δ 19 k ≤ e → e ≤ δ 17 k → F e = δ 29 e := by
    intro n
    induction n with
    | zero => intro e w1 w2 w3; exfalso; omega
    | succ n ih =>
      intro e w1 w2 w3
      by_cases q : e = δ 17 k
      · rw [q, h1, a1]
      · obtain ⟨p, p1, p2, ms, c1, m1⟩ := cover gn ((δ 17 k - δ 19 k).toNat + 1) (δ 17 k) e (by omega) (Int.le_refl _) (by omega) (by omega) (by omega)
        obtain ⟨j, hj⟩ := List.getElem?_of_mem m1
        rw [(h2 p (by omega) p2).2 ms c1 e m1, (a3 p (by omega) p2 ms c1 j e hj).1, ih p (by omega) (by omega) p2]
        unfold faV
        rfl
  rw [(h2 e e1 e2).1]
  by_cases q : δ 20 e = 25
  · rw [if_pos q, if_pos q]
    obtain ⟨ks, g1, g2, g3, g4, _⟩ := gn e e1 e2
    have l1 : ks.length = 1 := g4.2.2.2.2 (by omega)
    match ks, g1, g2, l1 with
    | [y], g1, g2, _ =>
      have ey : δ 22 e = y := g1.1
      have m := g2.mem y List.mem_cons_self
      rw [ey]
      exact same ((δ 17 k - y).toNat + 1) y (by omega) (by omega) (by omega)
  · rw [if_neg q, if_neg q]
    exact same ((δ 17 k - e).toNat + 1) e (by omega) e1 e2
/-- what the reading leaves, with the rows around filled -/
theorem tb_of {N : Int} {γ δ0 δ : St} (pn : PnR N γ δ0) (t : TpW δ0) (f : F34 δ0 δ) (sn : SN δ (δ0 0 18)) : TbR γ δ ∧ FlA γ δ ∧ SzR γ δ := by
  obtain ⟨p1, p2, p3, p4, p5, p6⟩ := pn
  have e0 : ∀ k, δ 0 k = δ0 0 k := fun k => f 0 k (by omega)
  have e : ∀ j : Nat, 1 ≤ j → j < 29 → δ j = δ0 j := fun j q1 q2 => funext fun k => f j k (by omega)
  refine ⟨⟨?_, ?_, ?_, by rw [e0]; exact sn, ?_⟩, ?_, ?_⟩
  · simp only [NtR, e0 18, e 4 (by omega) (by omega), e 5 (by omega) (by omega), e 6 (by omega) (by omega), e 7 (by omega) (by omega)] at p2 ⊢
    exact p2
  · simp only [EqT, EqE, e0 30, e0 31, e 15 (by omega) (by omega), e 16 (by omega) (by omega), e 17 (by omega) (by omega), e 18 (by omega) (by omega), e 19 (by omega) (by omega)] at p3 ⊢
    exact p3
  · simp only [PtR, PtE, e0 40, e 20 (by omega) (by omega), e 21 (by omega) (by omega), e 26 (by omega) (by omega)] at p4 ⊢
    exact p4
  · intro g q1 q2
    rw [e0 18] at q2
    rw [f.pe, e0 30, e0 31, e0 40, e0 19, e 7 (by omega) (by omega), e 4 (by omega) (by omega), e 16 (by omega) (by omega)]
    obtain ⟨n1, n2, n5, l0, l, P0, P, n3, n4, x⟩ := t.2.2.2.2.2.2.2.2 g q1 q2
    have x4 := x.1.2.2.2.1
    have x11 := x.1.2.2.2.2.2.2.2.2.2.2.1
    refine ⟨⟨n2, ?_, n1⟩, fun k w1 w2 => ?_⟩
    · unfold peN; omega
    · have er := x4.1 k w1 w2
      have := er.1.2.1
      have := er.2.1
      omega
  · simp only [FlA, FlN, SeN, e0 18, e 4 (by omega) (by omega), e 7 (by omega) (by omega), e 12 (by omega) (by omega), e 16 (by omega) (by omega), e 17 (by omega) (by omega), e 18 (by omega) (by omega), e 19 (by omega) (by omega), e 20 (by omega) (by omega), e 21 (by omega) (by omega), e 22 (by omega) (by omega), e 23 (by omega) (by omega), e 24 (by omega) (by omega)] at p5 ⊢
    exact p5
  · intro g q1 q2
    rw [e0 18] at q2
    have s := p6 g q1 q2
    have n0 : nP0 δ g = nP0 δ0 g := by unfold nP0; rw [e 7 (by omega) (by omega), e 19 (by omega) (by omega)]
    have n1 : nP1 δ g = nP1 δ0 g := by unfold nP1; rw [e 7 (by omega) (by omega), e 17 (by omega) (by omega)]
    rw [n0, n1, e 7 (by omega) (by omega), e 4 (by omega) (by omega), rfo_agree (w' := γ 31) (w := γ 31) (δ' := δ) (δ := δ0) _ _ _ (fun k _ _ => ⟨f 20 k (by omega), f 21 k (by omega), fun _ => rfl⟩), rfo_agree (w' := γ 32) (w := γ 32) (δ' := δ) (δ := δ0) _ _ _ (fun k _ _ => ⟨f 20 k (by omega), f 21 k (by omega), fun _ => rfl⟩)]
    exact s
theorem ClE.ro {γ γ' : St} {v0 k : Int} (h : ClE γ v0 k) (e : ∀ j : Nat, 12 ≤ j → j ≤ 24 → γ' j = γ j) : ClE γ' v0 k := by
  simp only [ClE, ClP, e 12 (by omega) (by omega), e 16 (by omega) (by omega), e 17 (by omega) (by omega), e 18 (by omega) (by omega), e 19 (by omega) (by omega), e 20 (by omega) (by omega), e 21 (by omega) (by omega), e 22 (by omega) (by omega), e 23 (by omega) (by omega), e 24 (by omega) (by omega)] at h ⊢
  exact h
theorem ArE.ro {γ γ' : St} {v0 k : Int} (h : ArE γ γ v0 k) (e : ∀ j : Nat, 12 ≤ j → j ≤ 34 → γ' j = γ j) : ArE γ' γ' v0 k := by
  simp only [ArE, KdA, faV, paV, e 12 (by omega) (by omega), e 16 (by omega) (by omega), e 17 (by omega) (by omega), e 18 (by omega) (by omega), e 19 (by omega) (by omega), e 20 (by omega) (by omega), e 21 (by omega) (by omega), e 22 (by omega) (by omega), e 23 (by omega) (by omega), e 24 (by omega) (by omega), e 29 (by omega) (by omega), e 30 (by omega) (by omega)] at h ⊢
  exact h
/-- the token at the end stands at the length -/
theorem tK_end {δ : St} (h : LX δ) (k : tK δ = 0) : sk δ = δ 0 1 := by
  have te := h.te2
  by_cases q : sk δ = δ 0 1
  · exact q
  · exfalso
    unfold tK tkK at k
    rw [if_neg (by omega)] at k
    unfold sgK at k
    repeat' split at k
    all_goals omega
theorem pq_brH {α : Type} {c : Option Res} {h : St → Int → Int → Option (Int × St)} {K : Int → St → Option (Int × St)} {o : Option α} {P : Res → Prop} {Q : α → Int × St → Prop} (hc : pc c P) (kt : ∀ e γ', P (.inl e, γ') → pq o (h γ' e.1 e.2) Q) (k : ∀ r γ', P (.inr r, γ') → pq o (K r γ') Q) : pq o (bndH c h K) Q := by
  intro y z e1 e2
  match c, hc, e2 with
  | none, _, e2 => exact absurd e2 (by intro h; cases h)
  | some (.inl (a, b), γ'), hc, e2 => exact kt (a, b) γ' (hc _ rfl) y z e1 e2
  | some (.inr r, γ'), hc, e2 => exact k r γ' (hc _ rfl) y z e1 e2
theorem sf_pc {γ : St} {m : Int} (h9 : γ 3 9 = m + 1) (h7 : γ 1 7 = 0) : pc (f_S_sizesFit γ) (fun z => ((γ 31 m ≤ 3000 ∧ γ 32 m ≤ 6000 ∧ γ 0 11 + γ 31 m ≤ 30000) ∧ z = (1, setA γ 0 11 (γ 0 11 + γ 31 m))) ∨ (¬ (γ 31 m ≤ 3000 ∧ γ 32 m ≤ 6000 ∧ γ 0 11 + γ 31 m ≤ 30000) ∧ z = (0, flS γ 3))) := by
  have fail : ¬ (γ 31 m ≤ 3000 ∧ γ 32 m ≤ 6000 ∧ γ 0 11 + γ 31 m ≤ 30000) → pc (f_S_sizesFit_b54 γ) (fun z => ((γ 31 m ≤ 3000 ∧ γ 32 m ≤ 6000 ∧ γ 0 11 + γ 31 m ≤ 30000) ∧ z = (1, setA γ 0 11 (γ 0 11 + γ 31 m))) ∨ (¬ (γ 31 m ≤ 3000 ∧ γ 32 m ≤ 6000 ∧ γ 0 11 + γ 31 m ≤ 30000) ∧ z = (0, flS γ 3))) := fun q => by
    unfold f_S_sizesFit_b54
    refine pc_b (fail_pc h7) (fun r γ' e => ?_)
    cases e
    exact pc_s (Or.inr ⟨q, rfl⟩)
  unfold f_S_sizesFit
  rw [h9, show m + 1 - 1 = m by omega]
  refine pc_c (fun _ => pc_a (pc_c (fun _ => pc_a (pc_i (fun q => fail (by omega)) (fun q => pc_c (fun _ => pc_i (fun q2 => fail (by omega)) (fun q2 => pc_c (fun _ => pc_i (fun q3 => pc_c (fun _ => pc_a (pc_s (Or.inl ⟨by omega, rfl⟩)))) (fun q3 => fail (by omega))))))))))
