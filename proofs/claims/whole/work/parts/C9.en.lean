/-! equality: equations -/
def EqE (γ δ : St) (k : Int) : Prop := γ 42 k = δ 15 k ∧ γ 43 k = δ 19 k ∧ γ 44 k = δ 17 k + 1 ∧ γ 45 k = δ 16 k ∧ γ 46 k = δ 16 (k + 1) - δ 16 k
def EqT (γ δ : St) : Prop := (γ 4 10 = δ 0 30 ∧ γ 4 12 = δ 0 31) ∧ (∀ k, 0 ≤ k → k < δ 0 30 → EqE γ δ k) ∧ ∀ i, 0 ≤ i → i < δ 0 31 → γ 47 i = δ 18 i
/-- between equations -/
def EnR (N : Int) (γ δ : St) : Prop := DcR N (δ 0 19) γ δ ∧ (γ 26 (δ 0 18) = δ 5 (δ 0 18) ∧ 0 ≤ δ 5 (δ 0 18)) ∧ EqT γ δ ∧ PtR γ δ ∧ (0 ≤ δ 0 30 ∧ 0 ≤ δ 0 31)
def FcE (P : Int) (γ0 γ : St) : Prop := ∀ j k, (j = 1 → k < 5 ∨ 8 < k) → j ≠ 4 → j ≠ 6 → (j < 36 ∨ 52 < j ∨ j = 41 ∧ k < P) → γ j k = γ0 j k
theorem FcE.rf {P : Int} {γ : St} : FcE P γ γ := fun _ _ _ _ _ _ => rfl
theorem FcE.tr {P : Int} {γ0 γ1 γ : St} (h : FcE P γ0 γ1) (g : FcE P γ1 γ) : FcE P γ0 γ := fun j k a b c d => (g j k a b c d).trans (h j k a b c d)
/-- the reference opens an equation -/
def oeD (δ : St) : St := setA (setA (setA (pkS δ) 15 (δ 0 30) (sk δ)) 16 (δ 0 30) (δ 0 31)) 19 (δ 0 30) (δ 0 40)
theorem oeD_e (δ : St) (j : Nat) (k : Int) : oeD δ j k = if j = 19 ∧ k = δ 0 30 then δ 0 40 else if j = 16 ∧ k = δ 0 30 then δ 0 31 else if j = 15 ∧ k = δ 0 30 then sk δ else pkS δ j k := by
  unfold oeD
  rw [stA, stA, stA]
theorem oeD_o (δ : St) {j : Nat} {k : Int} (h : j ≠ 15 ∧ j ≠ 16 ∧ j ≠ 19 ∨ k ≠ δ 0 30) : oeD δ j k = pkS δ j k := by
  rw [oeD_e, if_neg (by omega), if_neg (by omega), if_neg (by omega)]
theorem EM.op {l0 P0 : Int} {γ : St} (i : EqW l0 P0 γ) : EM γ (oeD γ) := by
  have ⟨⟨a1, a2, a3, a4⟩, ⟨b1, b2, b3⟩, ⟨c1, c2, c3⟩, ⟨d1, d2, d3⟩, n9, n8, cn, el, ⟨f1, f2⟩, o9, o8⟩ := i
  have m := Mv.pk0 a1.1
  have e := m.2.1
  have m5 := m.2.2
  have s := oeD_e γ
  have s0 : ∀ j k, (j = 15 ∨ j = 16 ∨ j = 19 → k ≠ γ 0 30) → oeD γ j k = pkS γ j k := fun j k q => oeD_o γ (by omega)
  have s1 : ∀ j k, (j = 0 → k < 5 ∨ 9 < k) → (j = 15 ∨ j = 16 ∨ j = 19 → k ≠ γ 0 30) → oeD γ j k = γ j k := fun j k q1 q2 => by rw [s0 j k q2]; exact e j k (by omega)
  have w5 := s0 0 5 (by omega)
  have w31 := s1 0 31 (by omega) (by omega)
  refine ⟨⟨(a1.mv m).fr (fun k _ => s0 0 k (by omega)) (fun j q k => s0 j k (by omega)), fun j k q1 q2 q3 q4 => s1 j k (by omega) q3, by omega⟩, ⟨by rw [s, if_neg (by omega), if_pos ⟨rfl, rfl⟩], by rw [s, if_pos ⟨rfl, rfl⟩]⟩, by omega, fun t q1 q2 => by omega, fun v q1 q2 => ?_, fun v q1 q2 => ?_⟩
  · rw [s1 13 v (by omega) (by omega), cn v q1 q2]
    have := cntN_b (γ 18) l0 (v - γ 4 (γ 0 18)) (γ 0 31 - l0).toNat
    omega
  · rw [s1 13 v (by omega) (by omega), w31, show (γ 0 31 - γ 0 31).toNat = 0 by omega]
    show γ 13 v = γ 13 v + 0
    omega
theorem lfB_em {l0 P0 : Int} {δ0 δ : St} (i : EqW l0 P0 δ0) (h : EM δ0 δ) : pc (lfB δ) (fun z => ∀ r, z.1 = .inr r → EM δ0 z.2) := by
  refine wp.pc (EM.left (K := x0) h (by have := i.2.2.1; omega) i.1.2.2 (fun e γ' _ r q => by cases q) (fun γ' e _ _ _ _ _ => ?_))
  unfold x0
  exact wp_some (fun r q => e)
theorem lfM_em {l0 P0 : Int} {δ0 δ : St} (i : EqW l0 P0 δ0) (h : EM δ0 δ) : pc (lfM δ) (fun z => ∀ r, z.1 = .inr r → EM δ0 z.2) := by
  have L : ∀ (n : Nat) (γ : St), EM δ0 γ → pc (f_M_equation_L120 (fun γ => f_M_must γ 41) n γ) (fun z => ∀ r, z.1 = .inr r → EM δ0 z.2) := by
    intro n
    induction n with
    | zero => intro γ _; exact pc_n
    | succ n ih =>
      intro γ h
      rw [L120_b]
      refine pc_b (P := fun z => z = (tK γ, pkS γ)) (fun y e => by rw [pkM_eq h.lx] at e; cases e; rfl) (fun r γ' e => ?_)
      cases e
      have h1 := h.mv (Mv.pk0 h.lx)
      refine pc_i (fun q => ?_) (fun q => ?_)
      · by_cases t : tK (pkS γ) = 41
        · rw [must_y h1.lx t]
          exact pc_s (fun r q => h1.mv (Mv.tk0 h1.lx))
        · rw [must_n h1.lx t]
          exact pc_s (fun r q => by cases q)
      · refine pc_b (P := fun z => z = (0, tkS (pkS γ))) (fun y e => by rw [tkM_eq h1.lx] at e; cases e; rfl) (fun r γ' e => ?_)
        cases e
        exact pc_bT (lfB_em i (h1.mv (Mv.tk0 h1.lx))) (fun e γ' p r q => by cases q) (fun r γ' p => ih γ' (p r rfl))
  unfold lfM
  refine pc_b (P := fun z => z = (0, tkS δ)) (fun y e => by rw [tkM_eq h.lx] at e; cases e; rfl) (fun r γ' e => ?_)
  cases e
  exact pc_bT (lfB_em i (h.mv (Mv.tk0 h.lx))) (fun e γ' p r q => by cases q) (fun r γ' p => L FU γ' (p r rfl))
def eqF (γ2 : St) : Option Res :=
  chk (i32 ((γ2 0 30) + 1)) (ap (setA γ2 0 30 ((γ2 0 30) + 1)) fun γ5 =>
  chk (inb (γ5 0 30) 17001) (ap (setA γ5 16 (γ5 0 30) (γ5 0 31)) fun γ9 =>
  some (.inr 0, γ9)))
theorem L156_s (n : Nat) (γ : St) : f_M_equation_L120 f_M_equation_b156 n γ = bndT (f_M_equation_L120 (fun γ => f_M_must γ 41) n γ) (fun _ γ11 => bndT (f_M_must γ11 61) fun _ γ13 => bndT (eqC1 γ13) fun _ γ2 => eqF γ2) := by
  rw [L120_s (x := f_M_equation_b156), L120_s (x := fun γ => f_M_must γ 41), bT_T]
  congr 1
  funext r γ'
  unfold f_M_equation_b156 f_M_equation_b221 eqC1 eqF
  simp only [bT_T, bT_N, bT_I, bT_C, bT_e, ap]
theorem eq_s (γ : St) : f_M_equation γ = bndN (f_M_peek γ) fun _ γ40 =>
  chk (inb (γ40 0 30) 17000) (ap (setA γ40 15 (γ40 0 30) (γ40 0 7)) fun γ44 =>
  chk (inb (γ44 0 30) 17001) (ap (setA γ44 16 (γ44 0 30) (γ44 0 31)) fun γ48 =>
  chk (inb (γ48 0 30) 17000) (ap (setA γ48 19 (γ48 0 30) (γ48 0 40)) fun γ52 =>
  bndN (f_M_peek γ52) fun r53 γ54 =>
  if r53 = 40 then bndT (lfM γ54) (fun _ γ11 => bndT (f_M_must γ11 61) fun _ γ13 => bndT (eqC1 γ13) fun _ γ2 => eqF γ2)
  else bndT (lfB γ54) (fun _ γ70 => bndT (f_M_must γ70 61) fun _ γ72 => bndT (eqS1 γ72) fun _ γ2 => eqF γ2)))) := by
  unfold f_M_equation lfM lfB f_M_equation_b221 eqS1 eqF
  simp only [bT_T, bT_N, bT_I, bT_C, bT_e, bT_x0, ap, L156_s]
  rfl
/-- the class opens an equation -/
def oeS (γ : St) (p : Int) : St := fun j k => if k = γ 4 10 ∧ j = 46 then 0 else if k = γ 4 10 ∧ j = 45 then γ 4 12 else if k = γ 4 10 ∧ j = 43 then γ 4 4 else if k = γ 4 10 ∧ j = 42 then p else γ j k
theorem oeS_o (γ : St) (p : Int) {j : Nat} {k : Int} (h : j < 42 ∨ 46 < j ∨ k ≠ γ 4 10 ∨ j = 44) : oeS γ p j k = γ j k := by
  show (if _ then _ else _) = _
  rw [if_neg (by omega), if_neg (by omega), if_neg (by omega), if_neg (by omega)]
theorem openE_pc {γ : St} {p : Int} : pc (f_Cd_openEquation γ p) (fun z => z = (0, oeS γ p)) := by
  unfold f_Cd_openEquation
  refine pc_c (fun _ => pc_a (pc_c (fun _ => pc_a (pc_c (fun _ => pc_a (pc_c (fun _ => pc_a (pc_s ?_))))))))
  refine congrArg (Prod.mk 0) (funext fun j => funext fun k => ?_)
  simp [stA, oeS]
  grind
def ceS (γ : St) : St := fun j k => if j = 4 ∧ k = 10 then γ 4 10 + 1 else if j = 44 ∧ k = γ 4 10 then γ 4 4 else γ j k
theorem closeE_pc {γ : St} : pc (f_Cd_closeEquation γ) (fun z => z = (0, ceS γ)) := by
  unfold f_Cd_closeEquation
  refine pc_c (fun _ => pc_a (pc_c (fun _ => pc_a (pc_s ?_))))
  refine congrArg (Prod.mk 0) (funext fun j => funext fun k => ?_)
  simp [stA, ceS]
/-- behind the = -/
theorem pq_b46 {N a : Int} {γ γ1 δ δ1 : St} {m : St → Option Res} {R : St → St → Prop} (ha : tK δ1 = 61 → pq (f_Er_readRightSide (nxS γ1) a) (m (tkS δ1)) (OuR (RsR N (nxS γ1) (tkS δ1)))) (h : LfR N γ1 δ1) (fin : ∀ γ2 δ2, tK δ1 = 61 → RsR N (nxS γ1) (tkS δ1) γ2 δ2 → pq (some (1, ceS γ2)) (eqF δ2) (OuR R)) : pq (f_Nr_readEquation_b46 γ1 a 1) (bndT (f_M_must δ1 61) fun _ γ72 => bndT (m γ72) fun _ γ2 => eqF γ2) (OuR R) := by
  unfold f_Nr_readEquation_b46
  rw [if_neg (show ¬ (1 : Int) = 0 by decide)]
  refine pq_bb (pq_expect (a := 61) h.1.1 rfl (by decide) (by decide) (by decide)) (fun r γ' e δ' hh => ?_) (fun r γ' x δ' hh => ?_)
  · rw [if_pos hh.er.1]
    exact pq_some hh.hand
  · obtain ⟨e1, _, e2, e3, e4⟩ := hh.go
    subst e2; subst e3
    rw [if_neg (by rw [e1]; decide)]
    refine pq_bb (ha e4) (fun r γ' e δ' hh => ?_) (fun r γ' x δ' hh => ?_)
    · rw [if_pos hh.er.1]
      exact pq_some hh.hand
    · obtain ⟨e1, e2⟩ := hh.go
      rw [if_neg (by rw [e1]; decide)]
      refine pq_bl closeE_pc (fun r γ3 e => ?_)
      cases e
      exact fin γ' δ' e4 e2
theorem EqW.l16 {l0 P0 : Int} {γ : St} (i : EqW l0 P0 γ) : γ 16 (γ 0 30) = γ 0 31 := by
  have ⟨_, _, _, _, _, _, _, el, _⟩ := i
  exact el.2.2
theorem EnR.op {N : Int} {γ δ : St} (h : EnR N γ δ) : LfR N (oeS γ (γ 15 (γ 1 6))) (pkS (oeD δ)) := by
  have ⟨a, b, ⟨⟨c1, c2⟩, c3, c4⟩, ⟨⟨d1, d2⟩, d3⟩, e1, e2⟩ := h
  have o : ∀ (j : Nat) (k : Int), j < 42 ∨ 46 < j → oeS γ (γ 15 (γ 1 6)) j k = γ j k := fun j k q => oeS_o γ _ (by omega)
  have s : ∀ (j : Nat) (k : Int), j ≠ 15 ∧ j ≠ 16 ∧ j ≠ 19 → oeD δ j k = pkS δ j k := fun j k q => oeD_o δ (by omega)
  have p := pkS_o δ
  have t : ∀ (j : Nat) (k : Int), (j = 0 → k < 5 ∨ 9 < k) → j ≠ 15 ∧ j ≠ 16 ∧ j ≠ 19 → oeD δ j k = δ j k := fun j k q1 q2 => by rw [s j k q2]; exact p j k (by omega)
  have l : LxR N (oeS γ (γ 15 (γ 1 6))) (oeD δ) := a.pk.1.fr (fun j k q => o j k (by omega)) (fun k _ _ => o 1 k (by omega)) (o 2 8 (by omega)) (funext fun k => s 1 k (by omega)) (fun k _ => s 0 k (by omega))
  have t18 := t 0 18 (by omega) (by omega)
  have t30 := t 0 30 (by omega) (by omega)
  have t31 := t 0 31 (by omega) (by omega)
  refine LfR.pk ⟨a.xp l (fun j k q => o j k (by omega)) (fun j k q => t j k (by omega) (by omega)), ?_, ⟨by rw [o 4 10 (by omega), t30]; exact c1, by rw [o 4 12 (by omega), t31]; exact c2, by rw [o 4 4 (by omega), t 0 40 (by omega) (by omega)]; exact d1⟩, ?_, ?_, by rw [t31]; exact e2⟩
  · rw [t18, o 26 _ (by omega), t 5 _ (by omega) (by omega)]; exact b
  · intro i q1 q2
    rw [t31] at q2
    rw [o 47 i (by omega), t 18 i (by omega) (by omega)]
    exact c4 i q1 q2
  · rw [t30, t31]
    have e46 : oeS γ (γ 15 (γ 1 6)) 46 (δ 0 30) = 0 := by
      show (if _ then _ else _) = _
      rw [if_pos ⟨c1.symm, rfl⟩]
    have e45 : oeS γ (γ 15 (γ 1 6)) 45 (δ 0 30) = γ 4 12 := by
      show (if _ then _ else _) = _
      rw [if_neg (by omega), if_pos ⟨c1.symm, rfl⟩]
    rw [e46, e45]; omega
theorem pq_efin {N l0 P0 P : Int} {γ δ γ1 δ1 γ2 δ2 : St} (hP : P ≤ γ 4 4) (h : EnR N γ δ) (w : EqW l0 P0 δ) (q : LfQ N (oeS γ (γ 15 (γ 1 6))) (pkS (oeD δ)) γ1 δ1) (r : RsR N (nxS γ1) (tkS δ1) γ2 δ2) : pq (some (1, ceS γ2)) (eqF δ2) (OuR (fun γ' δ' => EnR N γ' δ' ∧ FcE P γ γ')) := by
  have ⟨a, b, ⟨⟨c1, c2⟩, c3, c4⟩, ⟨⟨d1, d2⟩, d3⟩, e1, e2⟩ := h
  have ⟨⟨la, ⟨lb1, lb2⟩, ⟨lc1, lc2, lc3⟩, ld, le, lf⟩, fc, fg, ⟨m1, m2⟩, _⟩ := q
  have ⟨⟨ra, rb⟩, rc, rd, r17⟩ := r
  have l16 := w.l16
  have sk0 : γ 15 (γ 1 6) = sk δ := a.1.1.2.2.2.2.symm
  -- the reference
  have p := pkS_o δ
  have po : ∀ (j : Nat) (k : Int), (j = 0 → k < 5 ∨ 9 < k) → pkS (oeD δ) j k = oeD δ j k := fun j k q => pkS_o _ j k (by omega)
  have od : ∀ (j : Nat) (k : Int), (j = 0 → k < 5 ∨ 9 < k) → (j = 15 ∨ j = 16 ∨ j = 19 → k ≠ δ 0 30) → pkS (oeD δ) j k = δ j k := fun j k q1 q2 => by rw [po j k q1, oeD_o δ (by omega)]; exact p j k (by omega)
  have g : ∀ (j : Nat) (k : Int), (j = 0 → (k < 5 ∨ 9 < k) ∧ k ≠ 31 ∧ k ≠ 40) → j ≠ 13 → j ≠ 18 → (j < 20 ∨ 27 < j) → j ≠ 8 ∧ j ≠ 9 → (j = 17 → k ≠ δ1 0 30) → δ2 j k = pkS (oeD δ) j k := fun j k q1 q2 q3 q4 q5 q6 => by
    rw [rd j k (by omega) q4 q5 (by rw [tkS_o δ1 0 30 (by omega)]; exact q6), tkS_o δ1 j k (by omega)]
    exact fg j k (by omega) q2 (by omega)
  have k30 : δ1 0 30 = δ 0 30 := by rw [fg 0 30 (by omega) (by omega) (by omega)]; exact od 0 30 (by omega) (by omega)
  have g30 : δ2 0 30 = δ 0 30 := by rw [g 0 30 (by omega) (by omega) (by omega) (by omega) (by omega) (by omega)]; exact od 0 30 (by omega) (by omega)
  have g31 : δ2 0 31 = δ1 0 31 := by rw [rd 0 31 (by omega) (by omega) (by omega) (by omega), tkS_o δ1 0 31 (by omega)]
  have g18 : δ2 0 18 = δ1 0 18 := by rw [rd 0 18 (by omega) (by omega) (by omega) (by omega), tkS_o δ1 0 18 (by omega)]
  have g5 : ∀ k, δ2 5 k = δ1 5 k := fun k => by rw [rd 5 k (by omega) (by omega) (by omega) (by omega), tkS_o δ1 5 k (by omega)]
  have t30 : tkS δ1 0 30 = δ 0 30 := by rw [tkS_o δ1 0 30 (by omega)]; exact k30
  rw [t30] at r17
  have p31 : pkS (oeD δ) 0 31 = δ 0 31 := od 0 31 (by omega) (by omega)
  have o15 : pkS (oeD δ) 15 (δ 0 30) = sk δ := by rw [po 15 _ (by omega), oeD_e, if_neg (by omega), if_neg (by omega), if_pos ⟨rfl, rfl⟩]
  have o16 : pkS (oeD δ) 16 (δ 0 30) = δ 0 31 := by rw [po 16 _ (by omega), oeD_e, if_neg (by omega), if_pos ⟨rfl, rfl⟩]
  have o19 : pkS (oeD δ) 19 (δ 0 30) = δ 0 40 := by rw [po 19 _ (by omega), oeD_e, if_pos ⟨rfl, rfl⟩]
  -- the class
  have nc : ∀ (j : Nat) (k : Int), (j = 1 → k < 5 ∨ 8 < k) → (j = 4 → k ≠ 4) → j ≠ 6 → (j < 38 ∨ 41 < j ∨ k < γ1 4 4) → (j < 48 ∨ 52 < j) → γ2 j k = γ1 j k := fun j k q1 q2 q3 q4 q5 => by rw [rc j k q1 q2 q3 (by rw [nxS_o γ1 (by omega)]; exact q4) q5, nxS_o γ1 (by omega)]
  have c10 : oeS γ (γ 15 (γ 1 6)) 4 10 = δ 0 30 := by rw [oeS_o γ _ (by omega)]; exact c1
  have n10 : γ2 4 10 = δ 0 30 := by rw [nc 4 10 (by omega) (by omega) (by omega) (by omega) (by omega), lc1, k30]
  have n12 : γ2 4 12 = δ1 0 31 := by rw [nc 4 12 (by omega) (by omega) (by omega) (by omega) (by omega), lc2]
  have n44 : γ2 4 4 = δ2 0 40 := rb.1.1
  have cl : ∀ (j : Nat) (k : Int), 42 ≤ j → j ≤ 45 → γ2 j k = oeS γ (γ 15 (γ 1 6)) j k := fun j k q1 q2 => by
    rw [nc j k (by omega) (by omega) (by omega) (by omega) (by omega)]
    exact fc j k (by omega) (by omega) (by omega) (by omega) (by omega) (by omega)
  have cl46 : ∀ k, k ≠ δ 0 30 → γ2 46 k = γ 46 k := fun k q => by
    rw [nc 46 k (by omega) (by omega) (by omega) (by omega) (by omega), fc 46 k (by omega) (by omega) (by omega) (by omega) (by rw [c10]; omega) (by omega), oeS_o γ _ (by omega)]
  have cc : ∀ (j : Nat) (k : Int), (j ≠ 4 ∨ k ≠ 10) → (j ≠ 44 ∨ k ≠ δ 0 30) → ceS γ2 j k = γ2 j k := fun j k q1 q2 => by
    show (if _ then _ else _) = _
    rw [if_neg (by omega), if_neg (by rw [n10]; omega)]
  unfold eqF
  refine pq_cr (fun _ => pq_ar (pq_cr (fun _ => pq_ar (pq_some (OuR.ok ?_)))))
  have e30 : setA δ2 0 30 (δ2 0 30 + 1) 0 30 = δ 0 30 + 1 := by rw [stA, if_pos ⟨rfl, rfl⟩, g30]
  have e31 : setA δ2 0 30 (δ2 0 30 + 1) 0 31 = δ1 0 31 := by rw [stA, if_neg (by omega), g31]
  rw [e30, e31]
  generalize hg : setA (setA δ2 0 30 (δ2 0 30 + 1)) 16 _ _ = δ3
  have s3 : ∀ j k, δ3 j k = if j = 16 ∧ k = δ 0 30 + 1 then δ1 0 31 else if j = 0 ∧ k = 30 then δ 0 30 + 1 else δ2 j k := fun j k => by
    rw [← hg, stA, stA, g30]
  have s0 : ∀ (j : Nat) (k : Int), (j ≠ 16 ∨ k ≠ δ 0 30 + 1) → (j ≠ 0 ∨ k ≠ 30) → δ3 j k = δ2 j k := fun j k q1 q2 => by rw [s3, if_neg (by omega), if_neg (by omega)]
  have s30 : δ3 0 30 = δ 0 30 + 1 := by rw [s3, if_neg (by omega), if_pos ⟨rfl, rfl⟩]
  have s31 : δ3 0 31 = δ1 0 31 := by rw [s0 0 31 (by omega) (by omega)]; exact g31
  have l3 : LxR N (ceS γ2) δ3 := ra.1.fr (fun j k q => cc j k (by omega) (by omega)) (fun k _ _ => cc 1 k (by omega) (by omega)) (cc 2 8 (by omega) (by omega)) (funext fun k => s0 1 k (by omega) (by omega)) (fun k q => s0 0 k (by omega) (by omega))
  refine ⟨⟨ra.xp l3 (fun j k q => cc j k (by omega) (by omega)) (fun j k q => s0 j k (by omega) (by omega)), ?_, ⟨⟨?_, ?_⟩, ?_, ?_⟩, ?_, by omega, by omega⟩, ?_⟩
  · rw [s0 0 18 (by omega) (by omega), g18, cc 26 _ (by omega) (by omega), nc 26 _ (by omega) (by omega) (by omega) (by omega) (by omega), s0 5 _ (by omega) (by omega), g5]
    exact ⟨lb1, lb2⟩
  · rw [s30]
    show (if _ then _ else _) = _
    rw [if_pos ⟨rfl, rfl⟩, n10]
  · rw [s31, cc 4 12 (by omega) (by omega), n12]
  · intro k q1 q2
    rw [s30] at q2
    by_cases qk : k = δ 0 30
    · subst qk
      have o42 : oeS γ (γ 15 (γ 1 6)) 42 (δ 0 30) = sk δ := by
        rw [← sk0]
        show (if _ then _ else _) = _
        rw [if_neg (by omega), if_neg (by omega), if_neg (by omega), if_pos ⟨c1.symm, rfl⟩]
      have o43 : oeS γ (γ 15 (γ 1 6)) 43 (δ 0 30) = δ 0 40 := by
        rw [← d1]
        show (if _ then _ else _) = _
        rw [if_neg (by omega), if_neg (by omega), if_pos ⟨c1.symm, rfl⟩]
      have o45 : oeS γ (γ 15 (γ 1 6)) 45 (δ 0 30) = δ 0 31 := by
        rw [← c2]
        show (if _ then _ else _) = _
        rw [if_neg (by omega), if_pos ⟨c1.symm, rfl⟩]
      have k45 : γ1 45 (δ 0 30) = δ 0 31 := by rw [← o45]; exact fc 45 _ (by omega) (by omega) (by omega) (by omega) (by omega) (by omega)
      refine ⟨?_, ?_, ?_, ?_, ?_⟩
      · rw [cc 42 _ (by omega) (by omega), cl 42 _ (by omega) (by omega), o42, s0 15 _ (by omega) (by omega), g 15 _ (by omega) (by omega) (by omega) (by omega) (by omega) (by omega), o15]
      · rw [cc 43 _ (by omega) (by omega), cl 43 _ (by omega) (by omega), o43, s0 19 _ (by omega) (by omega), g 19 _ (by omega) (by omega) (by omega) (by omega) (by omega) (by omega), o19]
      · rw [s0 17 _ (by omega) (by omega), r17]
        show (if _ then _ else _) = _
        rw [if_neg (by omega), if_pos ⟨rfl, n10.symm⟩, n44]
      · rw [cc 45 _ (by omega) (by omega), cl 45 _ (by omega) (by omega), o45, s0 16 _ (by omega) (by omega), g 16 _ (by omega) (by omega) (by omega) (by omega) (by omega) (by omega), o16]
      · rw [k30] at le
        rw [cc 46 _ (by omega) (by omega), nc 46 _ (by omega) (by omega) (by omega) (by omega) (by omega), le, k45, s3 16 (δ 0 30 + 1), if_pos ⟨rfl, rfl⟩, s0 16 _ (by omega) (by omega), g 16 _ (by omega) (by omega) (by omega) (by omega) (by omega) (by omega), o16]
    · obtain ⟨f1, f2, f3, f4, f5⟩ := c3 k q1 (by omega)
      have o : ∀ (j : Nat), oeS γ (γ 15 (γ 1 6)) j k = γ j k := fun j => oeS_o γ _ (by omega)
      have d : ∀ (j : Nat), j = 15 ∨ j = 16 ∨ j = 17 ∨ j = 19 → δ3 j k = δ j k := fun j q => by
        rw [s0 j k (by omega) (by omega), g j k (by omega) (by omega) (by omega) (by omega) (by omega) (by omega)]
        exact od j k (by omega) (by omega)
      have d16 : δ3 16 (k + 1) = δ 16 (k + 1) := by
        rw [s0 16 _ (by omega) (by omega), g 16 _ (by omega) (by omega) (by omega) (by omega) (by omega) (by omega)]
        by_cases q3 : k + 1 = δ 0 30
        · rw [q3, o16, l16]
        · exact od 16 _ (by omega) (by omega)
      refine ⟨?_, ?_, ?_, ?_, ?_⟩
      · rw [cc 42 _ (by omega) (by omega), cl 42 _ (by omega) (by omega), o, d 15 (by omega)]; exact f1
      · rw [cc 43 _ (by omega) (by omega), cl 43 _ (by omega) (by omega), o, d 19 (by omega)]; exact f2
      · rw [cc 44 _ (by omega) (by omega), cl 44 _ (by omega) (by omega), o, d 17 (by omega)]; exact f3
      · rw [cc 45 _ (by omega) (by omega), cl 45 _ (by omega) (by omega), o, d 16 (by omega)]; exact f4
      · rw [cc 46 _ (by omega) (by omega), cl46 k qk, d16, d 16 (by omega)]; exact f5
  · intro i q1 q2
    rw [s31] at q2
    rw [cc 47 i (by omega) (by omega), nc 47 i (by omega) (by omega) (by omega) (by omega) (by omega), s0 18 i (by omega) (by omega), rd 18 i (by omega) (by omega) (by omega) (by omega), tkS_o δ1 18 i (by omega)]
    exact ld i q1 q2
  · exact rb.fr (fun j q1 q2 k => cc j k (by omega) (by omega)) (cc 4 4 (by omega) (by omega)) (fun j q1 q2 q3 q4 q5 k => s0 j k (by omega) (by omega)) (s0 0 40 (by omega) (by omega))
  · intro j k q1 q2 q3 q4
    have g44 : γ1 4 4 = γ 4 4 := by rw [fc 4 4 (by omega) (by omega) (by omega) (by omega) (by omega) (by omega), oeS_o γ _ (by omega)]
    rw [cc j k (by omega) (by omega), nc j k q1 (by omega) q3 (by omega) (by omega), fc j k q1 (by omega) (by omega) (by omega) (by omega) (by omega), oeS_o γ _ (by omega)]
theorem eq_o {α : Type} {o : Option α} {Q : α → Res → Prop} {l0 P0 : Int} {δ : St} (w : EqW l0 P0 δ) (h : pq o (if tK (oeD δ) = 40 then bndT (lfM (pkS (oeD δ))) (fun _ γ11 => bndT (f_M_must γ11 61) fun _ γ13 => bndT (eqC1 γ13) fun _ γ2 => eqF γ2) else bndT (lfB (pkS (oeD δ))) (fun _ γ70 => bndT (f_M_must γ70 61) fun _ γ72 => bndT (eqS1 γ72) fun _ γ2 => eqF γ2)) Q) : pq o (f_M_equation δ) Q := by
  have lx : LX δ := w.1.1.1
  have p := pkS_o δ
  rw [eq_s]
  refine pq_er (pkM_eq lx) ?_
  rw [p 0 30 (by omega), pk_7]
  refine pq_cr (fun _ => pq_ar ?_)
  have u30 : setA (pkS δ) 15 (δ 0 30) (sk δ) 0 30 = δ 0 30 := by rw [stA, if_neg (by omega)]; exact p 0 30 (by omega)
  have u31 : setA (pkS δ) 15 (δ 0 30) (sk δ) 0 31 = δ 0 31 := by rw [stA, if_neg (by omega)]; exact p 0 31 (by omega)
  rw [u30, u31]
  refine pq_cr (fun _ => pq_ar ?_)
  have v30 : setA (setA (pkS δ) 15 (δ 0 30) (sk δ)) 16 (δ 0 30) (δ 0 31) 0 30 = δ 0 30 := by rw [stA, if_neg (by omega)]; exact u30
  have v40 : setA (setA (pkS δ) 15 (δ 0 30) (sk δ)) 16 (δ 0 30) (δ 0 31) 0 40 = δ 0 40 := by rw [stA, if_neg (by omega), stA, if_neg (by omega)]; exact p 0 40 (by omega)
  rw [v30, v40]
  refine pq_cr (fun _ => pq_ar ?_)
  exact pq_er (pkM_eq (EM.op w).lx) h
theorem pq_eqn {N l0 P0 P : Int} {γ δ : St} (hP : P ≤ γ 4 4) (h : EnR N γ δ) (w : EqW l0 P0 δ) : pq (f_Nr_readEquation γ) (f_M_equation δ) (OuR (fun γ' δ' => EnR N γ' δ' ∧ FcE P γ γ')) := by
  have lx : LexR N γ δ := h.1.1.1
  have op := h.op
  have em := (EM.op w).mv (Mv.pk0 (EM.op w).lx)
  have l1 : LX (oeD δ) := (EM.op w).lx
  have lo : LexR N (oeS γ (γ 15 (γ 1 6))) (pkS (oeD δ)) := op.1.1.1
  have k4 := lo.sg (k := 40) (by decide)
  rw [pk_tK l1, show sgC 40 = 4 from rfl] at k4
  have en : ∀ {γ' δ' : St}, LfQ N (oeS γ (γ 15 (γ 1 6))) (pkS (oeD δ)) γ' δ' → EM δ δ' → tK δ' = 61 → DcR N (tkS δ' 0 19) (nxS γ') (tkS δ') ∧ PtR (nxS γ') (tkS δ') ∧ PxI (tkS δ') := fun {γ' δ'} q e t => by
    have aa := q.1.1.st (γ1 := γ') (by omega) (by omega) (fun _ _ _ => rfl)
    refine ⟨aa.1, ?_, EM.px w (e.mv (Mv.tk0 e.lx))⟩
    have pt : PtR γ' δ' := by
      refine h.2.2.2.1.fr (fun j q1 q2 k => ?_) ?_ (fun j q1 q2 q3 q4 q5 k => ?_) ?_
      · rw [q.2.1 j k (by omega) (by omega) (by omega) (by omega) (by omega) (by omega), oeS_o γ _ (by omega)]
      · rw [q.2.1 4 4 (by omega) (by omega) (by omega) (by omega) (by omega) (by omega), oeS_o γ _ (by omega)]
      · rw [q.2.2.1 j k (by omega) (by omega) (by omega), pkS_o _ j k (by omega), oeD_o δ (by omega), pkS_o δ j k (by omega)]
      · rw [q.2.2.1 0 40 (by omega) (by omega) (by omega), pkS_o _ 0 40 (by omega), oeD_o δ (by omega), pkS_o δ 0 40 (by omega)]
    exact pt.tk (fun _ _ _ => rfl)
  refine eq_o w ?_
  unfold f_Nr_readEquation f_Nr_readEquation_b30
  refine pq_bl place_pc (fun r γ' e => ?_)
  cases e
  refine pq_bl openE_pc (fun r γ' e => ?_)
  cases e
  refine pq_bl kind_pc (fun r γ' e => ?_)
  cases e
  by_cases q : tK (oeD δ) = 40
  · rw [if_pos q, if_neg (show ¬ oeS γ (γ 15 (γ 1 6)) 14 (oeS γ (γ 15 (γ 1 6)) 1 6) ≠ 4 from fun r => r (k4.2 q)), if_neg (show ¬ (1 : Int) = 0 by decide)]
    refine pq_bb (pq_and (pq_lefts op (by rw [pk_tK l1]; exact q)) (lfM_em w em)) (fun r γ' e δ' hh => ?_) (fun r γ' x δ' hh => ?_)
    · unfold f_Nr_readEquation_b46
      rw [if_pos hh.1.er.1]
      exact pq_some hh.1.hand
    · obtain ⟨e1, e2⟩ := hh.1.go
      have e3 : EM δ δ' := hh.2 x rfl
      rw [e1]
      exact pq_b46 (γ := γ) (δ := δ) (m := eqC1) (fun t => pq_rc (en e2 e3 t).1 (en e2 e3 t).2.1 (en e2 e3 t).2.2) e2.1 (fun γ2 δ2 _ rr => pq_efin hP h w e2 rr)
  · rw [if_neg q, if_pos (show oeS γ (γ 15 (γ 1 6)) 14 (oeS γ (γ 15 (γ 1 6)) 1 6) ≠ 4 from fun r => q (k4.1 r)), if_pos (show (0 : Int) = 0 from rfl)]
    refine pq_bb (pq_and (pq_left2 op) (lfB_em w em)) (fun r γ' e δ' hh => ?_) (fun r γ' x δ' hh => ?_)
    · unfold f_Nr_readEquation_b46
      rw [if_pos hh.1.er.1]
      exact pq_some hh.1.hand
    · obtain ⟨e1, e2, _⟩ := hh.1.go
      have e3 : EM δ δ' := hh.2 x rfl
      rw [e1]
      exact pq_b46 (γ := γ) (δ := δ) (m := eqS1) (fun t => pq_rs (en e2 e3 t).1 (en e2 e3 t).2.1 (en e2 e3 t).2.2) e2.1 (fun γ2 δ2 _ rr => pq_efin hP h w e2 rr)
