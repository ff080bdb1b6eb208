/-! equality: right sides -/
theorem pc_bT {c : Option Res} {K : Int → St → Option Res} {P Q : Res → Prop} (h : pc c P) (kt : ∀ e γ', P (.inl e, γ') → Q (.inl e, γ')) (k : ∀ r γ', P (.inr r, γ') → pc (K r γ') Q) : pc (bndT c K) Q := fun y e => by
  match c, h, e with
  | some (.inl e', γ'), h, e =>
    have e : some ((.inl e', γ') : Res) = some y := e
    cases e
    exact kt e' γ' (h _ rfl)
  | some (.inr r, γ'), h, e => exact k r γ' (h _ rfl) y e
theorem pq_and {α β : Type} {o : Option α} {m : Option β} {Q : α → β → Prop} {P : β → Prop} (h : pq o m Q) (k : pc m P) : pq o m (fun y z => Q y z ∧ P z) := fun y z e1 e2 => ⟨h y z e1 e2, k z e2⟩
theorem lp_1 (n : Nat) (γ : St) (i : Int) {y : Int × St} (h : γ 6 14 ≠ 0) (e : f_Er_readRightSide_L57 n γ 1 i = some y) : y = (1, γ) := by
  cases n with
  | zero => cases e
  | succ n =>
    unfold f_Er_readRightSide_L57 at e
    rw [if_neg (show ¬ (1 : Int) = 0 by decide), if_pos h] at e
    have e2 := (chk_e e).2
    cases e2; rfl
/-- the end of a right side -/
theorem lp_end {α : Type} {m : Option α} {Q : Int × St → α → Prop} {γ : St} {f : Nat} {i : Int} (hp : LpC γ i) (h12 : γ 6 12 = 0) (h7 : γ 1 7 = 0) (h8 : γ 6 8 = 0) (hc : γ 6 11 ≠ 0 ∨ γ 14 (γ 1 6) ≠ 27 ∧ (rankK (γ 14 (γ 1 6)) ≤ 0 ∨ rankK (γ 14 (γ 1 6)) = 8 ∨ γ 14 (γ 1 6) = 34)) (hl : γ 14 (γ 1 6) = 7 → γ 1 6 + 1 < γ 1 5) (y : γ 14 (γ 1 6) = 7 → pq (some (1, nxS (setA γ 6 14 1))) m Q) (n : γ 14 (γ 1 6) ≠ 7 → pq (some (0, flS γ 1)) m Q) : pq (f_Er_readRightSide_L57 f γ 1 i) m Q := by
  cases f with
  | zero => exact pq_nl
  | succ k =>
    rw [lp_op k γ i hp h12]
    have clo : pc (f_Er_readCloser γ (γ 14 (γ 1 6))) (fun z => γ 14 (γ 1 6) = 7 ∧ z = (1, nxS (setA γ 6 14 1)) ∨ γ 14 (γ 1 6) ≠ 7 ∧ z = (0, flS γ 1)) := by
      have b157 : γ 14 (γ 1 6) ≠ 7 → pc (f_Er_readCloser_b157 γ) (fun z => γ 14 (γ 1 6) = 7 ∧ z = (1, nxS (setA γ 6 14 1)) ∨ γ 14 (γ 1 6) ≠ 7 ∧ z = (0, flS γ 1)) := fun q => by
        unfold f_Er_readCloser_b157
        refine pc_b (fail_pc h7) (fun r γ' e => ?_)
        cases e
        exact pc_s (Or.inr ⟨q, rfl⟩)
      unfold f_Er_readCloser f_Er_readCloser_b22
      rw [if_pos (show γ 6 8 ≤ 0 by omega), if_neg (show ¬ (0 : Int) ≠ 0 by decide)]
      refine pc_i (fun q => ?_) (fun q => pc_a ?_)
      · unfold f_Er_readCloser_b47 f_Er_readCloser_b59 f_Er_readCloser_b77 f_Er_readCloser_b116
        rw [if_pos (show (0 : Int) ≠ 32 by decide), if_pos (show (0 : Int) ≠ 33 by decide), if_pos (show (0 : Int) ≠ 4 by decide), if_pos (show (0 : Int) ≠ 43 by decide)]
        exact b157 q
      · have q7 : γ 14 (γ 1 6) = 7 := by omega
        refine pc_b (step_pc2 (by rw [stA, if_neg (by omega), stA, if_neg (by omega)]; exact hl q7)) (fun r γ' e => ?_)
        cases e
        exact pc_s (Or.inl ⟨q7, rfl⟩)
    have b75 : pc (f_Er_readOperator_b75 γ (γ 14 (γ 1 6))) (fun z => γ 14 (γ 1 6) = 7 ∧ z = (1, nxS (setA γ 6 14 1)) ∨ γ 14 (γ 1 6) ≠ 7 ∧ z = (0, flS γ 1)) := by
      unfold f_Er_readOperator_b75
      refine pc_b (P := fun z => z = (1, γ)) (fun y e => reduce_n (Or.inl (by omega)) e) (fun r γ' e => ?_)
      cases e
      rw [if_neg (show ¬ (1 : Int) = 0 by decide)]
      refine pc_b clo (fun r γ' e => ?_)
      rcases e with ⟨q, e⟩ | ⟨q, e⟩
      · cases e
        rw [if_neg (show ¬ (1 : Int) = 0 by decide)]
        exact pc_s (Or.inl ⟨q, rfl⟩)
      · cases e
        rw [if_pos rfl]
        exact pc_s (Or.inr ⟨q, rfl⟩)
    have rop : pc (f_Er_readOperator γ) (fun z => γ 14 (γ 1 6) = 7 ∧ z = (1, nxS (setA γ 6 14 1)) ∨ γ 14 (γ 1 6) ≠ 7 ∧ z = (0, flS γ 1)) := by
      unfold f_Er_readOperator f_Er_readOperator_b26
      refine pc_b kind_pc (fun r γ' e => ?_)
      cases e
      have b43 : ∀ x, (x ≠ 0 ∨ rankK (γ 14 (γ 1 6)) ≤ 0 ∨ rankK (γ 14 (γ 1 6)) = 8 ∨ γ 14 (γ 1 6) = 34) → pc (f_Er_readOperator_b43 γ (γ 14 (γ 1 6)) x) (fun z => γ 14 (γ 1 6) = 7 ∧ z = (1, nxS (setA γ 6 14 1)) ∨ γ 14 (γ 1 6) ≠ 7 ∧ z = (0, flS γ 1)) := fun x hx => by
        unfold f_Er_readOperator_b43
        refine pc_b rank_pc (fun r γ' e => ?_)
        cases e
        exact pc_i (fun _ => b75) (fun q1 => pc_i (fun _ => b75) (fun q2 => pc_i (fun _ => b75) (fun q3 => pc_i (fun _ => b75) (fun q4 => by exfalso; omega))))
      by_cases q11 : γ 6 11 = 0
      · rw [if_pos q11]
        have hc2 := hc.resolve_left (fun r => r q11)
        unfold f_Er_readOperator_b27
        rw [if_pos hc2.1]
        exact b43 0 (Or.inr hc2.2)
      · rw [if_neg q11, if_neg (show ¬ γ 6 8 ≠ 0 from fun r => r h8)]
        unfold f_Er_readOperator_b27
        refine pc_i (fun _ => b43 1 (Or.inl (by decide))) (fun q => ?_)
        rw [if_pos (show (1 : Int) ≠ 0 by decide)]
        exact b43 1 (Or.inl (by decide))
    refine pq_bl rop (fun r γ' e => pq_cl (fun _ => ?_))
    rcases e with ⟨q, e⟩ | ⟨q, e⟩
    · cases e
      intro a b e1 e2
      have h14 : nxS (setA γ 6 14 1) 6 14 ≠ 0 := by rw [nxS_o _ (by omega), stA, if_pos ⟨rfl, rfl⟩]; decide
      rw [lp_1 _ _ _ h14 e1]
      exact y q _ b rfl e2
    · cases e
      intro a b e1 e2
      rw [lp_0 _ _ _ e1]
      exact n q _ b rfl e2
/-- behind the ; -/
def RsR (N : Int) (γs δs γ δ : St) : Prop := (DcR N (δ 0 19) γ δ ∧ PtR γ δ) ∧ (∀ j k, (j = 1 → k < 5 ∨ 8 < k) → (j = 4 → k ≠ 4) → j ≠ 6 → (j < 38 ∨ 41 < j ∨ k < γs 4 4) → (j < 48 ∨ 52 < j) → γ j k = γs j k) ∧ (∀ j k, (j = 0 → (k < 5 ∨ 9 < k) ∧ k ≠ 40) → (j < 20 ∨ 27 < j) → j ≠ 8 ∧ j ≠ 9 → (j = 17 → k ≠ δs 0 30) → δ j k = δs j k) ∧ δ 17 (δs 0 30) + 1 = δ 0 40
/-- a right side begins -/
def rsS (γ : St) (a : Int) : St := fun j k => if j = 6 ∧ (k = 8 ∨ k = 9 ∨ k = 10 ∨ k = 14) then 0 else if j = 6 ∧ k = 11 then a else if j = 6 ∧ (k = 12 ∨ k = 13) then 1 else γ j k
theorem rsS_o (γ : St) (a : Int) {j : Nat} {k : Int} (h : j ≠ 6 ∨ k < 8 ∨ 14 < k) : rsS γ a j k = γ j k := by
  show (if _ then _ else _) = _
  rw [if_neg (by omega), if_neg (by omega), if_neg (by omega)]
theorem rsS_6 (γ : St) (a : Int) : rsS γ a 6 8 = 0 ∧ rsS γ a 6 9 = 0 ∧ rsS γ a 6 10 = 0 ∧ rsS γ a 6 11 = a ∧ rsS γ a 6 12 = 1 ∧ rsS γ a 6 13 = 1 ∧ rsS γ a 6 14 = 0 := by
  unfold rsS
  simp
theorem rs_in {α : Type} {m : Option α} {Q : Int × St → α → Prop} {γ : St} {a : Int} (h : pq (if a = 0 then f_Er_readRightSide_L57 FU (rsS γ a) 1 0 else bndN (f_Er_readCalled (rsS γ a)) fun r29 γ30 => if r29 = 0 then f_Er_readRightSide_L57 FU γ30 0 0 else f_Er_readRightSide_L57 FU γ30 1 0) m Q) : pq (f_Er_readRightSide γ a) m Q := by
  unfold f_Er_readRightSide f_Er_readRightSide_b49 f_Er_readRightSide_b54
  refine pq_al (pq_al (pq_al (pq_cl (fun _ => pq_al (pq_al (pq_al (pq_al ?_)))))))
  generalize hg : setA _ 6 14 0 = γ2
  have e : γ2 = rsS γ a := by
    rw [← hg]
    funext j k
    simp [stA, rsS]
    grind
  rw [e, (rsS_6 γ a).2.2.2.1]
  exact h
/-- the reference's right side, up to its ; -/
def eqS1 (γ72 : St) : Option Res := bndT (F_M_expression γ72 0) fun r75 γ76 => chk (inb (γ72 0 30) 17000) (f_M_must (setA γ76 17 (γ72 0 30) r75) 59)
def eqC1 (γ13 : St) : Option Res :=
  bndN (f_M_nameHere γ13) fun r14 γ15 =>
  if r14 ≠ 0 then
  (bndN (f_M_nodeHere γ15) fun r16 γ17 =>
  if 0 ≤ r16 then
  (bndN (f_M_take γ17) fun _ γ19 =>
  bndT (F_M_call γ19 r16 0) fun r22 γ23 =>
  chk (inb (γ19 0 30) 17000) (f_M_must (setA γ23 17 (γ19 0 30) r22) 59))
  else
  (some (.inl (2, γ17 0 7), γ17)))
  else
  (bndN (f_M_cant γ15) fun p26 γ27 => some (.inl (1, p26), γ27))
theorem DcR.st {N : Int} {γ γ1 δ : St} (a : DcR N (δ 0 19) γ δ) (k0 : tK δ ≠ 0) (k3 : tK δ ≠ 3) (e : ∀ (j : Nat) (k : Int), j ≤ 3 ∨ 13 ≤ j ∧ j ≤ 37 → γ1 j k = γ j k) : DcR N (tkS δ 0 19) (nxS γ1) (tkS δ) ∧ nxS γ1 1 6 = γ 1 6 + 1 := by
  have o := tkS_o δ
  have t : DcR N (tkS δ 0 19) (nxS γ) (tkS δ) := by rw [o 0 19 (by omega)]; exact a.tk k0 k3
  have f : ∀ (j : Nat) (k : Int), j ≤ 3 ∨ 13 ≤ j ∧ j ≤ 37 → nxS γ1 j k = nxS γ j k := fun j k q => by
    unfold nxS
    rw [e 1 6 (by omega), stA, stA, e j k q]
  have l : LxR N (nxS γ1) (tkS δ) := t.1.fr (fun j k q => f j k (by omega)) (fun k _ _ => f 1 k (by omega)) (f 2 8 (by omega)) rfl (fun _ _ => rfl)
  refine ⟨t.xp l (fun j k q => f j k (by omega)) (fun _ _ _ => rfl), ?_⟩
  unfold nxS
  rw [stA, if_pos ⟨rfl, rfl⟩, e 1 6 (by omega)]
/-- at the end of a right side both want a ; -/
theorem pq_semi {N i r : Int} {f : Nat} {γs δs γ0 δ0 γ δ : St} (z : Bool) (hx : XpB N 0 i γ δ) (hi : 0 ≤ i) (h12 : γ 6 12 = 0) (h8 : γ 6 8 = 0) (nx : γ 6 11 ≠ 0 ∧ z = false ∨ NxT z 0 (γ 14 (γ 1 6))) (fc : FcX γ0 γ) (h08 : γ0 6 8 = 0 ∧ γ0 6 9 = 0) (f0 : ∀ j k, (j = 1 → k < 5 ∨ 8 < k) → j ≠ 6 → γ0 j k = γs j k) (p0 : γ0 4 4 = δ0 0 40) (x : XS δ0 δ [r]) (mv : Mv δs δ0) (k30 : Int) (hk : k30 = δs 0 30) : pq (Go z f γ i) (f_M_must (setA δ 17 k30 r) 59) (OuR (RsR N γs δs)) := by
  subst hk
  have ⟨a, b, c, e1, e2, e3, e4⟩ := hx
  have lx : LexR N γ δ := a.1.1
  have s0 : ∀ (j : Nat) (q : Int), j ≠ 17 ∨ q ≠ δs 0 30 → setA δ 17 (δs 0 30) r j q = δ j q := fun j q h => by rw [stA, if_neg (by omega)]
  have l : LxR N γ (setA δ 17 (δs 0 30) r) := a.1.fr (fun _ _ _ => rfl) (fun _ _ _ => rfl) rfl (funext fun q => s0 1 q (by omega)) (fun q _ => s0 0 q (by omega))
  have c7 := l.1.sg (k := 59) (by decide)
  have s7 : sgC 59 = 7 := rfl
  have lpc : LpC γ i := by
    have t := lx.2.2.1.2.1
    have u := lx.2.2.2.1
    exact ⟨e1, by omega⟩
  by_cases q : tK (setA δ 17 (δs 0 30) r) = 59
  · have kc : γ 14 (γ 1 6) = 7 := c7.2 q
    have zf : z = false := by
      rcases nx with ⟨_, h⟩ | h
      · exact h
      · exact h.f (by rw [kc]; decide)
    subst zf
    rw [must_y l.1.1 q]
    refine lp_end lpc h12 a.1.2 h8 (by
      rcases nx with ⟨h, _⟩ | h
      · exact Or.inl h
      · exact Or.inr ⟨(h.2 rfl).1 (by omega), (h.2 rfl).2 (by omega)⟩) (fun _ => l.1.lt (by omega) (by omega)) (fun _ => pq_some (OuR.ok ?_)) (fun h => absurd kc h)
    have a' : DcR N (setA δ 17 (δs 0 30) r 0 19) γ (setA δ 17 (δs 0 30) r) := a.xp l (fun _ _ _ => rfl) (fun j q r => s0 j q (by omega))
    have dd := a'.st (γ1 := setA γ 6 14 1) (by omega) (by omega) (fun j k h => by rw [stA, if_neg (by omega)])
    have n : ∀ (j : Nat) (k : Int), j ≠ 6 → (j ≠ 1 ∨ k ≠ 6) → nxS (setA γ 6 14 1) j k = γ j k := fun j k h1 h2 => by rw [nxS_o _ h2, stA, if_neg (by omega)]
    have b' : PtR γ (setA δ 17 (δs 0 30) r) := b.fr (fun _ _ _ _ => rfl) rfl (fun j _ _ _ _ _ q => s0 j q (by omega)) (s0 0 40 (by omega))
    refine ⟨⟨dd.1, b'.tk (fun j k h => by rw [stA, if_neg (by omega)])⟩, fun j k q1 q2 q3 q4 q5 => ?_, fun j k q1 q2 q3 q4 => ?_, ?_⟩
    · have e44 := f0 4 4 (by omega) (by omega)
      rw [n j k q3 (by omega), fc j k q1 q2 (by omega) (by omega) (by omega) (by omega)]
      exact f0 j k q1 q3
    · rw [tkS_o _ j k (by omega), s0 j k (by omega), x.fx.1 j k q1 (by omega) (by omega)]
      exact mv.2.1 j k (by omega)
    · rw [tkS_o _ 17 _ (by omega), stA, if_pos ⟨rfl, rfl⟩, tkS_o _ 0 40 (by omega), s0 0 40 (by omega)]
      have := (Sg.last (ks := []) x.2.1.2).1
      omega
  · rw [must_n l.1.1 q]
    have hfl : pq (some (0, flS γ 1)) (some ((.inl (1, sk (setA δ 17 (δs 0 30) r)), pkS (setA δ 17 (δs 0 30) r)) : Res)) (OuR (RsR N γs δs)) := pq_some (OuR.no (flS_7 γ 1) (by rw [flS_8]; exact l.1.2.2.2.2.symm) (by decide))
    have n7 : γ 14 (γ 1 6) ≠ 7 := fun h => q (c7.1 h)
    cases z with
    | true =>
      show pq (Dm γ) _ _
      unfold Dm
      refine pq_bl (P := fun z => z = (1, γ)) (fun y e => reduce_n (Or.inl (by omega)) e) (fun r γ' e => ?_)
      cases e
      rw [if_neg (show ¬ (1 : Int) = 0 by decide)]
      refine pq_bl (fail_pc a.1.2) (fun r γ' e => ?_)
      cases e
      exact hfl
    | false =>
      refine lp_end lpc h12 a.1.2 h8 (by
        rcases nx with ⟨h, _⟩ | h
        · exact Or.inl h
        · exact Or.inr ⟨(h.2 rfl).1 (by omega), (h.2 rfl).2 (by omega)⟩) (fun h => absurd h n7) (fun h => absurd h n7) (fun _ => hfl)
theorem pq_rs {N : Int} {γ δ : St} (a : DcR N (δ 0 19) γ δ) (b : PtR γ δ) (c : PxI δ) : pq (f_Er_readRightSide γ 0) (eqS1 δ) (OuR (RsR N γ δ)) := by
  refine rs_in ?_
  rw [if_pos rfl]
  have r6 := rsS_6 γ 0
  have ro : ∀ (j : Nat) (k : Int), j ≠ 6 → rsS γ 0 j k = γ j k := fun j k h => rsS_o γ 0 (by omega)
  have l : LxR N (rsS γ 0) δ := a.1.fr (fun j k _ => ro j k (by omega)) (fun k _ _ => ro 1 k (by omega)) (ro 2 8 (by omega)) rfl (fun _ _ => rfl)
  have g6 := a.1.1.2.2.2.1
  have n16 := ro 1 6 (by omega)
  have xp : XpR N 0 0 (rsS γ 0) δ := ⟨a.xp l (fun j k _ => ro j k (by omega)) (fun _ _ _ => rfl), b.fr (fun j _ _ k => ro j k (by omega)) (ro 4 4 (by omega)) (fun _ _ _ _ _ _ _ => rfl) rfl, c, ⟨r6.2.2.2.2.2.2, r6.2.2.1, by omega, by omega⟩, by omega, by omega, by omega⟩
  have ent : XeI N 0 0 0 (rsS γ 0) δ := ⟨xp, r6.2.2.2.2.1, fun _ => by rw [r6.2.2.2.2.2.1]; decide, fun q => by omega, Or.inl r6.1, by omega, by omega⟩
  refine (ME_e N 900 0).1 0 (by omega) _ _ FU (rsS γ 0) δ 0 ent (fun z f' γ' i' r δ' m nx => ?_)
  refine pq_cr (fun _ => ?_)
  exact pq_semi z m.1.b m.1.2.2.2.1.2.2.1 m.2.1 (by have := m.2.2.2.1.1; omega) (Or.inr nx) m.2.2.1 ⟨r6.1, r6.2.1⟩ (fun j k q1 q2 => ro j k q2) (by rw [ro 4 4 (by omega)]; exact b.1.1) m.2.2.2.2.2 (Mv.rf c.1.1) (δ 0 30) rfl
theorem pq_rc {N : Int} {γ δ : St} (a : DcR N (δ 0 19) γ δ) (b : PtR γ δ) (c : PxI δ) : pq (f_Er_readRightSide γ 1) (eqC1 δ) (OuR (RsR N γ δ)) := by
  refine rs_in ?_
  rw [if_neg (show ¬ (1 : Int) = 0 by decide)]
  have r6 := rsS_6 γ 1
  have ro : ∀ (j : Nat) (k : Int), j ≠ 6 → rsS γ 1 j k = γ j k := fun j k h => rsS_o γ 1 (by omega)
  have l : LxR N (rsS γ 1) δ := a.1.fr (fun j k _ => ro j k (by omega)) (fun k _ _ => ro 1 k (by omega)) (ro 2 8 (by omega)) rfl (fun _ _ => rfl)
  have a1 : DcR N (δ 0 19) (rsS γ 1) δ := a.xp l (fun j k _ => ro j k (by omega)) (fun _ _ _ => rfl)
  have b1 : PtR (rsS γ 1) δ := b.fr (fun j _ _ k => ro j k (by omega)) (ro 4 4 (by omega)) (fun _ _ _ _ _ _ _ => rfl) rfl
  generalize hr : rsS γ 1 = γ1 at *
  have lx : LexR N γ1 δ := l.1
  have no : ∀ {γ2 δ2 : St} {k p : Int}, γ2 1 7 = k → γ2 1 8 = p → k ≠ 0 → pq (some (0, γ2)) (some ((.inl (k, p), δ2) : Res)) (OuR (RsR N γ δ)) := fun h1 h2 h3 => pq_some (OuR.no h1 h2 h3)
  have hz : ∀ {γ2 δ2 : St} {k p : Int}, pc (f_Er_readCalled γ1) (fun z => z = (0, γ2)) → γ2 1 7 = k → γ2 1 8 = p → k ≠ 0 → pq (bndN (f_Er_readCalled γ1) fun r29 γ30 => if r29 = 0 then f_Er_readRightSide_L57 FU γ30 0 0 else f_Er_readRightSide_L57 FU γ30 1 0) (some ((.inl (k, p), δ2) : Res)) (OuR (RsR N γ δ)) := fun h h1 h2 h3 => by
    refine pq_bl h (fun r γ' e => ?_)
    cases e
    rw [if_pos rfl]
    intro y z e1 e2
    rw [lp_0 _ _ _ e1]
    exact no h1 h2 h3 _ z rfl e2
  unfold eqC1
  refine pq_yn (w_nameHere lx.1) (fun q => ?_) (fun q => ?_)
  · rw [if_pos (show (1 : Int) ≠ 0 by decide)]
    have k1 : tK δ = 1 := q.1
    have kd : γ1 14 (γ1 1 6) = 2 := lx.nm.2 q
    have lt := lx.lt (by omega) (by omega)
    refine pq_br nHere_pc (fun r16 δ5 e => ?_)
    obtain ⟨r'', e, F2⟩ := e
    have e1 : r'' = r16 := (congrArg Prod.fst e).symm
    have e2 : δ5 = pkS δ := congrArg Prod.snd e
    subst e1
    subst e2
    rw [pkS_o δ 0 18 (by omega)] at F2
    have fn := a1.2.2.1.find lx k1 F2
    have wd : γ1 16 (γ1 1 6) = wdN γ1 := rfl
    refine pq_ir (fun q7 => ?_) (fun q7 => ?_)
    · have en : γ1 23 (γ1 16 (γ1 1 6)) - 1 = r'' := by
        rw [wd]
        rcases fn with ⟨f1, f2, f3⟩ | ⟨f1, f2⟩ <;> omega
      refine pq_er (tkM_eq lx.1.pk) ?_
      rw [tkS_pk lx.1]
      have dd := a1.st (γ1 := γ1) (by omega) (by omega) (fun _ _ _ => rfl)
      have ltk : LxR N (nxS γ1) (tkS δ) := dd.1.1
      have n6 := dd.2
      have k4 := ltk.1.sg (k := 40) (by decide)
      rw [n6, nxS_o γ1 (by omega), show sgC 40 = 4 from rfl] at k4
      have n : ∀ (j : Nat) (k : Int), j ≠ 1 ∨ k ≠ 6 → nxS γ1 j k = γ1 j k := fun j k q => nxS_o γ1 q
      by_cases t40 : tK (tkS δ) = 40
      · have nk := k4.2 t40
        have lt2 := ltk.1.lt (by omega) (by omega)
        rw [n6, n 1 5 (by omega)] at lt2
        refine pq_bl (called_pc kd en q7 nk (by rw [r6.1]; decide) lt2) (fun r γ' e => ?_)
        cases e
        rw [if_neg (show ¬ (1 : Int) = 0 by decide)]
        have cx := c.mv (Mv.tk0 lx.1)
        have g6 := ltk.1.2.2.2.1
        have xb : XpB N 0 (-1) (nxS γ1) (tkS δ) := ⟨dd.1, b1.tk (fun _ _ _ => rfl), cx, by rw [n 6 14 (by omega)]; exact r6.2.2.2.2.2.2, by rw [n 6 10 (by omega)]; exact r6.2.2.1, by omega, by omega⟩
        have d18 := tkS_o δ 0 18 (by omega)
        refine (ME_e N 900 0).2.2 _ _ FU (nxS γ1) (tkS δ) (-1) r'' xb t40 (by rw [d18]; rcases fn with ⟨f1, f2, f3⟩ | ⟨f1, f2⟩ <;> omega) (by rw [n 6 8 (by omega), r6.1]; omega) (by rw [n 6 9 (by omega), r6.2.1]; omega) (by omega) (fun f' γ' i' r δ' m => ?_)
        refine pq_cr (fun _ => ?_)
        have ⟨y1, ⟨y2, y2i⟩, y3, ⟨y4, y5⟩, y6, y7, y8⟩ := m
        have e11 : γ' 6 11 = 1 := by rw [y3 6 11 (by omega) (by omega) (by omega) (by omega) (by omega) (by omega), n 6 11 (by omega)]; exact r6.2.2.2.1
        exact pq_semi (z := false) (γ0 := nxS γ1) (δ0 := tkS δ) y1 y2i y2 (by rw [y4, n 6 8 (by omega)]; exact r6.1) (Or.inl ⟨by omega, rfl⟩) y3 ⟨by rw [n 6 8 (by omega)]; exact r6.1, by rw [n 6 9 (by omega)]; exact r6.2.1⟩ (fun j k q1 q2 => by rw [n j k (by omega)]; exact ro j k q2) (by rw [n 4 4 (by omega), tkS_o δ 0 40 (by omega)]; exact b1.1.1) y7 (Mv.tk0 lx.1) (tkS δ 0 30) (tkS_o δ 0 30 (by omega))
      · have nk : γ1 14 (γ1 1 6 + 1) ≠ 4 := fun h => t40 (k4.1 h)
        have ef : F_M_call (tkS δ) r'' 0 = some (.inl (1, sk (tkS δ)), pkS (tkS δ)) := by
          show f_M_call (ME 899) (tkS δ) r'' 0 = _
          unfold f_M_call
          rw [must_n ltk.1.1 t40]
          rfl
        rw [ef, bT_e]
        refine hz (called_n4 l.2 kd (by omega) lt nk) (flS_7 _ _) ?_ (by decide)
        rw [flS_8]
        exact ltk.1.2.2.2.2.symm
    · refine hz (called_no l.2 kd ?_) (flS_7 _ _) (by rw [flS_8, pk_7]; exact lx.2.2.2.2.symm) (by decide)
      rw [wd]
      rcases fn with ⟨f1, f2, f3⟩ | ⟨f1, f2⟩ <;> omega
  · rw [if_neg (show ¬ (0 : Int) ≠ 0 by decide), bndN_eq (cant_eq lx.1.pk), pkS_sk lx.1]
    refine hz ?_ (flS_7 _ _) (by rw [flS_8]; exact lx.2.2.2.2.symm) (by decide)
    unfold f_Er_readCalled
    refine pc_b kind_pc (fun r γ' e => ?_)
    cases e
    rw [if_neg (fun h => q (lx.nm.1 h))]
    refine pc_b (fail_pc l.2) (fun r γ' e => ?_)
    cases e
    exact pc_s rfl
/-- tokens that stand further on have higher numbers -/
theorem TsN.b {γ : St} {L N : Int} (h : TsN γ L N) (hL : 0 ≤ L) : ∀ n : Nat, (n : Int) ≤ N → 0 ≤ γ 15 n ∧ γ 15 n ≤ L := by
  intro n
  induction n with
  | zero =>
    intro hn
    have a := (h.2.2.1 0 (by omega) (by omega)).1
    unfold nxP at a
    rw [if_pos rfl] at a
    have b := skpF_b (b := γ 13) (L := L) FU 0 hL
    show 0 ≤ γ 15 0 ∧ γ 15 0 ≤ L
    rw [a]; exact b
  | succ n ih =>
    intro hn
    have i := ih (by omega)
    have a := (h.2.2.1 ((n : Int) + 1) (by omega) (by omega)).1
    unfold nxP at a
    rw [if_neg (by omega), show (n : Int) + 1 - 1 = n by omega] at a
    have e := tkE_b (b := γ 13) (L := L) i.2
    have bb := h.1.2.2.2.2
    have e2 : γ 15 n ≤ tkE (γ 13) L (γ 15 n) ∧ tkE (γ 13) L (γ 15 n) ≤ L := by
      rcases e with e | e
      · exact e
      · have := bb (γ 15 n) i.1 e.1; exfalso; omega
    have b := skpF_b (b := γ 13) (L := L) FU _ e2.2
    have a2 : γ 15 ((n : Int) + 1) = skpF (γ 13) L FU (tkE (γ 13) L (γ 15 n)) := a
    show 0 ≤ γ 15 ((n + 1 : Nat) : Int) ∧ _
    rw [show ((n + 1 : Nat) : Int) = (n : Int) + 1 by omega, a2]
    omega
theorem TsN.m {γ : St} {L N : Int} (h : TsN γ L N) (hL : 0 ≤ L) (t : Int) (ht : 0 ≤ t) : ∀ n : Nat, t + n ≤ N → γ 15 t ≤ γ 15 (t + n) := by
  intro n
  induction n with
  | zero => intro _; rw [show t + ((0 : Nat) : Int) = t by omega]; exact Int.le_refl _
  | succ n ih =>
    intro hn
    have i := ih (by omega)
    have bd := h.b hL (t + n).toNat (by omega)
    rw [show ((t + n).toNat : Int) = t + n by omega] at bd
    have a := (h.2.2.1 (t + n + 1) (by omega) (by omega)).1
    unfold nxP at a
    rw [if_neg (by omega), show t + n + 1 - 1 = t + n by omega] at a
    have e := tkE_b (b := γ 13) (L := L) bd.2
    have e2 : γ 15 (t + n) ≤ tkE (γ 13) L (γ 15 (t + n)) ∧ tkE (γ 13) L (γ 15 (t + n)) ≤ L := by
      rcases e with e | e
      · exact e
      · have := h.1.2.2.2.2 (γ 15 (t + n)) bd.1 e.1; exfalso; omega
    have b := skpF_b (b := γ 13) (L := L) FU _ e2.2
    have a2 : γ 15 (t + n + 1) = skpF (γ 13) L FU (tkE (γ 13) L (γ 15 (t + n))) := a
    rw [show t + ((n + 1 : Nat) : Int) = t + n + 1 by omega, a2]
    omega
theorem LexR.mono {N : Int} {γ γ' δ δ' : St} (h : LexR N γ δ) (h' : LexR N γ' δ') (e : ∀ k, γ' 15 k = γ 15 k) (lt : sk δ < sk δ') : γ 1 6 < γ' 1 6 := by
  by_cases q : γ' 1 6 ≤ γ 1 6
  · have a := h.2.2.2.1
    have a' := h'.2.2.2.1
    have m := h.2.2.1.m h.1.1.1 (γ' 1 6) a'.1 (γ 1 6 - γ' 1 6).toNat (by omega)
    rw [show γ' 1 6 + ((γ 1 6 - γ' 1 6).toNat : Int) = γ 1 6 by omega] at m
    have s := h.2.2.2.2
    have s' := h'.2.2.2.2
    rw [e] at s'
    omega
  · omega
