/-! equality: a node is checked -/
def SeN (γ δ : St) (v0 : Int) (F : Int → Int) (e : Int) : Prop := (γ 41 e = if δ 20 e = 25 then F (δ 22 e) else F e) ∧ ∀ ms, Ch (δ 23) (δ 22 e) ms → ∀ x ∈ ms, F x = if δ 24 x = -2 then (if δ 20 e = 26 then δ 12 (v0 + δ 21 e / 2) else F e) else δ 24 x
/-- an equation's clocks are settled, in the node whose variables begin at v0 -/
def FlN (γ δ : St) (v0 a : Int) : Prop := ∃ F : Int → Int, (F (δ 17 a) = if δ 24 (δ 17 a) = -2 then δ 12 (v0 + δ 18 (δ 16 a)) else δ 24 (δ 17 a)) ∧ ∀ e, δ 19 a ≤ e → e ≤ δ 17 a → SeN γ δ v0 F e
theorem FlR.n {γ δ : St} {a : Int} (h : FlR γ δ a) : FlN γ δ (δ 4 (δ 0 18)) a := h
theorem FlN.fr {γ γ' δ δ' : St} {v0 a nv nn l5 : Int} (h : FlN γ δ v0 a) (g : EqR nv nn l5 δ a) (hl5 : 0 ≤ l5) (c : ∀ e, δ 19 a ≤ e → e ≤ δ 17 a → γ' 41 e = γ 41 e) (dE : δ' 17 a = δ 17 a ∧ δ' 19 a = δ 19 a ∧ δ' 16 a = δ 16 a ∧ δ' 18 (δ 16 a) = δ 18 (δ 16 a)) (dV : ∀ x, v0 ≤ x → x < v0 + nv → δ' 12 x = δ 12 x) (dP : ∀ (j : Nat) (k : Int), 20 ≤ j → j ≤ 24 → δ 19 a ≤ k → k ≤ δ 17 a → δ' j k = δ j k) : FlN γ' δ' v0 a := by
  obtain ⟨F, h1, h2⟩ := h
  obtain ⟨e17, e19, e16, e18⟩ := dE
  have ⟨_, p16, lf, p19, gn, _⟩ := g
  have l := lf (δ 16 a) (Int.le_refl _) (by omega)
  refine ⟨F, ?_, fun e q1 q2 => ?_⟩
  · rw [e17, e16, e18, dP 24 _ (by omega) (by omega) (by omega) (Int.le_refl _), dV _ (by omega) (by omega)]
    exact h1
  · rw [e19] at q1
    rw [e17] at q2
    obtain ⟨s1, s2⟩ := h2 e q1 q2
    obtain ⟨ms, ch, sg, hlo, ar, wh, _⟩ := gn e q1 q2
    have mm := sg.mem
    have r20 := dP 20 e (by omega) (by omega) q1 q2
    have r21 := dP 21 e (by omega) (by omega) q1 q2
    have r22 := dP 22 e (by omega) (by omega) q1 q2
    have ch' : Ch (δ' 23) (δ' 22 e) ms := by
      rw [r22]
      exact ch.agree (fun y hy => dP 23 y (by omega) (by omega) (by have := mm y hy; omega) (by have := mm y hy; omega))
    refine ⟨by rw [c e q1 q2, r20, r22]; exact s1, fun ms' hm x hx => ?_⟩
    have em := hm.uniq ch'
    subst em
    have mx := mm x hx
    rw [dP 24 x (by omega) (by omega) (by omega) (by omega), r20, r21]
    have k := s2 ms' ch x hx
    by_cases k26 : δ 20 e = 26
    · have w := wh.2.2.2 k26
      rw [dV _ (by omega) (by omega)]
      exact k
    · rw [if_neg k26] at k ⊢
      exact k
theorem NdJ.ji {γ0 γ : St} {k : Int} (t : TpW γ0) (h1 : NdJ γ0 γ) (h3 : γ0 0 30 ≤ k) (q : k < γ 0 30) : JI γ k ∧ (γ 16 (k + 1) ≤ γ 0 31 ∧ γ 17 k < γ 0 40) ∧ γ0 0 40 ≤ γ 19 k := by
  have ⟨j1, j2, j3, ⟨a1, a2, a3, a4, a5⟩, j5, j6, ⟨b1, b2, b3, b4⟩⟩ := h1
  have ⟨⟨t1, t2, t3⟩, t4, t5, t6, t7, t8, t9, t10, t11⟩ := t
  have lx := j2.1.1
  have lx5 := j2.1.2.1
  have nd := j2.2.1
  have d3 := j2.2.2.1
  have d4 := j2.2.2.2.1
  rw [a1] at nd
  rw [a1, a2] at d3 d4
  have p := j1.2.2.2.2.2.2.2.2
  have pq := j1.2.2.2.1
  have p1 := j1.1
  have er := pq.1 k h3 q
  refine ⟨?_, ⟨er.2.1, er.2.2⟩, ?_⟩
  · unfold JI
    rw [a1, a2]
    refine ⟨j2, (j6.2 t10).2.1, fun f q1 q2 => ?_, er.1, by omega, by have := er.2.2; omega, by omega, by have := er.2.1; omega⟩
    obtain ⟨n1, n2, n5, l0, l, P0, P, n3, n4, x⟩ := NdW.fn t j3 q1 q2 (by omega) (by omega) (by omega) (by omega)
    have y := x.1.1
    omega
  · -- parts of the node begin at its first equation's
    have mono : ∀ n : Nat, γ0 0 30 + n < γ 0 30 → γ 19 (γ0 0 30) ≤ γ 19 (γ0 0 30 + n) := by
      intro n
      induction n with
      | zero => intro _; simp
      | succ n ih =>
        intro hn
        have i := ih (by omega)
        have s := pq.2.1 (γ0 0 30 + n) (by omega) (by omega)
        have er' := (pq.1 (γ0 0 30 + n) (by omega) (by omega)).1.2.2.2.1
        rw [show γ0 0 30 + ((n + 1 : Nat) : Int) = γ0 0 30 + n + 1 by omega, s]
        omega
    have m := mono (k - γ0 0 30).toNat (by omega)
    rw [show γ0 0 30 + ((k - γ0 0 30).toNat : Int) = k by omega, p.1] at m
    exact m
theorem L399_s {x : St → Option Res} : ∀ (n : Nat) (γ : St) (k : Int), f_M_node_L399 x n γ k = bndT (f_M_node_L399 x0 n γ k) (fun _ γ' => x γ') := by
  intro n
  induction n with
  | zero => intro γ k; rfl
  | succ n ih =>
    intro γ k
    unfold f_M_node_L399
    simp only [bT_I, bT_T, bT_C, bT_x0, ih]
/-- a node is checked -/
def NcR (δ0 γ1 δ1 γ δ : St) : Prop := (Fck γ1 γ ∧ Fk (δ0 0 40) (δ1 0 40) δ1 δ) ∧ NdJ δ0 δ ∧ CkC γ δ ∧ (∀ e, e < δ0 0 40 → γ 41 e = γ1 41 e) ∧ ∀ i, δ0 0 30 ≤ i → i < δ 0 30 → FlN γ δ (δ0 0 19) i
theorem ckE_01 {γ : St} {a : Int} {P : Int × St → Res → Prop} {m : Option Res} (h : pq (ckE γ a) m P) : pq (ckE γ a) m P := h
theorem L87_s (n : Nat) (γ : St) (i : Int) (h : i < γ 4 10) : f_Ck_check_L87 (n + 1) γ 1 i = bndN (f_Ck_typesFit γ i) fun r18 γ19 => if r18 = 0 then (chk (i32 (i + 1)) (f_Ck_check_L87 n γ19 0 (i + 1))) else (bndN (f_Ck_clocksFit γ19 i) fun r20 γ21 => if r20 = 0 then (chk (i32 (i + 1)) (f_Ck_check_L87 n γ21 0 (i + 1))) else (chk (i32 (i + 1)) (f_Ck_check_L87 n γ21 1 (i + 1)))) := by
  rw [f_Ck_check_L87, if_neg (show ¬ (1 : Int) = 0 by decide), if_neg (show ¬ γ 4 10 ≤ i by omega)]
  rfl
theorem L87_0 (n : Nat) (γ : St) (i : Int) {y : Int × St} (e : f_Ck_check_L87 n γ 0 i = some y) : y = (0, γ) := by
  cases n with
  | zero => cases e
  | succ n =>
    unfold f_Ck_check_L87 at e
    rw [if_pos rfl] at e
    have e2 := (chk_e e).2
    cases e2; rfl
theorem pq_chkL {δ0 γ1 δ1 : St} (t : TpW δ0) : ∀ (n n2 : Nat) (γ δ : St) (k s : Int), (Fck γ1 γ ∧ Fk (δ0 0 40) (δ1 0 40) δ1 δ) → NdJ δ0 δ → CkC γ δ → δ0 0 30 ≤ k → k ≤ δ 0 30 → (k < δ 0 30 → δ 19 k = s) → δ0 0 40 ≤ s → (∀ e, e < δ0 0 40 → γ 41 e = γ1 41 e) → (∀ i, δ0 0 30 ≤ i → i < k → FlN γ δ (δ0 0 19) i ∧ δ 17 i < s) → pq (f_Ck_check_L87 n γ 1 k) (f_M_node_L399 x0 n2 δ k) (OuR (NcR δ0 γ1 δ1)) := by
  intro n
  induction n with
  | zero => intro n2 γ δ k s _ _ _ _ _ _ _ _ _; exact pq_nl
  | succ n ih =>
    intro n2 γ δ k s hf nj c h3 h4 hs hs0 h41 hd
    cases n2 with
    | zero => exact pq_nr
    | succ n2 =>
      have e30 : γ 4 10 = δ 0 30 := c.2.2.2.2.1.1
      by_cases q : δ 0 30 ≤ k
      · unfold f_Ck_check_L87 f_M_node_L399
        rw [if_neg (show ¬ (1 : Int) = 0 by decide), if_pos (show γ 4 10 ≤ k by omega), if_pos q]
        refine pq_cl (fun _ => ?_)
        unfold x0
        exact pq_some (OuR.ok ⟨hf, nj, c, h41, fun i r1 r2 => (hd i r1 (by omega)).1⟩)
      · rw [L87_s n γ k (by omega)]
        unfold f_M_node_L399
        rw [if_neg q]
        obtain ⟨ji, ⟨l31, l40⟩, l19⟩ := nj.ji t h3 (by omega)
        have b14 : ∀ v, δ 14 v = 0 ∨ δ 14 v = 1 := nj.2.1.2.2.2.2.2.2
        have jd := pq_judge c ji b14 (by omega) l31 l40
        have wj := w_judge ji
        have es := hs (by omega)
        have a1 := nj.2.2.2.1.1
        have a2 := nj.2.2.2.1.2.1
        intro y z e1 e2
        obtain ⟨w, e3, e4⟩ := bN_e e1
        -- the judge
        match hm : f_M_judge δ k, e2 with
        | some (.inl er, δ'), e2 =>
          have e2 : some ((.inl er, δ') : Res) = some z := e2
          cases e2
          by_cases r0 : w.1 = 0
          · rw [if_pos r0] at e4
            have e5 := L87_0 _ _ _ (chk_e e4).2
            have k0 : ckE γ k = some (0, w.2) := by unfold ckE; rw [e3]; show (if w.1 = 0 then _ else _) = _; rw [if_pos r0]
            rw [e5]
            exact (jd _ _ k0 hm).hand
          · rw [if_neg r0] at e4
            obtain ⟨v, e5, e6⟩ := bN_e e4
            have k0 : ckE γ k = some v := by unfold ckE; rw [e3]; show (if w.1 = 0 then _ else _) = _; rw [if_neg r0]; exact e5
            have hh := jd _ _ k0 hm
            have v0 : v.1 = 0 := (OuR.er (r := v.1) (γ := v.2) hh).1
            rw [if_pos v0] at e6
            have e7 := L87_0 _ _ _ (chk_e e6).2
            rw [e7]
            exact OuR.hand (r := v.1) (γ := v.2) hh
        | some (.inr x, δ'), e2 =>
          have e2 : chk (i32 (k + 1)) (f_M_node_L399 x0 n2 δ' (k + 1)) = some z := e2
          have ok : ∃ v : Int × St, ckE γ k = some v ∧ v.1 ≠ 0 ∧ chk (i32 (k + 1)) (f_Ck_check_L87 n v.2 1 (k + 1)) = some y := by
            by_cases r0 : w.1 = 0
            · exfalso
              have k0 : ckE γ k = some (0, w.2) := by unfold ckE; rw [e3]; show (if w.1 = 0 then _ else _) = _; rw [if_pos r0]
              exact absurd (jd _ _ k0 hm).go.1 (by decide)
            · rw [if_neg r0] at e4
              obtain ⟨v, e5, e6⟩ := bN_e e4
              have k0 : ckE γ k = some v := by unfold ckE; rw [e3]; show (if w.1 = 0 then _ else _) = _; rw [if_neg r0]; exact e5
              have v1 : v.1 = 1 := (OuR.go (r := v.1) (γ := v.2) (jd _ _ k0 hm)).1
              have v0 : v.1 ≠ 0 := by rw [v1]; decide
              rw [if_neg v0] at e6
              exact ⟨v, k0, v0, e6⟩
          obtain ⟨v, k0, v0, e6⟩ := ok
          have cf : CfR γ (setA δ 0 42 (δ 15 k)) k v.2 δ' := (OuR.go (r := v.1) (γ := v.2) (jd _ _ k0 hm)).2
          obtain ⟨⟨c1, c2, c3, c4⟩, c5, c6, c7⟩ := cf
          have s0 : ∀ (j : Nat) (q : Int), j ≠ 0 ∨ q ≠ 42 → setA δ 0 42 (δ 15 k) j q = δ j q := fun j q r => by rw [stA, if_neg (by omega)]
          rw [s0 19 k (by omega), s0 17 k (by omega)] at c5 c2
          have fk : Fk (δ 19 k) (δ 17 k) δ δ' := fun j q r1 r2 r3 => by rw [c2 j q r1 r2 r3]; exact s0 j q (by omega)
          have d : ∀ (j : Nat) (q : Int), (j = 0 → q ≠ 42) → j ≠ 24 → j ≠ 28 → δ' j q = δ j q := fun j q r1 r2 r3 => fk j q r1 (by omega) r3
          have nj' := nj.fk fk l19 c3
          have c' := c.fr c1 fk
          have g30 := d 0 30 (by omega) (by omega) (by omega)
          have er := ji.2.2.2.1
          have p19 := er.2.2.2.1
          have f40 := hf.2
          have d40 : δ1 0 40 = δ 0 40 := (f40 0 40 (by omega) (by omega) (by omega)).symm
          refine ih n2 v.2 δ' (k + 1) (δ 17 k + 1) ⟨hf.1.tr c1, fun j q r1 r2 r3 => ?_⟩ nj' c' (by omega) (by omega) (fun r => ?_) (by omega) (fun e r => ?_) (fun i r1 r2 => ?_) y z (chk_e e6).2 (chk_e e2).2
          · rw [fk j q r1 (fun r4 => by have := r2 r4; omega) r3]
            exact f40 j q r1 r2 r3
          · rw [d 19 _ (by omega) (by omega) (by omega)]
            exact nj.1.2.2.2.1.2.1 k h3 (by omega)
          · rw [c5 e (by omega)]
            exact h41 e r
          · rw [d 17 i (by omega) (by omega) (by omega)]
            by_cases qi : i = k
            · subst qi
              refine ⟨?_, by omega⟩
              have fl := c6.n
              have e18 := d 0 18 (by omega) (by omega) (by omega)
              rw [e18, d 4 _ (by omega) (by omega) (by omega), a1, a2] at fl
              exact fl
            · obtain ⟨fl, lt⟩ := hd i r1 (by omega)
              obtain ⟨ji2, _, _⟩ := nj.ji t r1 (by omega)
              have er2 := ji2.2.2.2.1
              rw [a1, a2] at er2
              refine ⟨fl.fr er2 (by have := ji2.2.2.2.2.1; rw [a1] at this; exact this) (fun e q1 q2 => c5 e (by omega)) ⟨d 17 i (by omega) (by omega) (by omega), d 19 i (by omega) (by omega) (by omega), d 16 i (by omega) (by omega) (by omega), d 18 _ (by omega) (by omega) (by omega)⟩ (fun x _ _ => d 12 x (by omega) (by omega) (by omega)) (fun j q r3 r4 r5 r6 => ?_), by omega⟩
              by_cases r7 : j = 24
              · subst r7
                exact fk 24 q (by omega) (by omega) (by omega)
              · exact d j q (by omega) r7 (by omega)
