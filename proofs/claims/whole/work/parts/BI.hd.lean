/-! equality: a node's head -/
def ndN (γ66 : St) : Option Res :=
  bndN (f_M_nameHere γ66) fun r67 γ68 =>
  if r67 ≠ 0 then
  (bndN (f_M_nodeHere γ68) fun r69 γ70 =>
  if r69 < 0 then
  (chk (inb (γ70 0 18) 60) (ap (setA γ70 2 (γ70 0 18) (γ70 0 7)) fun γ74 =>
  chk (i32 ((γ74 0 8) - (γ74 0 7))) (chk (inb (γ74 0 18) 60) (ap (setA γ74 3 (γ74 0 18) ((γ74 0 8) - (γ74 0 7))) fun γ80 =>
  bndN (f_M_take γ80) fun _ γ82 =>
  chk (inb (γ82 0 18) 61) (ap (setA γ82 4 (γ82 0 18) (γ82 0 19)) fun γ86 => x0 γ86)))))
  else
  (some (.inl (2, γ70 0 7), γ70)))
  else
  (bndN (f_M_cant γ68) fun p124 γ125 => some (.inl (1, p124), γ125))
def ndI (γ86 : St) : Option Res :=
  bndT (f_M_groups γ86) fun _ γ88 =>
  chk (inb (γ88 0 18) 61) (chk (i32 ((γ88 0 19) - (γ88 4 (γ88 0 18)))) (chk (inb (γ88 0 18) 60) (ap (setA γ88 5 (γ88 0 18) ((γ88 0 19) - (γ88 4 (γ88 0 18)))) fun γ96 => x0 γ96)))
def ndO (γ98 : St) : Option Res :=
  bndT (f_M_groups γ98) fun _ γ100 =>
  chk (inb (γ100 0 18) 61) (chk (i32 ((γ100 0 19) - (γ100 4 (γ100 0 18)))) (chk (inb (γ100 0 18) 60) (chk (i32 (((γ100 0 19) - (γ100 4 (γ100 0 18))) - (γ100 5 (γ100 0 18)))) (chk (inb (γ100 0 18) 60) (ap (setA γ100 6 (γ100 0 18) (((γ100 0 19) - (γ100 4 (γ100 0 18))) - (γ100 5 (γ100 0 18)))) fun γ112 => x0 γ112)))))
def ndH (γ : St) : Option Res :=
  bndT (f_M_mustBe γ 0) fun _ γ66 =>
  bndT (ndN γ66) fun _ γ86 =>
  bndT (ndI γ86) fun _ γ96 =>
  bndT (f_M_mustBe γ96 1) fun _ γ98 =>
  bndT (ndO γ98) fun _ γ112 => f_M_must γ112 59
theorem bT_x0 {γ : St} {k : Int → St → Option Res} : bndT (x0 γ) k = k 0 γ := rfl
theorem b32_s (γ : St) : f_M_node_b32 γ = bndT (ndH γ) (fun _ δ1 => bndT (vrs δ1) (fun _ δ2 => f_M_node_b242 δ2)) := by
  unfold f_M_node_b32 ndH ndN ndI ndO vrs
  simp only [bT_T, bT_N, bT_C, bT_I, bT_e, bT_x0, ap]
  simp only [L221_s (x242 := f_M_node_b242)]
/-- a node is opened -/
def opS (γ : St) (w e : Int) : St := fun j k => if j = 24 ∧ k = γ 3 9 then w else if j = 25 ∧ k = γ 3 9 then γ 3 15 else if (j = 26 ∨ j = 27 ∨ j = 28) ∧ k = γ 3 9 then 0 else if j = 29 ∧ k = γ 3 9 then e else γ j k
theorem open_pc {γ : St} {a0 a1 : Int} : pc (f_Nd_open γ a0 a1) (fun z => z = (0, opS γ a0 a1)) := by
  unfold f_Nd_open
  refine pc_c (fun _ => pc_a (pc_c (fun _ => pc_a (pc_c (fun _ => pc_a (pc_c (fun _ => pc_a (pc_c (fun _ => pc_a (pc_c (fun _ => pc_a (pc_s ?_))))))))))))
  refine congrArg (Prod.mk 0) (funext fun j => funext fun k => ?_)
  simp [stA, opS]
  grind
theorem opS_o (γ : St) (w e : Int) {j : Nat} {k : Int} (h : j < 24 ∨ 29 < j ∨ k ≠ γ 3 9) : opS γ w e j k = γ j k := by
  show (if _ then _ else _) = _
  repeat rw [if_neg (by omega)]
/-- between two nodes -/
def PgR (N : Int) (γ δ : St) : Prop := LxR N γ δ ∧ NnR γ δ ∧ (γ 3 9 = δ 0 18 ∧ γ 3 15 = δ 0 19 ∧ 0 ≤ δ 0 18 ∧ 0 ≤ δ 0 19) ∧ (∀ w, 0 ≤ w → w < γ 2 8 → γ 22 w ≤ δ 0 18) ∧ VdR (δ 0 19) γ δ
/-- the present node's name -/
def HdR (γ δ : St) : Prop := (0 ≤ γ 24 (δ 0 18) ∧ γ 24 (δ 0 18) < γ 2 8) ∧ spW γ (γ 24 (δ 0 18)) (δ 2 (δ 0 18)) (δ 3 (δ 0 18)) ∧ (0 ≤ δ 2 (δ 0 18) ∧ δ 2 (δ 0 18) + δ 3 (δ 0 18) ≤ δ 0 1) ∧ γ 23 (γ 24 (δ 0 18)) = 0
/-- what a name leaves as it was -/
def FcH (γ γ' : St) : Prop := ∀ j k, (j = 1 → k < 5 ∨ 8 < k) → (24 ≤ j → j ≤ 29 → k ≠ γ 3 9) → γ' j k = γ j k
def FgH (δ δ' : St) : Prop := ∀ j k, (j = 0 → k < 5 ∨ 9 < k) → (2 ≤ j → j ≤ 4 → k ≠ δ 0 18) → δ' j k = δ j k
theorem DcR.op {N : Int} {γ γ' δ δ' : St} (h : PgR N γ δ) (l : LxR N γ' δ') (e : FcH γ γ') (d : FgH δ δ') (e25 : γ' 25 (δ 0 18) = δ 0 19) (e28 : γ' 28 (δ 0 18) = 0) (d4 : δ' 4 (δ 0 18) = δ 0 19) : DcR N (δ' 0 19) γ' δ' := by
  have ⟨h1, ⟨m1, m2⟩, ⟨r1, r2, r3, r4⟩, ho, hv⟩ := h
  have d18 : δ' 0 18 = δ 0 18 := d 0 18 (by omega) (by omega)
  have d19 : δ' 0 19 = δ 0 19 := d 0 19 (by omega) (by omega)
  have d1 : δ' 0 1 = δ 0 1 := d 0 1 (by omega) (by omega)
  have e8 : γ' 2 8 = γ 2 8 := e 2 8 (by omega) (by omega)
  have sp : ∀ w p n, spW γ' w p n ↔ spW γ w p n := fun w p n => spW_fr (fun k => e 13 k (by omega) (by omega)) (e 18 w (by omega) (by omega)) (e 19 w (by omega) (by omega))
  refine ⟨l, ⟨?_, ?_, ?_⟩, ⟨?_, ?_⟩, ?_, ?_, ?_⟩
  · rw [e8, d18]
    intro w q1 q2 q3
    rw [e 22 w (by omega) (by omega)] at q3
    have := ho w q1 q2
    exfalso; omega
  · rw [d18, d4, d19]
    intro v q1 q2
    exfalso; omega
  · rw [e8, d18]
    intro w q1 q2
    rw [e 22 w (by omega) (by omega)]
    have := ho w q1 q2
    omega
  · rw [e8, d18]
    intro w q1 q2 q3
    rw [e 23 w (by omega) (by omega)] at q3 ⊢
    have b := m1 w q1 q2 q3
    rw [sp, d 2 _ (by omega) (by omega), d 3 _ (by omega) (by omega)]
    exact b
  · rw [e8, d18, d1]
    intro k q1 q2
    rw [d 2 _ (by omega) (by omega), d 3 _ (by omega) (by omega)]
    obtain ⟨b1, w, b2, b3⟩ := m2 k q1 q2
    exact ⟨b1, w, b2, by rw [e 23 w (by omega) (by omega)]; exact b3⟩
  · unfold VrR
    rw [d18, d19, d4, e25, e28, e 3 9 (by omega) (by omega), e 3 15 (by omega) (by omega)]
    exact ⟨r1, r2, rfl, by omega, r4, Int.le_refl _⟩
  · unfold VdR
    rw [d19]
    intro v q1 q2
    rw [e 34 v (by omega) (by omega), e 36 v (by omega) (by omega), e 33 v (by omega) (by omega), d 12 v (by omega) (by omega), d 13 v (by omega) (by omega), d 14 v (by omega) (by omega)]
    exact hv v q1 q2
  · unfold DpR
    rw [d18, d4, d19]
    intro v q1 q2
    exfalso; omega
theorem pq_name {N : Int} {γ δ : St} (h : PgR N γ δ) : pq (f_Nr_readNodeName γ) (ndN δ) (OuR (fun γ' δ' => (DcR N (δ' 0 19) γ' δ' ∧ HdR γ' δ') ∧ FcH γ γ' ∧ FgH δ δ' ∧ γ' 29 (δ 0 18) = γ 4 10)) := by
  have ⟨h1, hM, ⟨r1, r2, r3, r4⟩, ho, hv⟩ := h
  unfold f_Nr_readNodeName ndN
  refine pq_bl kind_pc (fun r γ1 e => ?_)
  cases e
  have hp : pkS δ 0 7 = sk δ := pk_7 δ
  refine pq_yn (w_nameHere h1.1.1) (fun q => ?_) (fun q => ?_)
  · have k1 : tK δ = 1 := q.1
    have a := h1.1.wd k1
    have tl := h1.1.1.te2
    have s0 := h1.1.s0
    rw [if_pos (h1.1.nm.2 q), if_pos (by decide)]
    refine pq_bl item_pc (fun r γ1 e => ?_)
    cases e
    refine pq_cl (fun _ => ?_)
    refine pq_br nHere_pc (fun r δ1 e => ?_)
    obtain ⟨r', e, F⟩ := e
    have e1 : r' = r := (congrArg Prod.fst e).symm
    have e2 : δ1 = pkS δ := congrArg Prod.snd e
    subst e1
    subst e2
    rw [pkS_o δ 0 18 (by omega)] at F
    have fd := hM.find h1.1 k1 F
    rcases fd with ⟨f1, f2, f3, f4⟩ | ⟨f1, f2⟩
    · rw [if_neg (show ¬ γ 23 (γ 16 (γ 1 6)) = 0 from f1), if_neg (show ¬ r' < 0 by omega)]
      exact pq_fail h1 (by decide) hp
    · rw [if_pos (show γ 23 (γ 16 (γ 1 6)) = 0 from f1), if_pos (show r' < 0 by omega)]
      refine pq_bl open_pc (fun r γ1 e => ?_)
      cases e
      refine pq_cr (fun _ => pq_ar (pq_cr (fun _ => pq_cr (fun _ => pq_ar ?_))))
      generalize hD : setA _ 3 _ _ = δ1
      have dd : ∀ j k, δ1 j k = if j = 3 ∧ k = δ 0 18 then tE δ - sk δ else if j = 2 ∧ k = δ 0 18 then sk δ else pkS δ j k := fun j k => by
        rw [← hD]
        have p18 := pkS_o δ 0 18 (by omega)
        simp [stA, pk_7, pk_8, p18]
      have dp : ∀ j k, j ≠ 2 → j ≠ 3 → δ1 j k = pkS δ j k := fun j k q1 q2 => by rw [dd, if_neg (by omega), if_neg (by omega)]
      have l1 : LxR N (opS γ (γ 16 (γ 1 6)) (γ 4 10)) δ1 := h1.pk.fr (fun j k q => opS_o γ _ _ (by omega)) (fun k _ _ => opS_o γ _ _ (by omega)) (opS_o γ _ _ (by omega)) (funext fun k => dp 1 k (by omega) (by omega)) (fun k _ => dp 0 k (by omega) (by omega))
      have t1 : tK δ1 = 1 := by
        rw [(tK_fr (δ := pkS δ) (δ' := δ1) (funext fun k => dp 1 k (by omega) (by omega)) (fun k q => dp 0 k (by omega) (by omega))).1, pk_tK h1.1.1, k1]
      refine pq_er (tkM_eq l1.1.1) (pq_bl (step_pc l1.1 (by omega) (by omega)) (fun r γ1 e => ?_))
      cases e
      refine pq_cr (fun _ => pq_ar ?_)
      have l2 := l1.tk (by omega) (by omega)
      have t18 : tkS δ1 0 18 = δ 0 18 := by rw [tkS_o δ1 0 18 (by omega), dp 0 18 (by omega) (by omega), pkS_o δ 0 18 (by omega)]
      have t19 : tkS δ1 0 19 = δ 0 19 := by rw [tkS_o δ1 0 19 (by omega), dp 0 19 (by omega) (by omega), pkS_o δ 0 19 (by omega)]
      rw [t18, t19]
      have l3 : LxR N (nxS (opS γ (γ 16 (γ 1 6)) (γ 4 10))) (setA (tkS δ1) 4 (δ 0 18) (δ 0 19)) := l2.fr (fun _ _ _ => rfl) (fun _ _ _ => rfl) rfl (funext fun k => by rw [stA, if_neg (by omega)]) (fun k _ => by rw [stA, if_neg (by omega)])
      have fc : FcH γ (nxS (opS γ (γ 16 (γ 1 6)) (γ 4 10))) := fun j k q1 q2 => by rw [nxS_o _ (by omega), opS_o γ _ _ (by omega)]
      have fg : FgH δ (setA (tkS δ1) 4 (δ 0 18) (δ 0 19)) := fun j k q1 q2 => by rw [stA, if_neg (by omega), tkS_o δ1 j k (by omega), dd, if_neg (by omega), if_neg (by omega), pkS_o δ j k (by omega)]
      have g24 : nxS (opS γ (γ 16 (γ 1 6)) (γ 4 10)) 24 (δ 0 18) = γ 16 (γ 1 6) := by rw [nxS_o _ (by omega), ← r1]; show (if _ then _ else _) = _; rw [if_pos ⟨rfl, rfl⟩]
      have g25 : nxS (opS γ (γ 16 (γ 1 6)) (γ 4 10)) 25 (δ 0 18) = δ 0 19 := by rw [nxS_o _ (by omega), ← r1]; show (if _ then _ else _) = _; rw [if_neg (by omega), if_pos ⟨rfl, rfl⟩]; exact r2
      have g28 : nxS (opS γ (γ 16 (γ 1 6)) (γ 4 10)) 28 (δ 0 18) = 0 := by rw [nxS_o _ (by omega), ← r1]; show (if _ then _ else _) = _; rw [if_neg (by omega), if_neg (by omega), if_pos ⟨by omega, rfl⟩]
      have g29 : nxS (opS γ (γ 16 (γ 1 6)) (γ 4 10)) 29 (δ 0 18) = γ 4 10 := by rw [nxS_o _ (by omega), ← r1]; show (if _ then _ else _) = _; rw [if_neg (by omega), if_neg (by omega), if_neg (by omega), if_pos ⟨rfl, rfl⟩]
      have d4 : setA (tkS δ1) 4 (δ 0 18) (δ 0 19) 4 (δ 0 18) = δ 0 19 := by rw [stA, if_pos ⟨rfl, rfl⟩]
      have d2 : setA (tkS δ1) 4 (δ 0 18) (δ 0 19) 2 (δ 0 18) = sk δ := by rw [stA, if_neg (by omega), tkS_o δ1 2 _ (by omega), dd, if_neg (by omega), if_pos ⟨rfl, rfl⟩]
      have d3 : setA (tkS δ1) 4 (δ 0 18) (δ 0 19) 3 (δ 0 18) = tE δ - sk δ := by rw [stA, if_neg (by omega), tkS_o δ1 3 _ (by omega), dd, if_pos ⟨rfl, rfl⟩]
      have hd := DcR.op h l3 fc fg g25 g28 d4
      have d18 := fg 0 18 (by omega) (by omega)
      have d1' := fg 0 1 (by omega) (by omega)
      refine pq_some (OuR.ok ⟨⟨hd, ?_⟩, fc, fg, g29⟩)
      unfold HdR
      rw [d18, g24, d2, d3, d1', fc 2 8 (by omega) (by omega), fc 23 _ (by omega) (by omega)]
      exact ⟨a.1, (spW_fr (fun k => fc 13 k (by omega) (by omega)) (fc 18 _ (by omega) (by omega)) (fc 19 _ (by omega) (by omega))).2 a.2.1, by omega, f1⟩
  · rw [if_neg (fun e => q (h1.1.nm.1 e)), if_neg (by decide)]
    exact pq_cant h1.pk
