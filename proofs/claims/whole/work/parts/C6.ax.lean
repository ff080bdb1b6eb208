/-! equality: the level of atoms -/
theorem L15_b {E : Nat → St → Int → Int → Option Res} {x44 : St → Int → Option Res} {K : Int → St → Option Res} : ∀ (n : Nat) (γ : St) (x k : Int), bndT (f_M_atom_L15 E x44 n γ x k) K = f_M_atom_L15 E (fun γ v => bndT (x44 γ v) K) n γ x k
  | 0, _, _, _ => rfl
  | n + 1, γ, x, k => by
    unfold f_M_atom_L15
    simp only [bT_I, bT_C, ap, L15_b n]
theorem num_e {b : Int → Int} {L s : Int} (h : tkK b L s = 2) : s < L ∧ tkE b L s = deF b L FU s := by
  unfold tkK at h
  unfold tkE
  by_cases q : L ≤ s
  · rw [if_pos q] at h; exact absurd h (by decide)
  · rw [if_neg q] at h ⊢
    by_cases q2 : ltB (b s) ≠ 0
    · rw [if_pos q2] at h
      exfalso
      split at h <;> omega
    · rw [if_neg q2] at h ⊢
      by_cases q3 : dgB (b s) ≠ 0
      · rw [if_pos q3]; exact ⟨by omega, rfl⟩
      · rw [if_neg q3] at h; exact absurd h (sgK_2 _ _)
theorem kindN_pc {γ : St} (hl : γ 1 6 + 1 < γ 1 5) : pc (f_Tk_kindNext γ) (fun z => z = (γ 14 (γ 1 6 + 1), γ)) := by
  unfold f_Tk_kindNext
  refine pc_c (fun _ => ?_)
  rw [if_neg (by omega)]
  exact pc_c (fun _ => pc_c (fun _ => pc_s rfl))
theorem cbS_o (γ : St) {j : Nat} {k : Int} (h : j ≠ 6 ∨ k ≠ 8 ∧ k ≠ 10) : cbS γ j k = γ j k := by
  show (if _ then _ else _) = _
  rw [if_neg (by omega), if_neg (by omega)]
theorem ro_br {γ : St} (h10 : γ 6 10 ≤ 40) (h8 : γ 6 8 < 512) (hl : γ 1 6 + 1 < γ 1 5) (k : γ 14 (γ 1 6) = 4) : pc (f_Er_readOperand γ) (fun z => z = (1, nxS (puS γ 4 1))) := by
  unfold f_Er_readOperand
  rw [if_pos h10]
  refine pc_b kind_pc (fun r γ' e => ?_)
  cases e
  rw [k, if_neg (show ¬ (4 : Int) = 2 by decide), if_neg (show ¬ (4 : Int) = 3 by decide), if_pos rfl]
  refine pc_b (push_pc h8 hl) (fun r γ' e => ?_)
  cases e
  exact pc_s rfl
theorem ro_no {γ : St} (h7 : γ 1 7 = 0) (h10 : γ 6 10 ≤ 40) (k : γ 14 (γ 1 6) ≠ 2 ∧ γ 14 (γ 1 6) ≠ 3 ∧ γ 14 (γ 1 6) ≠ 4 ∧ γ 14 (γ 1 6) ≠ 16 ∧ γ 14 (γ 1 6) ≠ 28 ∧ γ 14 (γ 1 6) ≠ 35 ∧ γ 14 (γ 1 6) ≠ 36 ∧ γ 14 (γ 1 6) ≠ 40 ∧ γ 14 (γ 1 6) ≠ 41) (h32 : γ 14 (γ 1 6) = 32 → γ 6 13 = 0) : pc (f_Er_readOperand γ) (fun z => z = (0, flS γ 1)) := by
  have fl : pc (bndN (f_Tk_fail γ 1) fun r γ' => some (r, γ')) (fun z => z = (0, flS γ 1)) := by
    refine pc_b (fail_pc h7) (fun r γ' e => ?_)
    cases e
    exact pc_s rfl
  unfold f_Er_readOperand
  rw [if_pos h10]
  refine pc_b kind_pc (fun r γ' e => ?_)
  cases e
  obtain ⟨k1, k2, k3, k4, k5, k6, k7, k8, k9⟩ := k
  rw [if_neg k1, if_neg k2, if_neg k3, if_neg k4, if_neg k5]
  refine pc_i (fun q => ?_) (fun q => ?_)
  · rw [if_pos (h32 q)]; exact fl
  · rw [if_neg k6, if_neg k7, if_neg k8, if_neg k9]; exact fl
/-- a closing bracket -/
theorem XmR.cb {N d i r : Int} {γ δ γ2 δ2 : St} (h0 : XpR N d i γ δ) (t0 : tK δ ≠ 0) (t3 : tK δ ≠ 3) {i' : Int} (m : XmR N (d + 1) i' (nxS (puS γ 4 1)) (tkS δ) γ2 δ2 r) (k0 : tK δ2 ≠ 0) (k3 : tK δ2 ≠ 3) : XmR N d (i' + 1) γ δ (nxS (cbS γ2)) (tkS δ2) r := by
  have ⟨u1, u2, ⟨u3, u4, u5, u6⟩, u7, u8⟩ := h0.pu (c := 4) (w := 1) t0 t3
  have ⟨⟨a, b, c, ⟨e1, e2, e3, e4⟩, f1, f2, f3⟩, g1, g2, ⟨g3, g4⟩, g5, g6⟩ := m
  have ⟨_, _, _, _, q8, q9, q11⟩ := h0
  have s := m.1.st (γ1 := cbS γ2) k0 k3 (fun j k q => cbS_o γ2 (by omega))
  have n : ∀ (j : Nat) (k : Int), j ≠ 1 → (j = 6 → k ≠ 8 ∧ k ≠ 10) → nxS (cbS γ2) j k = γ2 j k := fun j k r1 r2 => by rw [nxS_o _ (by omega), cbS_o γ2 (by omega)]
  have n8 : nxS (cbS γ2) 6 8 = γ 6 8 := by
    rw [nxS_o _ (by omega)]
    show (if _ then _ else _) = _
    rw [if_neg (by omega), if_pos ⟨rfl, rfl⟩]; omega
  have n10 : nxS (cbS γ2) 6 10 = d := by
    rw [nxS_o _ (by omega)]
    show (if _ then _ else _) = _
    rw [if_pos ⟨rfl, rfl⟩]; omega
  have e11 : γ2 6 11 = γ 6 11 := by
    rw [g2 6 11 (by omega) (by omega) (by omega) (by omega) (by omega) (by omega), u2 6 11 (by omega) (by omega) (by omega) (by omega) (by omega) (by omega)]
  have f44 : γ2 4 4 = δ2 0 40 := b.1.1
  have e44 : γ 4 4 = δ 0 40 := h0.2.1.1.1
  have n40 := g6.1.2.2.1
  have d40 := tkS_o δ 0 40 (by omega)
  refine ⟨⟨s.1, b.tk (fun j k q => cbS_o γ2 (by omega)), s.2.1, ⟨by rw [n 6 14 (by omega) (by omega)]; exact e1, n10, by omega, by rw [s.2.2]; omega⟩, by rw [n8]; exact q8, by rw [n 6 9 (by omega) (by omega)]; exact f2, by rw [n 6 11 (by omega) (by omega), n8, e11]; exact q11⟩, by rw [n 6 12 (by omega) (by omega)]; exact g1, ?_, ⟨n8, by rw [n 6 9 (by omega) (by omega), g4, u4]⟩, by rw [n 52 _ (by omega) (by omega), tkS_o δ2 27 r (by omega), ← g5, u4], (g6.mv (Mv.tk0 a.1.1.1)).pre (Mv.tk0 h0.1.1.1.1)⟩
  intro j k q1 q2 q3 q4 q5 q6
  rw [nxS_o _ (by omega), cbS_o γ2 (by omega)]
  exact (u2.tr g2 (by omega) (by omega) (by omega)) j k q1 q2 q3 q4 q5 q6
section ATX
variable {N d : Int} {E : Nat → St → Int → Int → Option Res}
theorem pq_brk {R : St → St → Prop} {K : Int → St → Option Res} {f : Nat} {γ δ : St} {i : Int} (hE : 0 ≤ d → d < 40 → LvE N E 0 (d + 1)) (h0 : XeI N 8 d i γ δ) (t40 : tK δ = 40) (cont : ∀ (f' : Nat) (γ' : St) (i' r : Int) (δ' : St), XmR N d i' γ δ γ' δ' r → pq (f_Er_readRightSide_L57 f' γ' 1 i') (K r δ') (OuR R)) : pq (f_Er_readRightSide_L57 f γ 1 i) (bndN (f_M_take δ) fun _ γ56 => bndT (f_M_nest γ56 d) fun r57 γ58 => bndT (E 0 γ58 r57 0) fun r59 γ60 => bndT (f_M_must γ60 41) fun _ γ62 => K r59 γ62) (OuR R) := by
  have ⟨w1, w2, w3, w4, w5, w6, w7⟩ := h0
  have lx : LexR N γ δ := w1.1.1.1
  have kd : γ 14 (γ 1 6) = 4 := (lx.sg (k := 40) (by decide)).2 t40
  have ⟨u1, u2, ⟨u3, u4, u5, u6⟩, u7, u8⟩ := w1.pu (c := 4) (w := 1) (by omega) (by omega)
  have g8 := w1.2.2.2.2.1
  have g10 := w1.2.2.2.1.2.1
  refine pq_er (tkM_eq lx.1) ?_
  cases f with
  | zero => exact pq_nl
  | succ n =>
    rw [lp_or n γ i w1.lp (by omega)]
    refine pq_lps (ro_br (by omega) (by omega) (lx.lt (by omega) (by omega)) kd) ?_
    refine pq_nest u1 (by rw [u5]; decide) w7 (fun hd2 => ?_)
    have ent : XeI N 0 (d + 1) (i + 1) (nxS (puS γ 4 1)) (tkS δ) := ⟨u1, u5, fun _ => by rw [u6]; decide, fun q => by omega, Or.inr (by rw [u7]; decide), by omega, by omega⟩
    refine hE w7.1 hd2 R _ n _ _ (i + 1) ent (fun z2 f2 γ2 i2 r δ2 m2 nx2 => ?_)
    have l2 : LexR N γ2 δ2 := m2.lx
    have t2 : topK γ2 = 4 := XpR.top (δ := δ) (N := N) (d := d) (i := i) u7 m2.2.2.1 m2.2.2.2.1.1 (by omega)
    have c5 := l2.sg (k := 41) (by decide)
    have p8 : 0 < γ2 6 8 := by have := m2.2.2.2.1.1; omega
    by_cases q : tK δ2 = 41
    · have kc : γ2 14 (γ2 1 6) = 5 := c5.2 q
      have zf := nx2.f (by rw [kc]; decide)
      rw [must_y l2.1 q]
      show pq _ (K r (tkS δ2)) _
      refine pq_clo m2.1 m2.2.1 nx2 p8 (by rw [t2]; decide) (fun q => by rw [zf] at q; cases q) (fun _ => by rw [kc]; exact clo_4 (l2.lt (by omega) (by omega)) p8 t2) (fun y hy => by rw [hy]; simp) (fun _ n' r' γ' e => ?_)
      cases e
      exact cont n' _ _ r _ (XmR.cb w1 (by omega) (by omega) m2 (by omega) (by omega))
    · rw [must_n l2.1 q]
      show pq _ (some ((.inl (1, sk δ2), pkS δ2) : Res)) _
      have hfl : pq (some (0, flS γ2 1)) (some ((.inl (1, sk δ2), pkS δ2) : Res)) (OuR R) := pq_some (OuR.no (flS_7 γ2 1) (by rw [flS_8]; exact l2.2.2.2.2.symm) (by decide))
      refine pq_clo m2.1 m2.2.1 nx2 p8 (by rw [t2]; decide) (fun _ => hfl) (fun _ => clo_no m2.1.1.1.2 p8 (by rw [t2]; decide) (by
        rw [t2]
        exact ⟨by omega, by omega, fun r => q (c5.1 r.2), by omega⟩)) (fun y hy => by rw [hy]; simp) (fun _ n' r' γ' e => ?_)
      cases e
      intro y z e1 e2
      rw [lp_0 _ _ _ e1]
      exact hfl _ z rfl e2
theorem FcX.nx0 {γ γ' : St} (h : FcX (nxS γ) γ') : FcX γ γ' := by
  intro j k q1 q2 q3 q4 q5 q6
  have n : ∀ (j : Nat) (k : Int), j ≠ 1 ∨ k ≠ 6 → nxS γ j k = γ j k := fun j k q => nxS_o γ q
  rw [h j k q1 q2 q3 (by rw [n 4 4 (by omega)]; exact q4) (by rw [n 6 8 (by omega)]; exact q5) (by rw [n 6 9 (by omega)]; exact q6)]
  exact n j k (by omega)
theorem pq_nme {R : St → St → Prop} {K : Int → St → Option Res} {f : Nat} {γ δ4 : St} {i : Int} (h9 : CaE N E d) (h4 : XeI N 8 d i γ δ4) (q5 : nmQ δ4) (cc : ∀ (f' : Nat) (γ' : St) (i' r : Int) (δ' : St), XmR N d i' γ δ4 γ' δ' r → pq (f_Er_readRightSide_L57 f' γ' 1 i') (K r δ') (OuR R)) : pq (f_Er_readRightSide_L57 f γ 1 i) (bndT (ap (pkS δ4 0 7) fun x35 =>
  bndN (f_M_variableHere (pkS δ4) (pkS δ4 0 19)) fun r37 γ38 =>
  bndN (f_M_nodeHere γ38) fun r39 γ40 =>
  bndN (f_M_take γ40) fun _ γ42 =>
  bndN (f_M_peek γ42) fun r43 γ44 =>
  if r43 ≠ 40 then
  (if 0 ≤ r37 then
  (chk (inb (γ44 0 18) 61) (chk (i32 (r37 - (γ44 4 (γ44 0 18)))) (bndT (f_M_make γ44 2 (r37 - (γ44 4 (γ44 0 18))) (-1) 1) fun r49 γ50 =>
  some (.inr r49, γ50))))
  else
  (some (.inl (2, x35), γ44)))
  else
  (if 0 ≤ r39 then
  (bndT (E 9 γ44 r39 d) fun r51 γ52 =>
  some (.inr r51, γ52))
  else
  (some (.inl (2, x35), γ44)))) K) (OuR R) := by
  have ⟨w1, w2, w3, w4, w5, w6, w7⟩ := h4
  have l4 : LexR N γ δ4 := w1.1.1.1
  have g8 := w1.2.2.2.2.1
  have g9 := w1.2.2.2.2.2.1
  have g11 := w1.2.2.2.2.2.2
  have g10 := w1.2.2.2.1.2.1
  have k1 : tK δ4 = 1 := q5.1
  have kd : γ 14 (γ 1 6) = 2 := l4.nm.2 q5
  have dc := h4.1.1
  have ⟨hl1, hN, hM, ⟨r1, r2, r3, r4, r5, r6⟩, hv5, hv6⟩ := dc
  have lt := l4.lt (by omega) (by omega)
  have o := pkS_o δ4
  simp only [ap, bT_N, bT_I, bT_C, bT_T, bT_e, bT_r]
  refine pq_br vHere_pc (fun r37 δ5 e => ?_)
  obtain ⟨r', e, F⟩ := e
  have e1 : r' = r37 := (congrArg Prod.fst e).symm
  have e2 : δ5 = pkS δ4 := congrArg Prod.snd e
  subst e1
  subst e2
  rw [o 4 _ (by omega), o 0 18 (by omega), o 0 19 (by omega)] at F
  have fd := hN.find l4 k1 (Int.le_refl _) F
  refine pq_br nHere_pc (fun r39 δ5 e => ?_)
  obtain ⟨r'', e, F2⟩ := e
  have e1 : r'' = r39 := (congrArg Prod.fst e).symm
  have e2 : δ5 = pkS δ4 := congrArg Prod.snd e
  subst e1
  subst e2
  rw [o 0 18 (by omega)] at F2
  have fn := hM.find l4 k1 F2
  refine pq_er (tkM_eq l4.1.pk) ?_
  rw [tkS_pk l4.1]
  have ltk : LxR N (nxS γ) (tkS δ4) := hl1.tk (by omega) (by omega)
  refine pq_er (pkM_eq ltk.1.1) ?_
  have k4 := ltk.1.sg (k := 40) (by decide)
  have n6 : nxS γ 1 6 = γ 1 6 + 1 := by unfold nxS; rw [stA, if_pos ⟨rfl, rfl⟩]
  rw [n6, nxS_o γ (by omega)] at k4
  have s4 : sgC 40 = 4 := rfl
  rw [s4] at k4
  have hfl : pq (some (0, flS γ 2)) (some ((.inl (2, pkS δ4 0 7), pkS (tkS δ4)) : Res)) (OuR R) := pq_some (OuR.no (flS_7 γ 2) (by rw [flS_8, pk_7]; exact l4.2.2.2.2.symm) (by decide))
  have tp4 : pkS (tkS δ4) 4 (pkS (tkS δ4) 0 18) = δ4 4 (δ4 0 18) := by rw [pkS_o _ 0 18 (by omega), pkS_o _ 4 _ (by omega), tkS_o δ4 0 18 (by omega), tkS_o δ4 4 _ (by omega)]
  cases f with
  | zero => exact pq_nl
  | succ n =>
    refine pq_ir (fun q6 => ?_) (fun q6 => ?_)
    · have nk : γ 14 (γ 1 6 + 1) ≠ 4 := fun r => q6 (k4.1 r)
      refine pq_ir (fun q7 => ?_) (fun q7 => ?_)
      · refine pq_cr (fun _ => pq_cr (fun _ => ?_))
        rcases fd with ⟨f1, f2, f3⟩ | ⟨f1, f2⟩
        · rw [tp4, f3, show δ4 4 (δ4 0 18) + γ 21 (wdN γ) - δ4 4 (δ4 0 18) = γ 21 (wdN γ) by omega]
          refine pq_tat (K := K) (k := 2) (c := 2) (v := γ 21 (wdN γ)) h4 rfl (by omega) ⟨by omega, fun _ => by omega, fun q => by omega, fun q => by omega⟩ (by omega) (by omega) ((Mv.rf l4.1.tk).pk) ltk.pk ?_ cc
          unfold f_Er_readOperand
          rw [if_pos (show γ 6 10 ≤ 40 by omega)]
          refine pc_b kind_pc (fun r γ' e => ?_)
          cases e
          rw [if_pos kd]
          refine pc_b (kindN_pc lt) (fun r γ' e => ?_)
          cases e
          rw [if_pos nk]
          refine pc_b (P := fun z => z = (1, nxS (taS γ 2 (γ 21 (wdN γ))))) ?_ (fun r γ' e => by cases e; exact pc_s rfl)
          unfold f_Er_readVariable
          refine pc_b vNow_pc (fun r9 γ1 e => ?_)
          obtain ⟨e1, e2⟩ := e
          have e1 : γ1 = γ := e1
          have e2 : γ 22 (wdN γ) = γ 3 9 + 1 ∧ r9 = γ 21 (wdN γ) ∨ γ 22 (wdN γ) ≠ γ 3 9 + 1 ∧ r9 = -1 := e2
          subst e1
          have e3 : r9 = γ1 21 (wdN γ1) := by
            rcases e2 with e2 | e2
            · exact e2.2
            · exact absurd (by rw [r1]; exact f1) e2.1
          rw [if_pos (by omega), e3]
          refine pc_b (takeAtom_pc (by omega) lt) (fun r γ' e => ?_)
          cases e
          exact pc_s rfl
        · exfalso; omega
      · rw [lp_or n γ i w1.lp (by omega)]
        refine pq_lpf (γ1 := flS γ 2) ?_ hfl
        unfold f_Er_readOperand
        rw [if_pos (show γ 6 10 ≤ 40 by omega)]
        refine pc_b kind_pc (fun r γ' e => ?_)
        cases e
        rw [if_pos kd]
        refine pc_b (kindN_pc lt) (fun r γ' e => ?_)
        cases e
        rw [if_pos nk]
        refine pc_b (P := fun z => z = (0, flS γ 2)) ?_ (fun r γ' e => by cases e; exact pc_s rfl)
        unfold f_Er_readVariable
        refine pc_b vNow_pc (fun r9 γ1 e => ?_)
        obtain ⟨e1, e2⟩ := e
        have e1 : γ1 = γ := e1
        have e2 : γ 22 (wdN γ) = γ 3 9 + 1 ∧ r9 = γ 21 (wdN γ) ∨ γ 22 (wdN γ) ≠ γ 3 9 + 1 ∧ r9 = -1 := e2
        subst e1
        have a := l4.wd k1
        have r9n : r9 < 0 := by
          rcases fd with ⟨f1, f2, f3⟩ | ⟨f1, f2⟩
          · exfalso; omega
          · rcases e2 with e2 | e2
            · have b0 := (hN.1 (wdN γ1) a.1.1 a.1.2 (by rw [← r1]; exact e2.1)).1
              have b1 := f2 (by rw [← r1]; exact e2.1)
              exfalso; omega
            · omega
        rw [if_neg (by omega)]
        refine pc_b (fail_pc hl1.2) (fun r γ' e => ?_)
        cases e
        exact pc_s rfl
    · have nk : γ 14 (γ 1 6 + 1) = 4 := k4.2 (by omega)
      have t40 : tK (tkS δ4) = 40 := by omega
      rw [lp_or n γ i w1.lp (by omega)]
      have ro : ∀ P : Int × St → Prop, pc (f_Er_readCalled γ) P → pc (f_Er_readOperand γ) P := fun P hP => by
        unfold f_Er_readOperand
        rw [if_pos (show γ 6 10 ≤ 40 by omega)]
        refine pc_b kind_pc (fun r γ' e => ?_)
        cases e
        rw [if_pos kd]
        refine pc_b (kindN_pc lt) (fun r γ' e => ?_)
        cases e
        rw [if_neg (fun r => r nk)]
        exact pc_b hP (fun r γ' e => pc_s e)
      have wd : γ 16 (γ 1 6) = wdN γ := rfl
      refine pq_ir (fun q7 => ?_) (fun q7 => ?_)
      · have en : γ 23 (γ 16 (γ 1 6)) - 1 = r'' := by
          rw [wd]
          rcases fn with ⟨f1, f2, f3⟩ | ⟨f1, f2⟩ <;> omega
        have lt2 := ltk.1.lt (by omega) (by omega)
        rw [n6, nxS_o γ (by omega)] at lt2
        refine pq_lps (ro _ (called_pc kd en q7 nk (by omega) lt2)) ?_
        have n : ∀ (j : Nat) (k : Int), j ≠ 1 ∨ k ≠ 6 → nxS γ j k = γ j k := fun j k q => nxS_o γ q
        have s := h4.1.st (γ1 := γ) (by omega) (by omega) (fun _ _ _ => rfl)
        have xb : XpB N d i (nxS γ) (tkS δ4) := ⟨s.1, h4.1.2.1.tk (fun _ _ _ => rfl), s.2.1, by rw [n 6 14 (by omega)]; exact w1.2.2.2.1.1, by rw [n 6 10 (by omega)]; exact g10, by have := w1.2.2.2.1.2.2.1; omega, by have := w1.2.2.2.1.2.2.2; omega⟩
        have xb2 : XpB N d i (nxS γ) (pkS (tkS δ4)) := by
          have ⟨a, b, c, e⟩ := xb
          have o := pkS_o (tkS δ4)
          exact ⟨by rw [o 0 19 (by omega)]; exact a.pk, b.fr (fun _ _ _ _ => rfl) rfl (fun j _ _ _ _ _ k => o j k (by omega)) (o 0 40 (by omega)), c.mv (Mv.pk0 a.1.1.1), e⟩
        have d18 : pkS (tkS δ4) 0 18 = δ4 0 18 := by rw [pkS_o _ 0 18 (by omega), tkS_o δ4 0 18 (by omega)]
        refine h9 R K _ (nxS γ) (pkS (tkS δ4)) i r'' xb2 (by rw [pk_tK ltk.1.1]; exact t40) (by rw [d18]; rcases fn with ⟨f1, f2, f3⟩ | ⟨f1, f2⟩ <;> omega) (by rw [n 6 8 (by omega)]; omega) (by rw [n 6 9 (by omega)]; omega) w7 (fun f' γ' i' r δ' m => ?_)
        have mr := m.r (by rw [n 6 8 (by omega)]; exact g8) (by rw [n 6 9 (by omega)]; exact g9) (by rw [n 6 8 (by omega), n 6 11 (by omega)]; exact g11)
        have ⟨y1, y2, y3, ⟨y4, y5⟩, y6, y7⟩ := mr
        rw [n 6 8 (by omega)] at y4
        rw [n 6 9 (by omega)] at y5 y6
        refine cc f' γ' i' r δ' ⟨y1, y2, y3.nx0, ⟨y4, y5⟩, y6, (y7.pre (Mv.pk0 ltk.1.1)).pre (Mv.tk0 l4.1)⟩
      · refine pq_lpf (γ1 := flS γ 2) (ro _ (called_no hl1.2 kd ?_)) hfl
        rw [wd]
        rcases fn with ⟨f1, f2, f3⟩ | ⟨f1, f2⟩ <;> omega
theorem pq_atm (hE : 0 ≤ d → d < 40 → LvE N E 0 (d + 1)) (h9 : CaE N E d) : ∀ (R : St → St → Prop) (K : Int → St → Option Res) (f : Nat) (γ δ : St) (i : Int), XeI N 8 d i γ δ → (∀ (z : Bool) (f' : Nat) (γ' : St) (i' r : Int) (δ' : St), XmR N d i' γ δ γ' δ' r → NxT z 8 (γ' 14 (γ' 1 6)) → pq (Go z f' γ' i') (K r δ') (OuR R)) → (γ 14 (γ 1 6) ≠ 16 ∧ γ 14 (γ 1 6) ≠ 28 ∧ γ 14 (γ 1 6) ≠ 35 ∧ γ 14 (γ 1 6) ≠ 36) → pq (f_Er_readRightSide_L57 f γ 1 i) (bndT (f_M_atom E δ d) K) (OuR R) := fun R K f γ δ i h0 cont hn => by
  have ⟨w1, w2, w3, w4, w5, w6, w7⟩ := h0
  have l0 : LexR N γ δ := w1.1.1.1
  have g8 := w1.2.2.2.2.1
  have g9 := w1.2.2.2.2.2.1
  have g11 := w1.2.2.2.2.2.2
  have g10 := w1.2.2.2.1.2.1
  have m1 := Mv.pk0 l0.1
  have h1 := h0.pk
  have l1 : LexR N γ (pkS δ) := h1.1.1.1.1
  have hp : pkS (pkS δ) = pkS δ := pkS_pk l0.1
  have t1 : tK (pkS δ) = tK δ := pk_tK l0.1
  have p7 : pkS δ 0 7 = sk δ := pk_7 δ
  have p8 : pkS δ 0 8 = tE δ := pk_8 δ
  have p1 : pkS δ 1 = δ 1 := pkS_1 δ
  have p01 : pkS δ 0 1 = δ 0 1 := pkS_o δ 0 1 (by omega)
  have cc : ∀ (f' : Nat) (γ' : St) (i' r : Int) (δ' : St), XmR N d i' γ (pkS δ) γ' δ' r → pq (f_Er_readRightSide_L57 f' γ' 1 i') (K r δ') (OuR R) := fun f' γ' i' r δ' m => cont false f' γ' i' r δ' (m.mb m1) ⟨fun e => (by cases e), fun _ => ⟨fun e => by omega, fun e => by omega⟩⟩
  unfold f_M_atom
  rw [bT_N]
  refine pq_er (pkM_eq l0.1) ?_
  generalize pkS δ = δ1 at *
  have b92 : ∀ (c v : Int), γ 14 (γ 1 6) = c → (c = 40 ∧ v = 1 ∨ c = 41 ∧ v = 0) → pq (f_Er_readRightSide_L57 f γ 1 i) (bndT (f_M_atom_b92 E δ1 v) K) (OuR R) := fun c v kd hc => by
    have tt := l1.k03 (by omega)
    unfold f_M_atom_b92
    simp only [bT_N, bT_T, bT_r]
    refine pq_er (tkM_eq l1.1) ?_
    exact pq_tat (K := K) (k := 1) (c := c) (v := v) h1 (by unfold kdM; rcases hc with ⟨q, _⟩ | ⟨q, _⟩ <;> subst q <;> rfl) (by omega) ⟨by omega, fun q => by omega, fun q => by omega, fun q => by omega⟩ tt.1 tt.2 (Mv.rf l1.1.tk) (h1.1.1.1.tk tt.1 tt.2) (ro_tru (by omega) (by omega) (l1.lt tt.1 tt.2) kd hc) cc
  have b77 : (γ 14 (γ 1 6) = 40 ∨ γ 14 (γ 1 6) = 41) → pq (f_Er_readRightSide_L57 f γ 1 i) (bndT (f_M_atom_b77 E δ1) K) (OuR R) := fun kd => by
    unfold f_M_atom_b77
    rw [bT_N]
    refine pq_yn (w_is l1.1 20) (fun q => ?_) (fun q => ?_)
    · rw [if_neg (show ¬ (1 : Int) = 0 by decide), hp]
      exact b92 40 1 ((l1.kw (by omega)).2 q) (Or.inl ⟨rfl, rfl⟩)
    · rw [if_pos (show (0 : Int) = 0 from rfl), hp]
      refine b92 41 0 ?_ (Or.inr ⟨rfl, rfl⟩)
      rcases kd with r | r
      · exact (q ((l1.kw (by omega)).1 r)).elim
      · exact r
  rw [bT_I]
  refine pq_ir (fun q => ?_) (fun q => ?_)
  · rw [bT_N]
    refine pq_yn (w_is l1.1 20) (fun q2 => ?_) (fun q2 => ?_)
    · rw [if_pos (show (1 : Int) ≠ 0 by decide), hp]
      exact b77 (Or.inl ((l1.kw (by omega)).2 q2))
    · rw [if_neg (show ¬ (0 : Int) ≠ 0 by decide), bT_N, hp]
      refine pq_yn (w_is l1.1 21) (fun q3 => ?_) (fun q3 => ?_)
      · rw [if_neg (show ¬ (1 : Int) = 0 by decide), hp]
        exact b77 (Or.inr ((l1.kw (by omega)).2 q3))
      · rw [if_pos (show (0 : Int) = 0 from rfl), bT_N, hp]
        refine pq_er (pkM_eq l1.1) ?_
        rw [bT_I, hp]
        refine pq_ir (fun q4 => ?_) (fun q4 => ?_)
        · rw [bT_N]
          refine pq_yn (w_nameHere l1.1) (fun q5 => ?_) (fun q5 => ?_)
          · rw [if_pos (show (1 : Int) ≠ 0 by decide)]
            exact pq_nme h9 h1 q5 cc
          · rw [if_neg (show ¬ (0 : Int) ≠ 0 by decide), bT_N, hp, bndN_eq (cant_eq l1.1), bT_e]
            cases f with
            | zero => exact pq_nl
            | succ n =>
              rw [lp_or n γ i w1.lp (by omega)]
              refine pq_lpf (γ1 := flS γ 1) ?_ (pq_some (OuR.no (flS_7 γ 1) (by rw [flS_8]; exact l1.2.2.2.2.symm) (by decide)))
              exact ro_no w1.1.1.2 (by omega) ⟨fun r => q5 (l1.nm.1 r), fun r => q (l0.no.1 r), fun r => q4 ((l1.sg (k := 40) (by decide)).1 r), hn.1, hn.2.1, hn.2.2.1, hn.2.2.2, fun r => q2 ((l1.kw (by omega)).1 r), fun r => q3 ((l1.kw (by omega)).1 r)⟩ (w4 (by omega))
        · simp only [bT_N, bT_T, bT_r]
          exact pq_brk hE h1 (by omega) cc
  · have q2 : tK δ = 2 := by omega
    simp only [ap]
    have ne := num_e (b := δ 1) (L := δ 0 1) (s := sk δ) q2
    rw [L15_b]
    have nu := l0.nu q2
    refine pq_num FU FU 0 (δ1 0 7) (by rw [p7, p01]; omega) (by rw [p8, p7, p1, p01]; exact ne.2) ?_
    rw [p7, p1, p01, nmF_ag (b := γ 13) l0.2.1 FU (sk δ) 0 l0.s0, ← nu.2]
    unfold f_M_atom_b44
    simp only [bT_N, bT_T, bT_r]
    refine pq_er (tkM_eq l1.1) ?_
    exact pq_tat (K := K) (k := 0) (c := 3) h1 rfl (by omega) ⟨by omega, fun q => by omega, fun q => by omega, fun q => by omega⟩ (by omega) (by omega) (Mv.rf l1.1.tk) (h1.1.1.1.tk (by omega) (by omega)) (ro_num (by omega) (by omega) (l1.lt (by omega) (by omega)) nu.1) cc
end ATX
