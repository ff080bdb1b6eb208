/-! equality: unary signs, and when -/
theorem XmR.wk {N d i i' r : Int} {γ0 δ0 γ δ : St} (h : XmR N d i γ0 δ0 γ δ r) (h1 : 0 ≤ i') (h2 : i' ≤ i) : XmR N d i' γ0 δ0 γ δ r := by
  have ⟨⟨a, b, c, ⟨e1, e2, e3, e4⟩, f⟩, g⟩ := h
  exact ⟨⟨a, b, c, ⟨e1, e2, h1, by omega⟩, f⟩, g⟩
theorem XmR.tk {N d i r : Int} {γ0 δ0 γ δ : St} (h : XmR N d i γ0 δ0 γ δ r) (k0 : tK δ ≠ 0) (k3 : tK δ ≠ 3) : XmR N d (i + 1) γ0 δ0 (nxS γ) (tkS δ) r := by
  have ⟨⟨a, b, c, ⟨e1, e2, e3, e4⟩, f1, f2, f3⟩, g1, g2, ⟨g3, g4⟩, g5, g6⟩ := h
  have s := h.1.st (γ1 := γ) k0 k3 (fun _ _ _ => rfl)
  have n : ∀ (j : Nat) (k : Int), j ≠ 1 ∨ k ≠ 6 → nxS γ j k = γ j k := fun j k q => nxS_o γ q
  refine ⟨⟨s.1, b.tk (fun _ _ _ => rfl), s.2.1, ⟨by rw [n 6 14 (by omega)]; exact e1, by rw [n 6 10 (by omega)]; exact e2, by omega, by rw [s.2.2]; omega⟩, by rw [n 6 8 (by omega)]; exact f1, by rw [n 6 9 (by omega)]; exact f2, by rw [n 6 11 (by omega), n 6 8 (by omega)]; exact f3⟩, by rw [n 6 12 (by omega)]; exact g1, ?_, ⟨by rw [n 6 8 (by omega)]; exact g3, by rw [n 6 9 (by omega)]; exact g4⟩, by rw [n 52 _ (by omega), tkS_o δ 27 r (by omega)]; exact g5, g6.mv (Mv.tk0 a.1.1.1)⟩
  intro j k q1 q2 q3 q4 q5 q6
  rw [n j k (by omega)]
  exact g2 j k q1 q2 q3 q4 q5 q6
theorem XmR.p0 {N d i r : Int} {γ0 δ0 γ δ : St} (l : LX δ0) (h : XmR N d i γ0 (pkS δ0) γ δ r) : XmR N d i γ0 δ0 γ δ r := ⟨h.1, h.2.1, h.2.2.1, h.2.2.2.1, h.2.2.2.2.1, h.2.2.2.2.2.pre (Mv.pk0 l)⟩
theorem FcX.rd {γ0 γ : St} (h : FcX γ0 γ) (h4 : γ0 4 4 ≤ γ 4 4) (h9 : γ0 6 9 ≤ γ 6 9 - sidK (topK γ)) : FcX γ0 (rdS γ) := by
  intro j q q1 q2 q3 q4 q5 q6
  rw [← h j q q1 q2 q3 q4 q5 q6]
  by_cases r : 38 ≤ j ∧ j ≤ 41
  · exact rdS_pt γ r (by have := q4 r.1 r.2; omega)
  · by_cases r2 : j = 52
    · subst r2
      rw [rdS_52, if_neg (by have := q6 rfl; omega)]
    · exact rdS_o γ (by omega) (by omega) (by omega) (by omega)
theorem lst_8 (c : Int) : lstK c ≤ 8 := by
  unfold lstK
  repeat (first | omega | split)
section UN
variable {α : Type} {m : Option α} {Q : Int × St → α → Prop}
theorem lp_pre {N d i t c : Int} {f : Nat} {γ δ : St} (h : XpR N d i γ δ) (h12 : γ 6 12 = 1) (hd : d ≤ 40) (ht : γ 14 (γ 1 6) = t) (hc : t = 16 ∧ c = 42 ∨ (t = 28 ∨ t = 35 ∨ t = 36) ∧ c = t) (hb : γ 6 8 < 512) (k0 : tK δ ≠ 0) (k3 : tK δ ≠ 3) (cont : ∀ n, pq (f_Er_readRightSide_L57 n (nxS (puS γ c 0)) 1 (i + 1)) m Q) : pq (f_Er_readRightSide_L57 f γ 1 i) m Q := by
  cases f with
  | zero => exact pq_nl
  | succ n =>
    rw [lp_or n γ i h.lp (by omega)]
    refine pq_lps ?_ (cont n)
    unfold f_Er_readOperand
    rw [if_pos (show γ 6 10 ≤ 40 by have := h.2.2.2.1.2.1; omega)]
    refine pc_b kind_pc (fun r γ' e => ?_)
    cases e
    have pp : ∀ c', c' = c → pc (bndN (f_Er_push γ c' 0) fun r γ' => some (r, γ')) (fun z => z = (1, nxS (puS γ c 0))) := fun c' e => by
      subst e
      exact pc_b (push_pc hb (h.1.1.1.lt k0 k3)) (fun r γ' e => by cases e; exact pc_s rfl)
    rw [ht]
    rw [if_neg (show ¬ t = 2 by omega), if_neg (show ¬ t = 3 by omega), if_neg (show ¬ t = 4 by omega)]
    by_cases q1 : t = 16
    · rw [if_pos q1]; exact pp 42 (by omega)
    · rw [if_neg q1]
      by_cases q2 : t = 28
      · rw [if_pos q2]; exact pp t (by omega)
      · rw [if_neg q2, if_neg (show ¬ t = 32 by omega)]
        by_cases q3 : t = 35
        · rw [if_pos q3]; exact pp t (by omega)
        · rw [if_neg q3, if_pos (show t = 36 by omega)]; exact pp t (by omega)
end UN
/-- what when leaves behind its clock -/
def whT (r6 : Int) (γ7 : St) : Option (Int × St) :=
  if 0 ≤ r6 then
  (bndN (f_Cd_add γ7 27 r6 1) fun _ γ10 =>
  chk (i32 ((γ10 6 9) - 1)) (chk (inb ((γ10 6 9) - 1) 512) (chk (i32 ((γ10 52 ((γ10 6 9) - 1)) + 1)) (chk (inb ((γ10 6 9) - 1) 512) (ap (setA γ10 52 ((γ10 6 9) - 1) ((γ10 52 ((γ10 6 9) - 1)) + 1)) fun γ16 =>
  chk (i32 ((γ16 6 9) - 1)) (chk (inb ((γ16 6 9) - 1) 512) (if (γ16 52 ((γ16 6 9) - 1)) ≤ 200 then
  (some (1, γ16))
  else
  (bndN (f_Tk_fail γ16 3) fun r22 γ23 =>
  if r22 = 0 then
  (some (0, γ23))
  else
  (some (1, γ23))))))))))
  else
  (some (0, γ7))
theorem readWhen_s (γ : St) : f_Er_readWhen γ = chk (inb (γ 3 9) 59) (bndN (f_Er_readClock γ (γ 28 (γ 3 9))) whT) := rfl
def whS (γ : St) (c : Int) : St := fun j k => if j = 52 ∧ k = γ 6 9 - 1 then γ 52 (γ 6 9 - 1) + 1 else caS γ 27 c 1 j k
theorem whS_o (γ : St) (c : Int) {j : Nat} {k : Int} (h : j ≠ 52 ∨ k ≠ γ 6 9 - 1) (h4 : j ≠ 4 ∨ k ≠ 4) (h2 : j < 38 ∨ 41 < j ∨ k ≠ γ 4 4) : whS γ c j k = γ j k := by
  show (if _ then _ else _) = _
  rw [if_neg (by omega), caS_o _ _ _ _ h4 h2]
theorem whT_pc {γ : St} {c : Int} (hc : 0 ≤ c) (h7 : γ 1 7 = 0) : pc (whT c γ) (fun z => γ 52 (γ 6 9 - 1) + 1 ≤ 200 ∧ z = (1, whS γ c) ∨ 200 < γ 52 (γ 6 9 - 1) + 1 ∧ z = (0, flS (whS γ c) 3)) := by
  unfold whT
  rw [if_pos hc]
  refine pc_b cdadd_pc (fun r γ1 e => ?_)
  cases e
  have e9 : caS γ 27 c 1 6 9 = γ 6 9 := caS_o _ _ _ _ (by omega) (by omega)
  have e52 : caS γ 27 c 1 52 (γ 6 9 - 1) = γ 52 (γ 6 9 - 1) := caS_o _ _ _ _ (by omega) (by omega)
  rw [e9, e52]
  refine pc_c (fun _ => pc_c (fun _ => pc_c (fun _ => pc_c (fun _ => pc_a ?_))))
  have e : setA (caS γ 27 c 1) 52 (γ 6 9 - 1) (γ 52 (γ 6 9 - 1) + 1) = whS γ c := by
    funext j k
    rw [stA]
    rfl
  rw [e]
  have o9 : whS γ c 6 9 = γ 6 9 := whS_o γ c (by omega) (by omega) (by omega)
  have o52 : whS γ c 52 (γ 6 9 - 1) = γ 52 (γ 6 9 - 1) + 1 := by
    show (if _ then _ else _) = _
    rw [if_pos ⟨rfl, rfl⟩]
  rw [o9, o52]
  refine pc_c (fun _ => pc_c (fun _ => pc_i (fun q => pc_s (Or.inl ⟨q, rfl⟩)) (fun q => ?_)))
  refine pc_b (fail_pc (by rw [whS_o γ c (by omega) (by omega) (by omega)]; exact h7)) (fun r γ3 e => ?_)
  cases e
  rw [if_pos rfl]
  exact pc_s (Or.inr ⟨by omega, rfl⟩)
section WHEN
variable {N d : Int} {γ0 δ0 : St} {E : Nat → St → Int → Int → Option Res} {K : Int → St → Option Res} {R : St → St → Prop}
theorem pq_failL {k j p : Int} {n : Nat} {γ δ δ' : St} (h : LxR N γ δ) (hk : k ≠ 0) (hp : p = sk δ) : pq (bndN (f_Tk_fail γ k) fun _ γ' => chk (i32 j) (f_Er_readRightSide_L57 n γ' 0 j)) (some (Sum.inl (k, p), δ')) (OuR R) := by
  refine pq_bl (fail_pc h.2) (fun r γ' e => ?_)
  cases e
  refine pq_cl (fun _ => fun y z e1 e2 => ?_)
  rw [lp_0 _ _ _ e1]
  exact pq_some (OuR.no (flS_7 γ k) (by rw [flS_8, hp, h.1.2.2.2.2]) hk) _ z rfl e2
/-- both make the part of a when -/
theorem pq_mkw {j r c : Int} {n : Nat} {γ δ : St} (m : XmR N d j γ0 δ0 γ δ r) (p : PxI δ0) (hP : γ0 4 4 = δ0 0 40) (sl : δ0 0 5 - δ0 0 40 + 1 ≤ δ 0 5 - δ 0 40) (hc : 0 ≤ c ∧ c < 2 * (δ0 0 19 - δ0 4 (δ0 0 18))) (ih : ∀ (f : Nat) (γ' δ' : St) (r' : Int), XmR N d j γ0 δ0 γ' δ' r' → pq (f_Er_readRightSide_L57 f γ' 1 j) (K r' δ') (OuR R)) : pq (bndN (whT c γ) fun r γ' => chk (i32 j) (f_Er_readRightSide_L57 n γ' r j)) (bndT (f_M_make δ 26 c r 1) K) (OuR R) := by
  have ⟨h, m2, m3, ⟨m4, m5⟩, m6, x⟩ := m
  have ⟨⟨b1, b2, b3, b4⟩, ⟨h1, h2⟩, _⟩ := x
  have ⟨k1, k2, k3, k4, k5⟩ := b1
  have lx := k1.1
  have x1 := lx.1
  have x5 := lx.2.1
  have p0 := XS.p0 p
  have w := wp_both (w_make (a0 := 26) (a1 := c) lx (by omega) k1.2.1 (by omega) p0.1 h1 h2 x.hb) (w_mk (a0 := 26) (a1 := c) x rfl ⟨fun q => by omega, fun q => by omega, fun q => by omega, fun q => by omega, fun q => rfl⟩ ⟨by omega, fun q => by omega, fun q => by omega, fun q => hc⟩ sl p0)
  have ⟨c1, c2, c3, ⟨g1, g2, g3, g4⟩, ⟨g5, g6, g7⟩⟩ := h
  have hb := x.hb r List.mem_cons_self
  have hH : hMx (δ 27) [r] = δ 27 r + 1 := by
    show max (δ 27 r + 1) 1 = _
    omega
  have e52 : γ 52 (γ 6 9 - 1) = δ 27 r := by rw [m5, show γ0 6 9 + 1 - 1 = γ0 6 9 by omega]; exact m6
  have o : ∀ (j : Nat) (k : Int), j ≤ 3 ∨ 5 ≤ j ∧ j ≤ 37 ∨ 42 ≤ j ∧ j ≠ 52 → whS γ c j k = γ j k := fun j k q => whS_o γ c (by omega) (by omega) (by omega)
  have e44 : γ 4 4 = δ 0 40 := c2.1.1
  refine pq_bl (whT_pc hc.1 c1.1.2) (fun rr γ1 t0 => ?_)
  rw [e52] at t0
  refine pq_brT w (fun e δ' t => ?_) (fun rx δ' t => ?_)
  · rcases t0 with ⟨t1, t2⟩ | ⟨t1, t2⟩
    · rcases t.1 with ⟨_, γ', e, _⟩ | ⟨t3, _⟩
      · cases e
      · exfalso; omega
    · cases t2
      rcases t.1 with ⟨_, γ', e, _⟩ | ⟨t3, γ', e, _⟩
      · cases e
      · cases e
        refine pq_cl (fun _ => fun y z e1 e2 => ?_)
        rw [lp_0 _ _ _ e1]
        exact pq_some (OuR.no (flS_7 _ _) (by rw [flS_8, o 1 6 (by omega), o 15 _ (by omega)]; exact c1.1.1.2.2.2.2.symm) (by decide)) _ z rfl e2
  · rcases t0 with ⟨t1, t2⟩ | ⟨t1, t2⟩
    · cases t2
      refine pq_cl (fun _ => ?_)
      have t2 := t.2
      rcases t.1 with ⟨hH2, γ', e, fr, c40, c20, c21, c22, c23, c24, c26, c27, _, _, _⟩ | ⟨t1, _⟩
      · cases e
        have xs : XS δ0 δ' [δ 0 40] := t2.1.2 _ rfl
        have l : LxR N (whS γ c) δ' := c1.1.fr (fun j k q => o j k (by omega)) (fun k _ _ => o 1 k (by omega)) (o 2 8 (by omega)) (funext fun k => fr 1 k (by omega) (by omega) (by omega)) (fun k q => fr 0 k (by omega) (by omega) (by omega))
        have nw : whS γ c 38 (δ 0 40) = 27 ∧ whS γ c 39 (δ 0 40) = c ∧ whS γ c 40 (δ 0 40) = 1 ∧ whS γ c 41 (δ 0 40) = -2 := by
          unfold whS caS
          simp [e44]
        have w4 : whS γ c 4 4 = γ 4 4 + 1 := by
          show (if _ then _ else _) = _
          rw [if_neg (by omega)]
          show (if _ then _ else _) = _
          rw [if_pos ⟨rfl, rfl⟩]
        have pt : PtR (whS γ c) δ' := by
          refine c2.add (fun j q1 q2 k q3 => whS_o γ c (by omega) (by omega) (by omega)) w4 (fun j q1 q2 q3 q4 q5 k q6 => fr j k (by omega) (by omega) (by omega)) c40 ⟨?_, ?_, ⟨[r], ?_, ?_⟩⟩
          · rw [nw.1, c20]; rfl
          · rw [nw.2.1, c21]
          · rw [c26, show δ 0 40 + 1 - (δ 0 40 + 1 - δ0 0 40) = δ0 0 40 by omega]
            exact h2.agree (fun y hy => fr 26 y (by omega) (by have := h2.mem y hy; omega) (by omega))
          · rw [nw.2.2.1]; rfl
        refine ih n (whS γ c) δ' _ ⟨⟨c1.xp l (fun j k q => o j k (by omega)) (fun j k q => fr j k (by omega) (by omega) (by omega)), pt, xs.1.1, ⟨by rw [o 6 14 (by omega)]; exact g1, by rw [o 6 10 (by omega)]; exact g2, g3, by rw [o 1 6 (by omega)]; exact g4⟩, by rw [o 6 8 (by omega)]; exact g5, by rw [o 6 9 (by omega)]; exact g6, by rw [o 6 11 (by omega), o 6 8 (by omega)]; exact g7⟩, by rw [o 6 12 (by omega)]; exact m2, ?_, ⟨by rw [o 6 8 (by omega)]; exact m4, by rw [o 6 9 (by omega)]; exact m5⟩, ?_, xs⟩
        · intro j q q1 q2 q3 q4 q5 q6
          rw [whS_o γ c (by have := q6; omega) (by omega) (by
            by_cases r : 38 ≤ j ∧ j ≤ 41
            · have := q4 r.1 r.2; omega
            · omega)]
          exact m3 j q q1 q2 q3 q4 q5 q6
        · rw [c27, hH, ← e52]
          show (if _ then _ else _) = _
          rw [if_pos ⟨rfl, by omega⟩]
      · exfalso; omega
    · rcases t.1 with ⟨t3, _⟩ | ⟨_, γ', e, _⟩
      · exfalso; omega
      · cases e
theorem pq_wb36 {j r a0 s b : Int} {n : Nat} {γ δ : St} {k92 : St → Int → Option Res} (m : XmR N d j γ0 δ0 γ δ r) (hs : s = if b = 0 then 1 else 0) (ha : a0 = δ 0 19 - δ 4 (δ 0 18)) (p : PxI δ0) (hP : γ0 4 4 = δ0 0 40) (sl : δ0 0 5 - δ0 0 40 + 1 ≤ δ 0 5 - δ 0 40) (hj : 0 ≤ j) (ih : ∀ (f : Nat) (γ' δ' : St) (r' : Int), XmR N d j γ0 δ0 γ' δ' r' → pq (f_Er_readRightSide_L57 f γ' 1 j) (bndT (k92 δ' r') K) (OuR R)) : pq (bndN (f_Er_readClock_b36 γ a0 s) (fun r6 γ7 => bndN (whT r6 γ7) fun r γ' => chk (i32 j) (f_Er_readRightSide_L57 n γ' r j))) (bndT (f_M_unary_b124 E k92 (f_M_unary_b131 E) (f_M_unary_b161 E) δ r b) K) (OuR R) := by
  have h := m.1.1
  have ⟨h1, hN, hM, ⟨r1, r2, r3, r4, r5, r6⟩, h5, h6⟩ := h
  have hs2 : s = 0 ∨ s = 1 := by
    rw [hs]
    by_cases c : b = 0
    · rw [if_pos c]; exact Or.inr rfl
    · rw [if_neg c]; exact Or.inl rfl
  have fx := m.2.2.2.2.2.fx.1
  have f19 : δ 0 19 = δ0 0 19 := fx 0 19 (by omega) (by omega) (by omega)
  have f18 : δ 0 18 = δ0 0 18 := fx 0 18 (by omega) (by omega) (by omega)
  have f4 : δ 4 (δ0 0 18) = δ0 4 (δ0 0 18) := fx 4 _ (by omega) (by omega) (by omega)
  unfold f_Er_readClock_b36 f_Er_readClock_b105 f_M_unary_b124 f_M_unary_b131 f_M_unary_b161
  simp only [bN_N, bN_C, bN_I, bN_s, ap, bT_N, bT_I, bT_C, bT_T, bT_e]
  refine pq_bl kind_pc (fun r γ1 e => ?_)
  cases e
  have hp : pkS δ 0 7 = sk δ := pk_7 δ
  have km : ∀ γ' : St, whT (-1) γ' = some (0, γ') := fun γ' => by unfold whT; rw [if_neg (by decide)]
  simp only [km, bN_s]
  refine pq_yn (w_nameHere h1.1.1) (fun q => ?_) (fun q => ?_)
  · have k1 : tK δ = 1 := q.1
    have a := h1.1.wd k1
    rw [if_pos (h1.1.nm.2 q), if_pos (show (1 : Int) ≠ 0 by decide)]
    refine pq_br vHere_pc (fun r' δ1 e => ?_)
    obtain ⟨r'', e, F⟩ := e
    have e1 : r'' = r' := (congrArg Prod.fst e).symm
    have e2 : δ1 = pkS δ := congrArg Prod.snd e
    subst e1
    subst e2
    rw [pkS_o δ 4 _ (by omega), pkS_o δ 0 18 (by omega), pkS_o δ 0 19 (by omega)] at F
    have fd := hN.find h1.1 k1 (Int.le_refl _) F
    refine pq_bl vNow_pc (fun r9 γ1 e => ?_)
    obtain ⟨e1, e2⟩ := e
    have e1 : γ1 = γ := e1
    have e2 : γ 22 (wdN γ) = γ 3 9 + 1 ∧ r9 = γ 21 (wdN γ) ∨ γ 22 (wdN γ) ≠ γ 3 9 + 1 ∧ r9 = -1 := e2
    subst e1
    refine pq_cl (fun _ => pq_cl (fun _ => ?_))
    rcases fd with ⟨f1, f2, f3⟩ | ⟨f1, f2⟩
    · have e3 : r9 = γ1 21 (wdN γ1) := by
        rcases e2 with e2 | e2
        · exact e2.2
        · exact absurd (by rw [r1]; exact f1) e2.1
      have e4 : γ1 25 (γ1 3 9) + r9 = r'' := by rw [r1, r3]; omega
      rw [e4, if_neg (show ¬ r9 < 0 by omega), if_neg (show ¬ a0 ≤ r9 by omega), if_neg (show ¬ r'' < 0 by omega)]
      have ty := (h5 r'' (by omega) (by omega)).2.2 (by omega)
      refine pq_cl (fun _ => pq_cr (fun _ => ?_))
      rw [pkS_o δ 14 _ (by omega)]
      by_cases c : δ 14 r'' = 1
      · rw [if_pos (show γ1 33 r'' = 1 by omega), if_pos (show δ 14 r'' ≠ 0 by omega)]
        refine pq_cl (fun _ => ?_)
        show pq _ (bndT (f_M_shallow_L4 f_M_shallow_b39 FU (pkS δ) 0 r'') _) _
        have dp : DpR γ1 (pkS δ) := h.pk.2.2.2.2.2
        have sp := shallow_pc dp FU 0 r'' (by rw [pkS_o δ 4 _ (by omega), pkS_o δ 0 18 (by omega)]; omega) (by rw [pkS_o δ 0 19 (by omega)]; omega)
        have d8 := (h6 r'' (by omega) (by omega)).1
        refine pq_brT sp (fun e δ' k => ?_) (fun x' δ' k => ?_)
        · rcases k with ⟨k1, k2⟩ | ⟨k1, k2⟩
          · cases k2
          · cases k2
            rw [if_neg (by omega)]
            exact pq_failL h1 (by decide) hp
        · rcases k with ⟨k2, k3⟩ | ⟨k2, k3⟩
          · cases k3
            rw [if_pos (by omega)]
            refine pq_bl (step_pc h1.1 (by omega) (by omega)) (fun r γ2 e => ?_)
            cases e
            refine pq_er (tkM_eq h1.1.1.pk) ?_
            rw [tkS_pk h1.1.1]
            have t4 : tkS δ 4 (tkS δ 0 18) = δ 4 (δ 0 18) := by rw [tkS_o δ 0 18 (by omega), tkS_o δ 4 _ (by omega)]
            rw [t4]
            refine pq_cl (fun _ => pq_cl (fun i2 => pq_cr (fun _ => pq_cr (fun _ => pq_cr (fun _ => ?_)))))
            have mt := (m.tk (by omega) (by omega)).wk (i' := j) hj (by omega)
            have t5 : tkS δ 0 5 - tkS δ 0 40 ≥ δ 0 5 - δ 0 40 := by
              have := Mv.nz h1.1.1 (by omega)
              rw [tkS_o δ 0 40 (by omega)]; omega
            have er : δ 4 (δ 0 18) + r9 = r'' := by omega
            have fin : ∀ x5, x5 = s → pq (bndN (whT (2 * r9 + s) (nxS γ1)) fun r γ' => chk (i32 j) (f_Er_readRightSide_L57 n γ' r j)) (bndT (f_M_unary_b211 E k92 (f_M_unary_b131 E) (f_M_unary_b161 E) (tkS δ) r x5 (2 * (r'' - δ 4 (δ 0 18))) 26) K) (OuR R) := fun x5 hx5 => by
              subst hx5
              unfold f_M_unary_b211
              rw [bT_C, bT_T]
              refine pq_cr (fun _ => ?_)
              rw [show 2 * (r'' - δ 4 (δ 0 18)) + x5 = 2 * r9 + x5 by omega]
              rw [f18, f4] at f2 f3
              exact pq_mkw (K := fun r γ => bndT (k92 γ r) K) mt p hP (by omega) (by omega) ih
            refine pq_ir (fun q => fin 1 (by rw [hs, if_pos q])) (fun q => fin 0 (by rw [hs, if_neg q]))
          · cases k3
      · have c0 : δ 14 r'' = 0 := by omega
        rw [if_neg (show ¬ γ1 33 r'' = 1 by omega), if_neg (show ¬ δ 14 r'' ≠ 0 by omega), hp]
        exact pq_failL h1 (by decide) rfl
    · rw [if_pos (show r'' < 0 by omega), hp]
      rcases e2 with e2 | e2
      · have b0 := (hN.1 (wdN γ1) a.1.1 a.1.2 (by rw [← r1]; exact e2.1)).1
        have b1 := f2 (by rw [← r1]; exact e2.1)
        rw [if_neg (show ¬ r9 < 0 by omega), if_pos (show a0 ≤ r9 by omega)]
        exact pq_failL h1 (by decide) rfl
      · rw [if_pos (show r9 < 0 by omega)]
        exact pq_failL h1 (by decide) rfl
  · rw [if_neg (fun e => q (h1.1.nm.1 e)), if_neg (show ¬ (0 : Int) ≠ 0 by decide), bndN_eq (cant_eq h1.1.1.pk), pkS_sk h1.1.1]
    exact pq_failL h1 (by decide) rfl
end WHEN
