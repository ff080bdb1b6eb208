/-! equality: calls -/
def cpS (γ : St) (k : Int) : St := fun j q => if j = 49 ∧ q = γ 6 8 then k else if (j = 50 ∨ j = 51) ∧ q = γ 6 8 then 0 else nxS (puS γ 43 1) j q
theorem cpS_o (γ : St) (k : Int) {j : Nat} {q : Int} (h : j < 49 ∨ 51 < j ∨ q ≠ γ 6 8) : cpS γ k j q = nxS (puS γ 43 1) j q := by
  show (if _ then _ else _) = _
  rw [if_neg (by omega), if_neg (by omega)]
theorem called_pc {γ : St} {k : Int} (kd : γ 14 (γ 1 6) = 2) (hn : γ 23 (γ 16 (γ 1 6)) - 1 = k) (h0 : 0 ≤ k) (k4 : γ 14 (γ 1 6 + 1) = 4) (hb : γ 6 8 < 512) (l2 : γ 1 6 + 1 + 1 < γ 1 5) : pc (f_Er_readCalled γ) (fun z => z = (1, cpS (nxS γ) k)) := by
  unfold f_Er_readCalled
  refine pc_b kind_pc (fun r γ' e => ?_)
  cases e
  rw [kd, if_pos rfl]
  refine pc_b item_pc (fun r γ' e => ?_)
  cases e
  refine pc_c (fun _ => pc_c (fun _ => pc_a ?_))
  rw [hn, if_pos h0]
  refine pc_b (step_pc2 (by omega)) (fun r γ' e => ?_)
  cases e
  have n6 : nxS γ 1 6 = γ 1 6 + 1 := by unfold nxS; rw [stA, if_pos ⟨rfl, rfl⟩]
  have n5 : nxS γ 1 5 = γ 1 5 := nxS_o γ (by omega)
  have n8 : nxS γ 6 8 = γ 6 8 := nxS_o γ (by omega)
  refine pc_b kind_pc (fun r γ' e => ?_)
  cases e
  rw [n6, nxS_o γ (by omega), k4, if_neg (show ¬ (4 : Int) ≠ 4 by decide)]
  refine pc_b (push_pc (by rw [n8]; exact hb) (by rw [n6, n5]; exact l2)) (fun r γ' e => ?_)
  cases e
  rw [if_pos (show (1 : Int) ≠ 0 by decide)]
  have p8 : nxS (puS (nxS γ) 43 1) 6 8 = γ 6 8 + 1 := by
    rw [nxS_o _ (by omega)]
    show (if _ then _ else _) = _
    rw [if_neg (by omega), if_neg (by omega), if_neg (by omega), if_pos ⟨rfl, rfl⟩, n8]
  rw [p8]
  refine pc_c (fun _ => pc_c (fun _ => pc_a ?_))
  rw [stA, if_neg (by omega), p8]
  refine pc_c (fun _ => pc_c (fun _ => pc_a ?_))
  rw [stA, if_neg (by omega), stA, if_neg (by omega), p8]
  refine pc_c (fun _ => pc_c (fun _ => pc_a (pc_s ?_)))
  refine congrArg (Prod.mk 1) (funext fun j => funext fun q => ?_)
  have e1 : γ 6 8 + 1 - 1 = γ 6 8 := by omega
  rw [e1, stA, stA, stA]
  unfold cpS
  rw [n8]
  grind
theorem called_no {γ : St} (h7 : γ 1 7 = 0) (kd : γ 14 (γ 1 6) = 2) (hn : γ 23 (γ 16 (γ 1 6)) - 1 < 0) : pc (f_Er_readCalled γ) (fun z => z = (0, flS γ 2)) := by
  unfold f_Er_readCalled
  refine pc_b kind_pc (fun r γ' e => ?_)
  cases e
  rw [kd, if_pos rfl]
  refine pc_b item_pc (fun r γ' e => ?_)
  cases e
  refine pc_c (fun _ => pc_c (fun _ => pc_a ?_))
  rw [if_neg (by omega)]
  refine pc_b (fail_pc h7) (fun r γ' e => ?_)
  cases e
  exact pc_s rfl
theorem called_n4 {γ : St} (h7 : γ 1 7 = 0) (kd : γ 14 (γ 1 6) = 2) (hn : 0 ≤ γ 23 (γ 16 (γ 1 6)) - 1) (l1 : γ 1 6 + 1 < γ 1 5) (k4 : γ 14 (γ 1 6 + 1) ≠ 4) : pc (f_Er_readCalled γ) (fun z => z = (0, flS (nxS γ) 1)) := by
  unfold f_Er_readCalled
  refine pc_b kind_pc (fun r γ' e => ?_)
  cases e
  rw [kd, if_pos rfl]
  refine pc_b item_pc (fun r γ' e => ?_)
  cases e
  refine pc_c (fun _ => pc_c (fun _ => pc_a ?_))
  rw [if_pos hn]
  refine pc_b (step_pc2 l1) (fun r γ' e => ?_)
  cases e
  have n6 : nxS γ 1 6 = γ 1 6 + 1 := by unfold nxS; rw [stA, if_pos ⟨rfl, rfl⟩]
  refine pc_b kind_pc (fun r γ' e => ?_)
  cases e
  rw [n6, nxS_o γ (by omega), if_pos k4]
  unfold f_Er_readCalled_b82
  refine pc_b (fail_pc (by rw [nxS_o γ (by omega)]; exact h7)) (fun r γ' e => ?_)
  cases e
  exact pc_s rfl
def XpB (N d i : Int) (γ δ : St) : Prop := DcR N (δ 0 19) γ δ ∧ PtR γ δ ∧ PxI δ ∧ (γ 6 14 = 0 ∧ γ 6 10 = d ∧ -1 ≤ i ∧ i ≤ γ 1 6)
theorem XpR.b {N d i : Int} {γ δ : St} (h : XpR N d i γ δ) : XpB N d i γ δ := ⟨h.1, h.2.1, h.2.2.1, h.2.2.2.1.1, h.2.2.2.1.2.1, by have := h.2.2.2.1.2.2.1; omega, h.2.2.2.1.2.2.2⟩
theorem XpB.st {N d i : Int} {γ γ1 δ : St} (h : XpB N d i γ δ) (k0 : tK δ ≠ 0) (k3 : tK δ ≠ 3) (e : ∀ (j : Nat) (k : Int), j ≤ 3 ∨ 13 ≤ j ∧ j ≤ 37 → γ1 j k = γ j k) : DcR N (tkS δ 0 19) (nxS γ1) (tkS δ) ∧ PxI (tkS δ) ∧ nxS γ1 1 6 = γ 1 6 + 1 := by
  have ⟨a, b, c, _⟩ := h
  have o := tkS_o δ
  have t : DcR N (tkS δ 0 19) (nxS γ) (tkS δ) := by rw [o 0 19 (by omega)]; exact a.tk k0 k3
  have f : ∀ (j : Nat) (k : Int), j ≤ 3 ∨ 13 ≤ j ∧ j ≤ 37 → nxS γ1 j k = nxS γ j k := fun j k q => by
    unfold nxS
    rw [e 1 6 (by omega), stA, stA, e j k q]
  have l : LxR N (nxS γ1) (tkS δ) := t.1.fr (fun j k q => f j k (by omega)) (fun k _ _ => f 1 k (by omega)) (f 2 8 (by omega)) rfl (fun _ _ => rfl)
  refine ⟨t.xp l (fun j k q => f j k (by omega)) (fun _ _ _ => rfl), c.mv (Mv.tk0 a.1.1.1), ?_⟩
  unfold nxS
  rw [stA, if_pos ⟨rfl, rfl⟩, e 1 6 (by omega)]
/-- a call is read -/
def XmC (N d i : Int) (γ0 δ0 γ δ : St) (r : Int) : Prop := XpB N d i γ δ ∧ (γ 6 12 = 0 ∧ 0 ≤ i) ∧ FcX γ0 γ ∧ (γ 6 8 = γ0 6 8 ∧ γ 6 9 = γ0 6 9 + 1) ∧ γ 52 (γ0 6 9) = δ 27 r ∧ XS δ0 δ [r] ∧ δ 20 r = 3
theorem XmC.r {N d i r : Int} {γ0 δ0 γ δ : St} (h : XmC N d i γ0 δ0 γ δ r) (g8 : 0 ≤ γ0 6 8) (g9 : 0 ≤ γ0 6 9) (g : γ0 6 11 = 0 ∨ 1 ≤ γ0 6 8) : XmR N d i γ0 δ0 γ δ r := by
  have ⟨⟨a, b, c, e1, e2, e3, e4⟩, ⟨h2, h2i⟩, h3, ⟨h4, h5⟩, h6, h7, _⟩ := h
  have e11 : γ 6 11 = γ0 6 11 := h3 6 11 (by omega) (by omega) (by omega) (by omega) (by omega) (by omega)
  exact ⟨⟨a, b, c, ⟨e1, e2, h2i, e4⟩, by omega, by omega, by omega⟩, h2, h3, ⟨h4, h5⟩, h6, h7⟩
/-- the state behind a call's bracket -/
theorem XpB.cp {N d i k : Int} {γ δ : St} (h : XpB N d i γ δ) (k0 : tK δ ≠ 0) (k3 : tK δ ≠ 3) (g8 : 0 ≤ γ 6 8) (g9 : 0 ≤ γ 6 9) : XpR N (d + 1) (i + 1) (cpS γ k) (tkS δ) ∧ FcX γ (cpS γ k) ∧ (cpS γ k 6 8 = γ 6 8 + 1 ∧ cpS γ k 6 9 = γ 6 9 ∧ cpS γ k 6 12 = 1 ∧ cpS γ k 6 13 = 1) ∧ topK (cpS γ k) = 43 ∧ (cpS γ k 49 (γ 6 8) = k ∧ cpS γ k 50 (γ 6 8) = 0 ∧ cpS γ k 51 (γ 6 8) = 0) ∧ cpS γ k 4 4 = γ 4 4 := by
  have ⟨a, b, c1, ⟨d1, d2, d3, d4⟩⟩ := h
  have s := h.st (γ1 := puS γ 43 1) k0 k3 (fun j k q => puS_o γ 43 1 (by omega) (by omega))
  have f : ∀ (j : Nat) (q : Int), j < 49 ∨ 51 < j → cpS γ k j q = nxS (puS γ 43 1) j q := fun j q r => cpS_o γ k (by omega)
  have n6 : ∀ q, cpS γ k 6 q = puS γ 43 1 6 q := fun q => (f 6 q (by omega)).trans (nxS_o _ (by omega))
  have p8 : puS γ 43 1 6 8 = γ 6 8 + 1 := by
    show (if _ then _ else _) = _
    rw [if_neg (by omega), if_neg (by omega), if_neg (by omega), if_pos ⟨rfl, rfl⟩]
  have p10 : puS γ 43 1 6 10 = γ 6 10 + 1 := by
    show (if _ then _ else _) = _
    rw [if_neg (by omega), if_neg (by omega), if_pos ⟨rfl, rfl⟩]
    rfl
  have p12 : puS γ 43 1 6 12 = 1 := by
    show (if _ then _ else _) = _
    rw [if_neg (by omega), if_pos ⟨rfl, rfl⟩]
  have p13 : puS γ 43 1 6 13 = 1 := by
    show (if _ then _ else _) = _
    rw [if_pos ⟨rfl, rfl⟩]
  have p9 : puS γ 43 1 6 9 = γ 6 9 := puS_o γ 43 1 (by omega) (by omega)
  have p14 : puS γ 43 1 6 14 = γ 6 14 := puS_o γ 43 1 (by omega) (by omega)
  have l : LxR N (cpS γ k) (tkS δ) := s.1.1.fr (fun j q r => f j q (by omega)) (fun q _ _ => f 1 q (by omega)) (f 2 8 (by omega)) rfl (fun _ _ => rfl)
  refine ⟨⟨s.1.xp l (fun j q r => f j q (by omega)) (fun _ _ _ => rfl), ?_, s.2.1, ⟨by rw [n6, p14]; exact d1, by rw [n6, p10, d2], by omega, by rw [f 1 6 (by omega), s.2.2]; omega⟩, by rw [n6, p8]; omega, by rw [n6, p9]; exact g9, by rw [n6, n6, p8]; omega⟩, ?_, ⟨by rw [n6, p8], by rw [n6, p9], by rw [n6, p12], by rw [n6, p13]⟩, ?_, ⟨?_, ?_, ?_⟩, ?_⟩
  · exact (b.tk (γ1 := puS γ 43 1) (fun j q r => puS_o γ 43 1 (by omega) (by omega))).fr (fun j q1 q2 q => f j q (by omega)) (f 4 4 (by omega)) (fun _ _ _ _ _ _ _ => rfl) rfl
  · intro j q q1 q2 q3 q4 q5 q6
    rw [cpS_o γ k (by
      by_cases r : 48 ≤ j ∧ j ≤ 51
      · have := q5 r.1 r.2; omega
      · omega), nxS_o _ (by omega), puS_o γ 43 1 (by omega) (by
      by_cases r : 48 ≤ j ∧ j ≤ 51
      · have := q5 r.1 r.2; omega
      · omega)]
  · unfold topK
    rw [n6, p8, f 48 _ (by omega), nxS_o _ (by omega), show γ 6 8 + 1 - 1 = γ 6 8 by omega]
    show (if _ then _ else _) = _
    rw [if_neg (by omega), if_neg (by omega), if_neg (by omega), if_neg (by omega), if_pos ⟨rfl, rfl⟩]
  · show (if _ then _ else _) = _
    rw [if_pos ⟨rfl, rfl⟩]
  · show (if _ then _ else _) = _
    rw [if_neg (by omega), if_pos ⟨by omega, rfl⟩]
  · show (if _ then _ else _) = _
    rw [if_neg (by omega), if_pos ⟨by omega, rfl⟩]
  · rw [f 4 4 (by omega), nxS_o _ (by omega), puS_o γ 43 1 (by omega) (by omega)]
theorem hMx_app {h : Int → Int} {a : Int} (ha : 1 ≤ h a) : ∀ ks : List Int, hMx h (ks ++ [a]) = max (hMx h ks) (h a + 1)
  | [] => by show max (h a + 1) 1 = max 1 (h a + 1); omega
  | y :: t => by
    show max (h y + 1) (hMx h (t ++ [a])) = max (max (h y + 1) (hMx h t)) (h a + 1)
    rw [hMx_app ha t]; omega
/-- the reference's call at its closing bracket -/
theorem cl_pc {δ0 δ : St} {k : Int} {ks : List Int} {E : Nat → St → Int → Int → Option Res} (p : PxI δ0) (x : XS δ0 δ ks) (hne : 1 ≤ ks.length) (hk : 0 ≤ k ∧ k < δ0 0 18) (t41 : tK δ = 41) : pc (f_M_call_b60 E δ k (ks.headD (-1))) (fun z => (hMx (δ 27) ks ≤ 200 ∧ ∃ δ', z = (.inr (δ 0 40), δ') ∧ (XS δ0 δ' [δ 0 40] ∧ δ' 20 (δ 0 40) = 3) ∧ (∀ j q, (j = 0 → q ≠ 40) → (20 ≤ j → j ≤ 27 → q ≠ δ 0 40) → (j = 8 ∨ j = 9 → q ≠ δ 0 18) → δ' j q = tkS δ j q) ∧ δ' 0 40 = δ 0 40 + 1 ∧ δ' 21 (δ 0 40) = k ∧ δ' 24 (δ 0 40) = -2 ∧ δ' 26 (δ 0 40) = δ 0 40 + 1 - δ0 0 40 ∧ δ' 27 (δ 0 40) = hMx (δ 27) ks) ∨ (200 < hMx (δ 27) ks ∧ z.1 = .inl (3, sk (tkS δ)))) := by
  have wB := w_call_b60 (E := E) p x hne hk
  have lt := Mv.nz x.lx (by omega)
  have y := x.mv (Mv.tk0 x.lx)
  have o := (Mv.tk0 x.lx).2.1
  have e40 := o 0 40 (by omega)
  have e18 := o 0 18 (by omega)
  have p0 := XS.p0 p
  have ⟨⟨b1, b2, b3, b4⟩, ⟨h1, h2⟩, _⟩ := y
  have ⟨k1, k2, k3, k4, k5⟩ := b1
  have lx := k1.1
  have x1 := lx.1
  have x5 := lx.2.1
  have w := w_make (a0 := 3) (a1 := k) lx (by omega) k1.2.1 (by omega) p0.1 h1 h2 y.hb
  have eH : hMx (tkS δ 27) ks = hMx (δ 27) ks := hMx_agree (fun z _ => o 27 z (by omega))
  rw [eH] at w
  intro z e
  have xc : Xc δ0 z := by rw [e] at wB; exact wB
  unfold f_M_call_b60 at e
  rw [must_y x.lx t41] at e
  have e : bndT (f_M_make (tkS δ) 3 k (ks.headD (-1)) 1) (fun r5 γ6 => chk (inb (γ6 0 18) 60) (chk (i32 ((γ6 8 (γ6 0 18)) + 1)) (chk (inb (γ6 0 18) 60) (ap (setA γ6 8 (γ6 0 18) ((γ6 8 (γ6 0 18)) + 1)) fun γ12 => chk (inb r5 66000) (ap (setA γ12 25 r5 (γ6 8 (γ6 0 18))) fun γ13 => some (.inr r5, γ13)))))) = some z := e
  match hm : f_M_make (tkS δ) 3 k (ks.headD (-1)) 1, e with
  | some (.inl er, δ'), e =>
    rw [hm] at w
    have e : some ((.inl er, δ') : Res) = some z := e
    cases e
    rcases w with ⟨_, γ', q, _⟩ | ⟨hH, γ', q, _⟩
    · cases q
    · cases q
      exact Or.inr ⟨hH, rfl⟩
  | some (.inr r5, δ6), e =>
    rw [hm] at w
    rcases w with ⟨hH, γ', q, fr, c40, c20, c21, c22, c23, c24, c26, c27, _, _, _⟩ | ⟨hH, γ', q, _⟩
    · cases q
      have e2 := (chk_e (chk_e (chk_e e).2).2).2
      have e3 := (chk_e e2).2
      have e4 : some ((.inr (tkS δ 0 40), setA (setA δ6 8 (δ6 0 18) ((δ6 8 (δ6 0 18)) + 1)) 25 (tkS δ 0 40) (δ6 8 (δ6 0 18))) : Res) = some z := e3
      cases e4
      have g18 : δ6 0 18 = δ 0 18 := by rw [fr 0 18 (by omega) (by omega) (by omega)]; exact e18
      have s : ∀ (j : Nat) (q : Int), (j = 25 → q ≠ δ 0 40) → (j = 8 → q ≠ δ 0 18) → setA (setA δ6 8 (δ6 0 18) ((δ6 8 (δ6 0 18)) + 1)) 25 (tkS δ 0 40) (δ6 8 (δ6 0 18)) j q = δ6 j q := fun j q r1 r2 => by
        rw [stA, if_neg (by omega), stA, if_neg (by omega)]
      rw [e40] at c20 c21 c24 c26 c27 xc ⊢
      have xs := xc.1.2 _ rfl
      rw [e40] at s
      refine Or.inl ⟨hH, _, rfl, ⟨xs, by rw [s 20 _ (by omega) (by omega)]; exact c20⟩, fun j q r1 r2 r3 => ?_, by rw [s 0 40 (by omega) (by omega)]; omega, by rw [s 21 _ (by omega) (by omega)]; exact c21, by rw [s 24 _ (by omega) (by omega)]; exact c24, by rw [s 26 _ (by omega) (by omega)]; exact c26, by rw [s 27 _ (by omega) (by omega)]; exact c27⟩
      rw [s j q (by omega) (by omega)]
      exact fr j q r1 (by omega) (by omega)
    · cases q
