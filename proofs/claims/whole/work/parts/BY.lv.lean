/-! equality: the levels of expressions -/
def tpB (lv : Nat) : Int := if lv ≤ 1 then (lv : Int) + 1 else if lv ≤ 6 then (lv : Int) else 8
theorem rankK_b (k : Int) : 0 ≤ rankK k ∧ rankK k ≤ 8 := by
  unfold rankK
  repeat (first | omega | split)
theorem tpB_m {lv : Nat} : tpB lv ≤ tpB (lv + 1) ∧ (7 ≤ lv → tpB lv = 8) := by
  unfold tpB
  refine ⟨?_, fun q => ?_⟩
  · repeat (first | omega | split)
  · rw [if_neg (by omega), if_neg (by omega)]
/-- a level begins -/
def XeI (N : Int) (lv : Nat) (d i : Int) (γ δ : St) : Prop := XpR N d i γ δ ∧ γ 6 12 = 1 ∧ (lv = 0 → γ 6 13 ≠ 0) ∧ (1 ≤ lv → γ 14 (γ 1 6) = 32 → γ 6 13 = 0) ∧ (γ 6 8 = 0 ∨ rankK (topK γ) ≤ tpB lv) ∧ (γ 6 8 ≤ 10 * d + lv ∧ γ 6 9 ≤ 10 * d + lv) ∧ 0 ≤ d ∧ d ≤ 40
theorem XeI.up {N d i : Int} {lv : Nat} {γ δ : St} (h : XeI N lv d i γ δ) (h1 : lv = 0 → γ 14 (γ 1 6) ≠ 32) : XeI N (lv + 1) d i γ δ := by
  have ⟨a, b, c, e, f, g, k⟩ := h
  have t := (tpB_m (lv := lv)).1
  refine ⟨a, b, fun q => by omega, fun q1 q2 => ?_, by omega, by omega, k⟩
  by_cases q : lv = 0
  · exact absurd q2 (h1 q)
  · exact e (by omega) q2
theorem XeI.pk {N d i : Int} {lv : Nat} {γ δ : St} (h : XeI N lv d i γ δ) : XeI N lv d i γ (pkS δ) := ⟨h.1.pk, h.2⟩
/-- a level's operand is read -/
def XmR (N d i : Int) (γ0 δ0 γ δ : St) (r : Int) : Prop := XpR N d i γ δ ∧ γ 6 12 = 0 ∧ FcX γ0 γ ∧ (γ 6 8 = γ0 6 8 ∧ γ 6 9 = γ0 6 9 + 1) ∧ γ 52 (γ0 6 9) = δ 27 r ∧ XS δ0 δ [r]
theorem XmR.pk {N d i r : Int} {γ0 δ0 γ δ : St} (h : XmR N d i γ0 δ0 γ δ r) : XmR N d i γ0 δ0 γ (pkS δ) r := ⟨h.1.pk, h.2.1, h.2.2.1, h.2.2.2.1, by rw [pkS_o δ 27 r (by omega)]; exact h.2.2.2.2.1, h.2.2.2.2.2.mv (Mv.pk0 h.1.1.1.1.1)⟩
/-- what may stand behind a level -/
def NxT (z : Bool) (lv : Nat) (c : Int) : Prop := (z = true → lv ≤ 4 ∧ rankK c = 5) ∧ (z = false → (lv ≤ 7 → c ≠ 27) ∧ (lv ≤ 6 → rankK c ≤ lv ∨ rankK c = 8 ∨ c = 34))
def LvE (N : Int) (E : Nat → St → Int → Int → Option Res) (lv : Nat) (d : Int) : Prop := ∀ (R : St → St → Prop) (K : Int → St → Option Res) (f : Nat) (γ δ : St) (i : Int), XeI N lv d i γ δ → (∀ (z : Bool) (f' : Nat) (γ' : St) (i' r : Int) (δ' : St), XmR N d i' γ δ γ' δ' r → NxT z lv (γ' 14 (γ' 1 6)) → pq (Go z f' γ' i') (K r δ') (OuR R)) → pq (f_Er_readRightSide_L57 f γ 1 i) (bndT (E lv δ d 0) K) (OuR R)
theorem lst_le {lv : Nat} {c c' : Int} (hlv : (lv : Int) = rankK c ∧ 3 ≤ rankK c ∨ (lv : Int) + 1 = rankK c ∧ rankK c ≤ 2) (rc : 0 < rankK c ∧ rankK c < 8) (h : rankK c' ≤ lv ∨ rankK c' = 8 ∨ c' = 34) : lstK c' ≤ rankK c ∨ rankK c = 5 ∧ rankK c' = 5 := by
  have b := rankK_b c'
  unfold lstK
  by_cases q : 0 < rankK c' ∧ rankK c' < 8 ∧ c' ≠ 34
  · rw [if_pos q]
    by_cases q2 : rankK c' ≤ 2 ∨ rankK c' = 5
    · rw [if_pos q2]; omega
    · rw [if_neg q2]; omega
  · rw [if_neg q]; omega
theorem sid_2 {c : Int} (h : 0 < rankK c ∧ rankK c < 8 ∧ c ≠ 34) : sidK c = 2 := by
  unfold sidK
  rw [if_neg h.2.2, if_neg (by omega)]
/-- behind a sign of two sides -/
theorem pq_bin {N d d' i a c k : Int} {lv : Nat} {n : Nat} {γ0 δ0 γ δ : St} {E : Nat → St → Int → Int → Option Res} {K : Int → St → Option Res} {R : St → St → Prop} (hE : LvE N E lv d') (p : PxI δ0) (hP : γ0 4 4 = δ0 0 40) (h9 : 0 ≤ γ0 6 9) (h : XmR N d i γ0 δ0 γ δ a) (hk : kdM c = k) (hk2 : 5 ≤ k ∧ k ≤ 21) (rc : 0 < rankK c ∧ rankK c < 8 ∧ c ≠ 34) (hlv : (lv : Int) = rankK c ∧ 3 ≤ rankK c ∨ (lv : Int) + 1 = rankK c ∧ rankK c ≤ 2) (hd' : d' = d + nestK c) (hd : 0 ≤ d' ∧ d' ≤ 40) (bw : γ0 6 8 + 1 ≤ 10 * d' + lv ∧ γ0 6 9 + 1 ≤ 10 * d' + lv) (k0 : tK δ ≠ 0) (k3 : tK δ ≠ 3)
    (cont : ∀ (z : Bool) (f' : Nat) (γ' : St) (i' r : Int) (δ' : St), XmR N d i' γ0 δ0 γ' δ' r → (z = false → γ' 14 (γ' 1 6) ≠ 27 ∧ (rankK (γ' 14 (γ' 1 6)) ≤ lv ∨ rankK (γ' 14 (γ' 1 6)) = 8 ∨ γ' 14 (γ' 1 6) = 34) ∧ ¬ (rankK c = 5 ∧ rankK (γ' 14 (γ' 1 6)) = 5)) → (z = true → rankK (γ' 14 (γ' 1 6)) = 5 ∧ (lv ≤ 4 ∨ rankK c = 5)) → pq (Go z f' γ' i') (K r δ') (OuR R)) : pq (f_Er_readRightSide_L57 n (nxS (puS γ c (if rankK c = 1 then 1 else 0))) 1 (i + 1)) (bndT (E lv (tkS δ) d' 0) fun r6 γ7 => bndT (f_M_two γ7 k a r6) K) (OuR R) := by
  have ⟨x1, x2, x3, ⟨x4, x5⟩, x6, x7⟩ := h
  have lx := x1.1.1.1.1
  have ⟨u1, u2, ⟨u3, u4, u5, u6⟩, u7, u8⟩ := x1.pu (c := c) (w := if rankK c = 1 then 1 else 0) k0 k3
  generalize nxS (puS γ c (if rankK c = 1 then 1 else 0)) = γ1 at u1 u2 u3 u4 u5 u6 u7 u8 ⊢
  have ent : XeI N lv d' (i + 1) γ1 (tkS δ) := by
    refine ⟨by rw [hd']; exact u1, u5, fun q => ?_, fun q1 q2 => ?_, Or.inr ?_, by omega, hd⟩
    · rw [u6, if_pos (by omega)]; decide
    · rw [u6, if_neg (by omega)]
    · rw [u7]
      unfold tpB
      repeat (first | omega | split)
  refine hE R _ n γ1 (tkS δ) (i + 1) ent (fun z f' γ2 i' b δ2 m2 nx => ?_)
  have ⟨y1, y2, y3, ⟨y4, y5⟩, y6, y7⟩ := m2
  have t2 := x7.mv (Mv.tk0 lx)
  have lt := Mv.nz lx k0
  have sl := y7.1.2.2.2
  have sl0 := x7.1.2.2.2
  have g8 := x1.2.2.2.2.1
  have g9 := x1.2.2.2.2.2.1
  have n2 := y7.1.2.2.1
  have n1 := t2.1.2.2.1
  have xa := XS.app (ks := []) t2 y7
  have ma := t2.2.1.2.mem a List.mem_cons_self
  have mb := y7.2.1.2.mem b List.mem_cons_self
  have e44 : γ 4 4 = δ 0 40 := x1.2.1.1.1
  have d40 : tkS δ 0 40 = δ 0 40 := tkS_o δ 0 40 (by omega)
  have s0 : ∀ (j : Nat) (q : Int), j ≠ 23 → setA δ2 23 a b j q = δ2 j q := fun j q r => by rw [stA, if_neg (by omega)]
  have g11 := x1.2.2.2.2.2.2
  have e11 : γ2 6 11 = γ 6 11 := by rw [y3 6 11 (by omega) (by omega) (by omega) (by omega) (by omega) (by omega), u2 6 11 (by omega) (by omega) (by omega) (by omega) (by omega) (by omega)]
  have tk2 : topK γ2 = c := by
    unfold topK
    rw [y4, u3, y3 48 _ (by omega) (by omega) (by omega) (by omega) (by omega) (by omega)]
    have := u7
    unfold topK at this
    rw [u3] at this
    exact this
  have h27a : δ2 27 a = δ 27 a := by
    rw [y7.fx.1 27 a (by omega) (by omega) (by omega), tkS_o δ 27 a (by omega)]
  have h52a : γ2 52 (γ0 6 9) = δ2 27 a := by
    rw [y3 52 _ (by omega) (by omega) (by omega) (by omega) (by omega) (by omega), u2 52 _ (by omega) (by omega) (by omega) (by omega) (by omega) (by omega), x6, h27a]
  have h52b : γ2 52 (γ0 6 9 + 1) = δ2 27 b := by
    rw [← y6, u4, x5]
  have hba := xa.hb a (by simp)
  have hbb := xa.hb b (by simp)
  rw [s0 27 a (by omega)] at hba
  rw [s0 27 b (by omega)] at hbb
  have sd2 : sidK (topK γ2) = 2 := by rw [tk2]; exact sid_2 rc
  have rm := rdM_2 sd2
  have e9 : γ2 6 9 = γ0 6 9 + 2 := by omega
  rw [e9, show γ0 6 9 + 2 - 2 = γ0 6 9 by omega, show γ0 6 9 + 2 - 1 = γ0 6 9 + 1 by omega, h52a, h52b] at rm
  have xp : XpR N d' i' γ2 (setA δ2 23 a b) := by
    have ⟨g1, g2, g3, g4⟩ := y1
    have l : LxR N γ2 (setA δ2 23 a b) := g1.1.fr (fun _ _ _ => rfl) (fun _ _ _ => rfl) rfl (funext fun q => s0 1 q (by omega)) (fun q _ => s0 0 q (by omega))
    exact ⟨g1.xp l (fun _ _ _ => rfl) (fun j q r => s0 j q (by omega)), g2.fr (fun _ _ _ _ => rfl) rfl (fun j _ _ _ r _ q => s0 j q r) (s0 0 40 (by omega)), xa.1.1, g4⟩
  have hp0 := XS.p0 p
  have fin : ∀ z' : Bool, (z' = false → γ2 14 (γ2 1 6) ≠ 27 ∧ lstK (γ2 14 (γ2 1 6)) ≤ rankK c ∧ (rankK (γ2 14 (γ2 1 6)) ≤ lv ∨ rankK (γ2 14 (γ2 1 6)) = 8 ∨ γ2 14 (γ2 1 6) = 34) ∧ ¬ (rankK c = 5 ∧ rankK (γ2 14 (γ2 1 6)) = 5)) → (z' = true → rankK (γ2 14 (γ2 1 6)) = 5 ∧ (lv ≤ 4 ∨ rankK c = 5)) → pq (Go z' f' γ2 i') (bndT (f_M_two δ2 k a b) K) (OuR R) := fun z' q0 q1 => by
    unfold f_M_two
    rw [bT_C]
    refine pq_cr (fun _ => ?_)
    show pq _ (bndT (bndT (f_M_make (setA δ2 23 a b) k 0 a 1) fun r3 γ4 => some (.inr r3, γ4)) K) _
    rw [bT_T]
    show pq _ (bndT (f_M_make (setA δ2 23 a b) k 0 a 1) fun r3 γ4 => K r3 γ4) _
    refine pq_op (ks := [a, b]) xa hp0 (by rw [s0 0 5 (by omega), s0 0 40 (by omega)]; omega) xp y2 (by omega) (by omega) (fun q => by rw [tk2]; exact ⟨(q0 q).1, (q0 q).2.1⟩) (fun q => by rw [tk2]; omega) (by rw [tk2, if_pos rc.2.2]; exact hk) (by unfold clw; rw [if_neg (by omega)]) ⟨fun q => by omega, fun q => by omega, fun q => by omega, fun q => rfl, fun q => by omega⟩ ⟨by omega, fun q => by omega, fun q => by omega, fun q => by omega⟩ (by rw [sd2]; rfl) ?_ ⟨by rw [e9]; show ((2 : Nat) : Int) ≤ _; omega, by simp⟩ (fun δ' xs xr hh => ?_)
    · show max (setA δ2 23 a b 27 a + 1) (max (setA δ2 23 a b 27 b + 1) 1) = _
      rw [s0 27 a (by omega), s0 27 b (by omega), rm]
      omega
    · have o : ∀ (j : Nat) (q : Int), j ≤ 3 ∨ 13 ≤ j ∧ j ≤ 37 ∨ j = 6 ∧ 10 < q → rdS γ2 j q = γ2 j q := fun j q r => rdS_o γ2 (by omega) (by omega) (by omega) (by omega)
      have et : rdS γ2 14 (rdS γ2 1 6) = γ2 14 (γ2 1 6) := by rw [o 1 6 (by omega), o 14 _ (by omega)]
      rw [s0 0 40 (by omega)] at xs hh ⊢
      have hh2 : rdS γ2 52 (γ2 6 9 - 2) = δ' 27 (δ2 0 40) := hh
      have fr : FcX γ0 (rdS γ2) := by
        intro j q q1 q2 q3 q4 q5 q6
        have w4 : 38 ≤ j → j ≤ 41 → q < γ 4 4 := fun r1 r2 => by have := q4 r1 r2; omega
        have w5 : 48 ≤ j → j ≤ 51 → q < γ 6 8 := fun r1 r2 => by have := q5 r1 r2; omega
        have w6 : j = 52 → q < γ 6 9 := fun r1 => by have := q6 r1; omega
        have base : γ2 j q = γ0 j q := by
          rw [y3 j q q1 q2 q3 (fun r1 r2 => by have := w4 r1 r2; omega) (fun r1 r2 => by have := w5 r1 r2; omega) (fun r1 => by have := w6 r1; omega), u2 j q q1 q2 q3 w4 w5 w6]
          exact x3 j q q1 q2 q3 q4 q5 q6
        rw [← base]
        have e2 : γ2 4 4 = δ2 0 40 := y1.2.1.1.1
        by_cases r : 38 ≤ j ∧ j ≤ 41
        · exact rdS_pt γ2 r (by have := w4 r.1 r.2; omega)
        · by_cases r2 : j = 52
          · subst r2
            rw [rdS_52, if_neg (by have := q6 rfl; omega)]
          · exact rdS_o γ2 (by omega) (by omega) (by omega) (by omega)
      refine cont z' f' (rdS γ2) i' _ δ' ⟨?_, by rw [o 6 12 (by omega)]; exact y2, fr, ⟨by rw [rdS_8]; omega, by rw [rdS_9, sd2]; omega⟩, ?_, xs⟩ ?_ ?_
      · rw [tk2, show d' - nestK c = d by omega] at xr
        exact xr
      · rw [← hh2, e9, show γ0 6 9 + 2 - 2 = γ0 6 9 by omega]
      · rw [et]; exact fun q => ⟨(q0 q).1, (q0 q).2.2⟩
      · rw [et]; exact q1
  cases z with
  | true => exact fin true (fun q => by cases q) (fun _ => ⟨(nx.1 rfl).2, Or.inl (nx.1 rfl).1⟩)
  | false =>
    have nf := nx.2 rfl
    have l6 : lv ≤ 7 := by omega
    have t6 : rankK (γ2 14 (γ2 1 6)) ≤ lv ∨ rankK (γ2 14 (γ2 1 6)) = 8 ∨ γ2 14 (γ2 1 6) = 34 := by
      by_cases q : lv ≤ 6
      · exact nf.2 q
      · have := rankK_b (γ2 14 (γ2 1 6)); omega
    rcases lst_le hlv ⟨rc.1, rc.2.1⟩ t6 with q | q
    · by_cases q2 : rankK c = 5 ∧ rankK (γ2 14 (γ2 1 6)) = 5
      · exact lp_doom y1 y2 q2.2 (by omega) (by rw [tk2]; exact q2.1) (fin true (fun q => by cases q) (fun _ => ⟨q2.2, Or.inr q2.1⟩))
      · exact fin false (fun _ => ⟨nf.1 l6, q, t6, q2⟩) (fun q => by cases q)
    · exact lp_doom y1 y2 q.2 (by omega) (by rw [tk2]; exact q.1) (fin true (fun q => by cases q) (fun _ => ⟨q.2, Or.inr q.1⟩))
