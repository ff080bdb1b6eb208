/-! equality: atoms -/
theorem nmF_ag {b b' : Int → Int} {L : Int} (e : ∀ k, 0 ≤ k → k < L → b' k = b k) : ∀ (n : Nat) (p x : Int), 0 ≤ p → nmF b' L n p x = nmF b L n p x
  | 0, _, _, _ => rfl
  | n + 1, p, x, hp => by
    unfold nmF
    by_cases q : L ≤ p
    · rw [if_pos q, if_pos q]
    · rw [if_neg q, if_neg q, e p hp (by omega)]
      by_cases q2 : dgB (b p) = 0
      · rw [if_pos q2, if_pos q2]
      · rw [if_neg q2, if_neg q2]
        exact nmF_ag e n (p + 1) _ (by omega)
/-- the reference reads a number as the class does -/
theorem pq_num {α : Type} {o : Option α} {Q : α → Res → Prop} {γ : St} {E : Nat → St → Int → Int → Option Res} {x44 : St → Int → Option Res} : ∀ (n m : Nat) (x k : Int), k ≤ γ 0 1 → γ 0 8 = deF (γ 1) (γ 0 1) m k → pq o (x44 γ (nmF (γ 1) (γ 0 1) m k x)) Q → pq o (f_M_atom_L15 E x44 n γ x k) Q := by
  intro n
  induction n with
  | zero => intro m x k _ _ _; exact pq_nr
  | succ n ih =>
    intro m x k hk e h
    unfold f_M_atom_L15
    have b := (deF_b (b := γ 1) (L := γ 0 1) m k hk).1
    refine pq_ir (fun q => ?_) (fun q => ?_)
    · have e2 : nmF (γ 1) (γ 0 1) m k x = x := by
        cases m with
        | zero => rfl
        | succ m =>
          unfold nmF
          by_cases q1 : γ 0 1 ≤ k
          · rw [if_pos q1]
          · rw [if_neg q1]
            by_cases q2 : dgB (γ 1 k) = 0
            · rw [if_pos q2]
            · have := (deF_b (b := γ 1) (L := γ 0 1) (m + 1) k hk).2.2 (by omega) (by omega) q2
              exfalso; omega
      rw [e2] at h
      exact h
    · refine pq_cr (fun i1 => pq_cr (fun _ => pq_cr (fun i2 => pq_cr (fun i3 => pq_ar (pq_cr (fun _ => ?_))))))
      cases m with
      | zero => exfalso; have : γ 0 8 = k := e; omega
      | succ m =>
        unfold deF at e
        unfold nmF at h
        by_cases q1 : γ 0 1 ≤ k
        · rw [if_pos q1] at e; exfalso; omega
        · rw [if_neg q1] at e h
          by_cases q2 : dgB (γ 1 k) = 0
          · rw [if_neg (fun r => r q2)] at e; exfalso; omega
          · rw [if_pos q2] at e
            rw [if_neg q2, wr_id (z := x * 10) (by rw [show x * 10 = 10 * x by omega]; exact i1), wr_id (z := x * 10 + γ 1 k) (by rw [show x * 10 = 10 * x by omega]; exact i2), wr_id (z := x * 10 + γ 1 k - 48) (by rw [show x * 10 = 10 * x by omega]; exact i3)] at h
            refine ih m _ (k + 1) (by omega) e ?_
            rw [show 10 * x + γ 1 k - 48 = x * 10 + γ 1 k - 48 by omega]
            exact h
theorem taS_o (γ : St) (c v : Int) {j : Nat} {k : Int} (h6 : j = 6 → k ≠ 12 ∧ k ≠ 9) (h52 : j = 52 → k ≠ γ 6 9) (h4 : j ≠ 4 ∨ k ≠ 4) (h2 : j < 38 ∨ 41 < j ∨ k ≠ γ 4 4) : taS γ c v j k = γ j k := by
  show (if _ then _ else _) = _
  rw [if_neg (by omega), if_neg (by omega), if_neg (by omega), caS_o _ _ _ _ h4 h2]
section ATOM
variable {N d : Int} {E : Nat → St → Int → Int → Option Res} {K : Int → St → Option Res} {R : St → St → Prop}
/-- both take an atom -/
theorem pq_tat {i c v k : Int} {f : Nat} {γ δ δ1 : St} (h0 : XeI N 8 d i γ δ) (hc : kdM c = k) (hk : 0 ≤ k ∧ k ≤ 2) (wh : whK (δ 0 19 - δ 4 (δ 0 18)) (δ 0 18) k v) (t0 : tK δ ≠ 0) (t3 : tK δ ≠ 3) (mv : Mv (tkS δ) δ1) (l1 : LxR N (nxS γ) δ1) (ro : pc (f_Er_readOperand γ) (fun z => z = (1, nxS (taS γ c v)))) (cont : ∀ (f' : Nat) (γ' : St) (i' r : Int) (δ' : St), XmR N d i' γ δ γ' δ' r → pq (f_Er_readRightSide_L57 f' γ' 1 i') (K r δ') (OuR R)) : pq (f_Er_readRightSide_L57 f γ 1 i) (bndT (f_M_make δ1 k v (-1) 1) K) (OuR R) := by
  have ⟨w1, w2, w3, w4, w5, w6, w7⟩ := h0
  have lx : LX δ := w1.1.1.1.1
  have mv0 := (Mv.tk0 lx).tr mv
  have x := (XS.nil w1.2.2.1).mv mv0
  have ⟨⟨b1, b2, b3, b4⟩, ⟨h1, h2⟩, _⟩ := x
  have ⟨k1, k2, k3, k4, k5⟩ := b1
  have lx1 := k1.1
  have x1 := lx1.1
  have x5 := lx1.2.1
  have p0 := XS.p0 w1.2.2.1
  have lt := Mv.nz lx t0
  have m2 := mv.2.2
  have d40 : δ1 0 40 = δ 0 40 := mv0.2.1 0 40 (by omega)
  have n3 : clw k = 0 := by unfold clw; rw [if_neg (by omega)]
  have w := wp_both (w_make (a0 := k) (a1 := v) (a2 := -1) (ks := []) lx1 (by omega) k1.2.1 (by omega) p0.1 h1 h2 (fun y hy => by cases hy)) (w_mk0 (a0 := k) (a1 := v) x n3 ⟨fun q => rfl, fun q => by omega, fun q => by omega, fun q => by omega, fun q => by omega⟩ wh (by omega) p0)
  have ⟨c1, c2, c3, ⟨g1, g2, g3, g4⟩, ⟨g5, g6, g7⟩⟩ := w1
  have e44 : γ 4 4 = δ 0 40 := c2.1.1
  cases f with
  | zero => exact pq_nl
  | succ n =>
    rw [lp_or n γ i w1.lp (by omega)]
    refine pq_brT w (fun e δ' t => ?_) (fun rx δ' t => ?_)
    · rcases t.1 with ⟨_, γ', e, _⟩ | ⟨t3, _⟩
      · cases e
      · exfalso
        have : hMx (δ1 27) [] = 1 := rfl
        omega
    · have t2 := t.2
      rcases t.1 with ⟨hH2, γ', e, fr, c40, c20, c21, c22, c23, c24, c26, c27, _, _, _⟩ | ⟨t1, γ', e, _⟩
      · cases e
        refine pq_lps ro ?_
        have xs : XS δ δ' [δ1 0 40] := t2.1.2 _ rfl
        have s := w1.st (γ1 := taS γ c v) t0 t3 (fun j q r => taS_o γ c v (by omega) (by omega) (by omega) (by omega))
        have o : ∀ (j : Nat) (q : Int), j ≤ 3 ∨ 13 ≤ j ∧ j ≤ 37 → nxS (taS γ c v) j q = nxS γ j q := fun j q r => by
          have o1 := taS_o γ c v (j := 1) (k := 6) (by omega) (by omega) (by omega) (by omega)
          have o2 := taS_o γ c v (j := j) (k := q) (by omega) (by omega) (by omega) (by omega)
          unfold nxS
          rw [stA, stA, o1, o2]
        have l : LxR N (nxS (taS γ c v)) δ' := l1.fr (fun j q r => o j q (by omega)) (fun q _ _ => o 1 q (by omega)) (o 2 8 (by omega)) (funext fun q => fr 1 q (by omega) (by omega) (by omega)) (fun q r => fr 0 q (by omega) (by omega) (by omega))
        have dc : DcR N (δ' 0 19) (nxS (taS γ c v)) δ' := c1.xp l (fun j q r => by rw [nxS_o _ (by omega), taS_o γ c v (by omega) (by omega) (by omega) (by omega)]) (fun j q r => by
          rw [fr j q (by omega) (by omega) (by omega)]
          exact mv0.2.1 j q (by omega))
        have n6 : ∀ q, nxS (taS γ c v) 6 q = taS γ c v 6 q := fun q => nxS_o _ (by omega)
        have p9 : taS γ c v 6 9 = γ 6 9 + 1 := by
          show (if _ then _ else _) = _
          rw [if_neg (by omega), if_pos ⟨rfl, rfl⟩]
        have p12 : taS γ c v 6 12 = 0 := by
          show (if _ then _ else _) = _
          rw [if_pos ⟨rfl, rfl⟩]
        have p6 : ∀ q, q ≠ 9 → q ≠ 12 → taS γ c v 6 q = γ 6 q := fun q r1 r2 => taS_o γ c v (by omega) (by omega) (by omega) (by omega)
        have p52 : taS γ c v 52 (γ 6 9) = 1 := by
          show (if _ then _ else _) = _
          rw [if_neg (by omega), if_neg (by omega), if_pos ⟨rfl, rfl⟩]
        have nw : taS γ c v 38 (δ 0 40) = c ∧ taS γ c v 39 (δ 0 40) = v ∧ taS γ c v 40 (δ 0 40) = 0 ∧ taS γ c v 41 (δ 0 40) = -2 := by
          unfold taS caS
          simp [e44]
        have w4 : taS γ c v 4 4 = γ 4 4 + 1 := by
          show (if _ then _ else _) = _
          rw [if_neg (by omega), if_neg (by omega), if_neg (by omega)]
          show (if _ then _ else _) = _
          rw [if_pos ⟨rfl, rfl⟩]
        have pt : PtR (nxS (taS γ c v)) δ' := by
          rw [d40] at c20 c21 c24 c26
          refine c2.add (fun j q1 q2 q q3 => by rw [nxS_o _ (by omega)]; exact taS_o γ c v (by omega) (by omega) (by omega) (by omega)) (by rw [nxS_o _ (by omega)]; exact w4) (fun j q1 q2 q3 q4 q5 q q6 => by rw [fr j q (by omega) (by omega) (by omega)]; exact mv0.2.1 j q (by omega)) (by omega) ⟨?_, ?_, ⟨[], ?_, ?_⟩⟩
          · rw [nxS_o _ (by omega), nw.1, c20]; exact hc
          · rw [nxS_o _ (by omega), nw.2.1, c21]
          · rw [c26]; show δ 0 40 + 1 - (δ 0 40 + 1 - δ 0 40) = δ 0 40; omega
          · rw [nxS_o _ (by omega), nw.2.2.1]; rfl
        refine cont n _ (i + 1) _ δ' ⟨⟨dc, pt, xs.1.1, ⟨by rw [n6, p6 14 (by omega) (by omega)]; exact g1, by rw [n6, p6 10 (by omega) (by omega)]; exact g2, by omega, by rw [s.2.2]; omega⟩, by rw [n6, p6 8 (by omega) (by omega)]; exact g5, by rw [n6, p9]; omega, by rw [n6, n6, p6 8 (by omega) (by omega), p6 11 (by omega) (by omega)]; exact g7⟩, by rw [n6, p12], ?_, ⟨by rw [n6, p6 8 (by omega) (by omega)], by rw [n6, p9]⟩, ?_, xs⟩
        · intro j q q1 q2 q3 q4 q5 q6
          rw [nxS_o _ (by omega), taS_o γ c v (by omega) (fun r => by have := q6 r; omega) (by omega) (by
            by_cases r : 38 ≤ j ∧ j ≤ 41
            · have := q4 r.1 r.2; omega
            · omega)]
        · rw [nxS_o _ (by omega), p52, c27]; rfl
      · cases e
theorem ro_num {γ : St} (h10 : γ 6 10 ≤ 40) (h9 : γ 6 9 < 512) (hl : γ 1 6 + 1 < γ 1 5) (k : γ 14 (γ 1 6) = 3) : pc (f_Er_readOperand γ) (fun z => z = (1, nxS (taS γ 3 (γ 16 (γ 1 6))))) := by
  unfold f_Er_readOperand
  rw [if_pos h10]
  refine pc_b kind_pc (fun r γ' e => ?_)
  cases e
  rw [k, if_neg (show ¬ (3 : Int) = 2 by decide), if_pos rfl]
  refine pc_b item_pc (fun r γ' e => ?_)
  cases e
  refine pc_b (takeAtom_pc h9 hl) (fun r γ' e => ?_)
  cases e
  exact pc_s rfl
theorem ro_tru {γ : St} {c v : Int} (h10 : γ 6 10 ≤ 40) (h9 : γ 6 9 < 512) (hl : γ 1 6 + 1 < γ 1 5) (k : γ 14 (γ 1 6) = c) (hc : c = 40 ∧ v = 1 ∨ c = 41 ∧ v = 0) : pc (f_Er_readOperand γ) (fun z => z = (1, nxS (taS γ c v))) := by
  unfold f_Er_readOperand
  rw [if_pos h10]
  refine pc_b kind_pc (fun r γ' e => ?_)
  cases e
  rw [k, if_neg (show ¬ c = 2 by omega), if_neg (show ¬ c = 3 by omega), if_neg (show ¬ c = 4 by omega), if_neg (show ¬ c = 16 by omega), if_neg (show ¬ c = 28 by omega), if_neg (show ¬ c = 32 by omega), if_neg (show ¬ c = 35 by omega), if_neg (show ¬ c = 36 by omega)]
  have tt : ∀ c' v', c' = c → v' = v → pc (bndN (f_Er_takeAtom γ c' v') fun r γ' => some (r, γ')) (fun z => z = (1, nxS (taS γ c v))) := fun c' v' e1 e2 => by
    subst e1; subst e2
    exact pc_b (takeAtom_pc h9 hl) (fun r γ' e => by cases e; exact pc_s rfl)
  by_cases q : c = 40
  · rw [if_pos q]; exact tt 40 1 q.symm (by omega)
  · rw [if_neg q, if_pos (show c = 41 by omega)]; exact tt 41 0 (by omega) (by omega)
end ATOM
