/-! equality: behind a node -/
/-- each part lies in an equation -/
theorem EqL.cover {nv nn l5 a b l P : Int} {γ : St} (h : EqL nv nn l5 a b l P γ) (hb : γ 17 (b - 1) = P - 1) {e : Int} (he : e < P) : ∀ (n : Nat) (a' : Int), a ≤ a' → a' < b → b - a' = n → γ 19 a' ≤ e → ∃ k, (a ≤ k ∧ k < b) ∧ γ 19 k ≤ e ∧ e ≤ γ 17 k := by
  intro n
  induction n with
  | zero => intro a' h1 h2 h3; exfalso; omega
  | succ n ih =>
    intro a' h1 h2 h3 h4
    by_cases q : e ≤ γ 17 a'
    · exact ⟨a', ⟨h1, h2⟩, h4, q⟩
    · by_cases q2 : a' + 1 < b
      · have s := h.2.1 a' h1 q2
        exact ih (a' + 1) (by omega) q2 (by omega) (by omega)
      · have e2 : a' = b - 1 := by omega
        rw [e2] at q
        exfalso; omega
theorem NdP.call {γ : St} {f v0 v1 a b l0 l P0 P e : Int} (h : NdP γ f v0 v1 a b l0 l P0 P) (h0 : P0 ≤ e) (h1 : e < P) (h3 : γ 20 e = 3) : 0 ≤ γ 21 e ∧ γ 21 e < f := by
  have ⟨_, _, ab, el, _, _, _, _, p1, _, p3, _⟩ := h
  obtain ⟨k, k1, k2, k3⟩ := el.cover p3 h1 (b - a).toNat a (Int.le_refl _) ab.2 (by omega) (by omega)
  obtain ⟨ms, _, _, _, _, wh, _⟩ := (el.1 k k1.1 k1.2).1.2.2.2.2.1 e k2 k3
  exact wh.2.2.1 h3
def HbR (γ δ γ3 δ3 : St) : Prop := (∀ (j : Nat) (k : Int), 30 ≤ j → j ≤ 32 → γ3 j k = γ j k) ∧ (∀ (j : Nat) (k : Int), 25 ≤ j → j ≤ 29 → k ≠ δ 0 18 → γ3 j k = γ j k) ∧ (∀ k, k < δ 0 40 → γ3 41 k = γ 41 k) ∧ (γ3 27 (δ 0 18) = δ3 6 (δ 0 18) ∧ γ3 29 (δ 0 18) = δ 0 30) ∧ HdR γ3 δ3
theorem pq_nfin {N : Int} {γ δ γ2 δ2 γ3 δ3 γ4 δ4 : St} (h : PnR N γ δ) (t : TpW δ) (bd : BdR N δ γ2 δ2 γ3 δ3) (hb : HbR γ δ γ3 δ3) (nc : NcR δ (setA γ3 7 5 (δ 0 19)) (tkS (setA δ3 7 (δ 0 18 + 1) (δ3 0 30))) γ4 δ4) : pq (bndN (f_Nr_closeNode γ4) fun r5 γ6 => if r5 = 0 then some (0, γ6) else some (1, γ6)) (f_M_node_b418 δ4) (OuR (PnR N)) := by
  obtain ⟨en, fc, ne, lt, kd, pk, dd⟩ := bd
  obtain ⟨⟨f1, f2⟩, nj, ck, k41, fla⟩ := nc
  obtain ⟨b1, b2, b3, ⟨b4, b5⟩, hd⟩ := hb
  have ⟨pg, nt, eqt, pt, fl0, sz⟩ := h
  have ⟨dc, ⟨g26, g5⟩, _, _, _⟩ := en
  have ⟨lxr, nm, nn, ⟨v1, v2, v3, v4, v5, v6⟩, vd, dp⟩ := dc
  have ⟨ew, fn, ⟨a1, a2, a3, a4⟩, h56, wd, rf, a7, a8⟩ := ne
  have ⟨j1, j2, j3, ⟨i1, i2, i3, i4, i5⟩, j5, j6, j7⟩ := nj
  have n0 := t.1.2.1
  -- frames
  have cf : ∀ (j : Nat) (k : Int), j ≠ 53 → j ≠ 41 → j ≠ 7 → γ4 j k = γ3 j k := fun j k r1 r2 r3 => by
    rw [f1 j k r1 r2 (by omega), stA, if_neg (by omega)]
  generalize hx : setA δ3 7 (δ 0 18 + 1) (δ3 0 30) = δx at *
  have x0' : ∀ (j : Nat) (k : Int), j ≠ 7 ∨ k ≠ δ 0 18 + 1 → δx j k = δ3 j k := fun j k r => by rw [← hx, stA, if_neg (by omega)]
  have df : ∀ (j : Nat) (k : Int), (j = 0 → (k < 5 ∨ 9 < k) ∧ k ≠ 42) → j ≠ 24 → j ≠ 28 → (j ≠ 7 ∨ k ≠ δ 0 18 + 1) → δ4 j k = δ3 j k := fun j k r1 r2 r3 r4 => by
    rw [f2 j k (by omega) (by omega) r3, tkS_o δx j k (by omega)]
    exact x0' j k r4
  have lx : LexR N γ3 δ3 := lxr.1
  have k1 : tK δ3 = 1 := ((lx.kw (w := 4) (by omega)).1 kd).1
  have kx : tK δx = 1 := by
    have := (tK_fr (δ := δ3) (δ' := δx) (funext fun k => x0' 1 k (by omega)) (fun k q => x0' 0 k (by omega))).1
    rw [this]; exact k1
  have lX : LxR N γ3 δx := lxr.fr (fun _ _ _ => rfl) (fun _ _ _ => rfl) rfl (funext fun k => x0' 1 k (by omega)) (fun k _ => x0' 0 k (by omega))
  have lt1 := lX.tk (by omega) (by omega)
  have hl : γ4 1 6 + 1 < γ4 1 5 := by
    rw [cf 1 6 (by omega) (by omega) (by omega), cf 1 5 (by omega) (by omega) (by omega)]
    exact lx.lt (by omega) (by omega)
  have e39 : γ4 3 9 = δ 0 18 := by rw [cf 3 9 (by omega) (by omega) (by omega), v1, a1]
  rw [a1] at v3 v4 v5 v6 g26 g5
  have d18 : δ4 0 18 = δ 0 18 := i1
  have e29 : γ4 29 (δ 0 18) = δ 0 30 := by rw [cf 29 _ (by omega) (by omega) (by omega)]; exact b5
  obtain ⟨⟨q10, q12⟩, qe, ql⟩ := ck.2.2.2.2
  have pt4 := ck.2.2.2.1
  have jp := j1.2.2.2.2.2.2.2.2
  have d30 : δ 0 30 < δ4 0 30 := by rw [df 0 30 (by omega) (by omega) (by omega) (by omega)]; exact lt
  have t30 := t.2.2.1.1
  -- where the node's parts lie
  have e43 : γ4 43 (δ 0 30) = δ 0 40 := by rw [(qe (δ 0 30) t30 d30).2.1]; exact jp.1
  have e44 : γ4 4 4 = δ4 0 40 := pt4.1.1
  refine pq_bl (closeN_pc e39 hl) (fun r γ' e => ?_)
  cases e
  rw [if_neg (show ¬ (1 : Int) = 0 by decide)]
  unfold f_M_node_b418
  refine pq_cr (fun _ => pq_ar (pq_some (OuR.ok ?_)))
  rw [d18, e29, e43]
  generalize hp : clF (γ4 31) γ4 (γ4 4 4 - δ 0 40).toNat (δ 0 40) (γ4 4 4 - δ 0 40 + (γ4 4 10 - δ 0 30)) = p
  generalize hv : clF (γ4 32) γ4 (γ4 4 4 - δ 0 40).toNat (δ 0 40) (γ4 28 (δ 0 18)) = v
  generalize hc5 : cnS γ4 (δ 0 18) p v = γ5
  generalize hd5 : setA δ4 0 18 (δ 0 18 + 1) = δ5
  have c5 : ∀ (j : Nat) (k : Int), γ5 j k = if j = 1 ∧ k = 6 then γ4 1 6 + 1 else if j = 23 ∧ k = γ4 24 (δ 0 18) then δ 0 18 + 1 else if j = 3 ∧ k = 9 then δ 0 18 + 1 else if j = 32 ∧ k = δ 0 18 then v else if j = 31 ∧ k = δ 0 18 then p else if j = 30 ∧ k = δ 0 18 then γ4 4 10 - δ 0 30 else γ4 j k := fun j k => by
    rw [← hc5]
    show (if _ then _ else _) = _
    rw [e29]
  have co : ∀ (j : Nat) (k : Int), (j = 1 → k ≠ 6) → j ≠ 23 → (j = 3 → k ≠ 9) → (30 ≤ j → j ≤ 32 → k ≠ δ 0 18) → γ5 j k = γ4 j k := fun j k r1 r2 r3 r4 => by
    rw [c5, if_neg (by omega), if_neg (by omega), if_neg (by omega), if_neg (by omega), if_neg (by omega), if_neg (by omega)]
  have d5 : ∀ (j : Nat) (k : Int), j ≠ 0 ∨ k ≠ 18 → δ5 j k = δ4 j k := fun j k r => by rw [← hd5, stA, if_neg (by omega)]
  have n18 : δ5 0 18 = δ 0 18 + 1 := by rw [← hd5, stA, if_pos ⟨rfl, rfl⟩]
  have e24 : γ4 24 (δ 0 18) = γ3 24 (δ 0 18) := cf 24 _ (by omega) (by omega) (by omega)
  have w28 : γ4 2 8 = γ3 2 8 := cf 2 8 (by omega) (by omega) (by omega)
  unfold HdR at hd
  rw [a1] at hd
  obtain ⟨hw, hsp, hbd, h23⟩ := hd
  have g23 : ∀ w, γ5 23 w = if w = γ3 24 (δ 0 18) then δ 0 18 + 1 else γ3 23 w := fun w => by
    rw [c5, if_neg (by omega), e24]
    by_cases q : w = γ3 24 (δ 0 18)
    · rw [if_pos ⟨rfl, q⟩, if_pos q]
    · rw [if_neg (fun r => q r.2), if_neg q, if_neg (by omega), if_neg (by omega), if_neg (by omega), if_neg (by omega), cf 23 w (by omega) (by omega) (by omega)]
  have row : ∀ j : Nat, j = 13 ∨ j = 18 ∨ j = 19 → γ5 j = γ3 j := fun j q => funext fun k => by rw [co j k (by omega) (by omega) (by omega) (by omega), cf j k (by omega) (by omega) (by omega)]
  have sp : ∀ w q m, spW γ5 w q m = spW γ3 w q m := fun w q m => by
    unfold spW
    rw [row 13 (by omega), row 18 (by omega), row 19 (by omega)]
  have r2 : ∀ k, δ5 2 k = δ3 2 k := fun k => by rw [d5 2 k (by omega), df 2 k (by omega) (by omega) (by omega) (by omega)]
  have r3 : ∀ k, δ5 3 k = δ3 3 k := fun k => by rw [d5 3 k (by omega), df 3 k (by omega) (by omega) (by omega) (by omega)]
  have r01 : δ5 0 1 = δ3 0 1 := by rw [d5 0 1 (by omega), df 0 1 (by omega) (by omega) (by omega) (by omega)]
  have r28 : γ5 2 8 = γ3 2 8 := by rw [co 2 8 (by omega) (by omega) (by omega) (by omega)]; exact w28
  have d19 : δ5 0 19 = δ3 0 19 := by rw [d5 0 19 (by omega), df 0 19 (by omega) (by omega) (by omega) (by omega)]
  have lx5 : LxR N γ5 δ5 := by
    refine lt1.fr (fun j k q => ?_) (fun k q1 q2 => ?_) ?_ (funext fun k => ?_) (fun k q => ?_)
    · rw [co j k (by omega) (by omega) (by omega) (by omega), cf j k (by omega) (by omega) (by omega), nxS_o γ3 (by omega)]
    · by_cases r : k = 6
      · subst r
        rw [c5, if_pos ⟨rfl, rfl⟩, cf 1 6 (by omega) (by omega) (by omega)]
        unfold nxS
        rw [stA, if_pos ⟨rfl, rfl⟩]
      · rw [co 1 k (by omega) (by omega) (by omega) (by omega), cf 1 k (by omega) (by omega) (by omega), nxS_o γ3 (by omega)]
    · rw [r28, nxS_o γ3 (by omega)]
    · rw [d5 1 k (by omega)]
      exact f2 1 k (by omega) (by omega) (by omega)
    · rw [d5 0 k (by omega)]
      exact f2 0 k (by omega) (by omega) (by omega)
  -- old nodes
  have olds : ∀ f, 0 ≤ f → f < δ 0 18 → (∀ j : Nat, j = 4 ∨ j = 5 ∨ j = 6 ∨ j = 7 → δ5 j f = δ j f) ∧ δ5 4 (f + 1) = δ 4 (f + 1) ∧ δ5 7 (f + 1) = δ 7 (f + 1) := fun f r1 r2 => by
    refine ⟨fun j q => ?_, ?_, ?_⟩
    · rw [d5 j f (by omega)]
      exact j3 j f (by omega) (by omega) (by omega) (by omega) (by omega) (by omega) (by omega) (by omega) (by omega)
    · rw [d5 4 _ (by omega)]
      exact j3 4 _ (by omega) (by omega) (by omega) (by omega) (by omega) (by omega) (by omega) (by omega) (by omega)
    · rw [d5 7 _ (by omega)]
      exact j3 7 _ (by omega) (by omega) (by omega) (by omega) (by omega) (by omega) (by omega) (by omega) (by omega)
  have n4 : δ5 4 (δ 0 18) = δ 0 19 ∧ δ5 4 (δ 0 18 + 1) = δ3 0 19 ∧ δ5 7 (δ 0 18) = δ 0 30 ∧ δ5 7 (δ 0 18 + 1) = δ4 0 30 := by
    refine ⟨by rw [d5 4 _ (by omega)]; exact i2, ?_, by rw [d5 7 _ (by omega)]; exact i4, by rw [d5 7 _ (by omega)]; exact i5⟩
    rw [d5 4 _ (by omega), i3, df 0 19 (by omega) (by omega) (by omega) (by omega)]
  refine ⟨⟨lx5, ⟨fun w q1 q2 q3 => ?_, fun k q1 q2 => ?_⟩, ⟨?_, ?_, ?_, ?_⟩, fun w q1 q2 => ?_, fun u q1 q2 => ?_⟩, fun f q1 q2 => ?_, ?_, ?_, fun f q1 q2 i q3 q4 => ?_, fun f q1 q2 => ?_⟩
  · rw [r28] at q2
    rw [g23] at q3 ⊢
    rw [sp, n18]
    by_cases q : w = γ3 24 (δ 0 18)
    · rw [if_pos q, show δ 0 18 + 1 - 1 = δ 0 18 by omega, r2, r3, q]
      exact ⟨by omega, hsp⟩
    · rw [if_neg q] at q3 ⊢
      have o := nn.1 w q1 q2 q3
      rw [a1] at o
      rw [r2, r3]
      exact ⟨by omega, o.2⟩
  · rw [n18] at q2
    rw [r2, r3, r01]
    by_cases q : k = δ 0 18
    · rw [q]
      refine ⟨hbd, γ3 24 (δ 0 18), by rw [r28]; exact hw, ?_⟩
      rw [g23, if_pos rfl]
    · obtain ⟨o1, w, o2, o3⟩ := nn.2 k q1 (by rw [a1]; omega)
      refine ⟨o1, w, by rw [r28]; exact o2, ?_⟩
      rw [g23, if_neg (fun r => by rw [r, h23] at o3; omega)]
      exact o3
  · rw [n18, c5, if_neg (by omega), if_neg (by omega), if_pos ⟨rfl, rfl⟩]
  · rw [d19, co 3 15 (by omega) (by omega) (by omega) (by omega), cf 3 15 (by omega) (by omega) (by omega)]; exact v2
  · rw [n18]; omega
  · rw [d19]; have := t.2.1.1; omega
  · rw [r28] at q2
    rw [n18, co 22 w (by omega) (by omega) (by omega) (by omega), cf 22 w (by omega) (by omega) (by omega)]
    have := nm.2.2 w q1 q2
    rw [a1] at this
    exact this
  · rw [d19] at q2
    have o := vd u q1 q2
    have c : ∀ j : Nat, j = 33 ∨ j = 34 ∨ j = 36 → γ5 j u = γ3 j u := fun j q => by rw [co j u (by omega) (by omega) (by omega) (by omega), cf j u (by omega) (by omega) (by omega)]
    have d : ∀ j : Nat, j = 12 ∨ j = 13 ∨ j = 14 → δ5 j u = δ3 j u := fun j q => by rw [d5 j u (by omega), df j u (by omega) (by omega) (by omega) (by omega)]
    rw [c 34 (by omega), c 36 (by omega), c 33 (by omega), d 12 (by omega), d 13 (by omega), d 14 (by omega), d19]
    exact o
  · rw [n18] at q2
    by_cases q : f = δ 0 18
    · subst q
      have c : ∀ j : Nat, 25 ≤ j → j ≤ 29 → γ5 j (δ 0 18) = γ3 j (δ 0 18) := fun j r1 r2 => by rw [co j _ (by omega) (by omega) (by omega) (by omega), cf j _ (by omega) (by omega) (by omega)]
      have d : ∀ j : Nat, j = 5 ∨ j = 6 → δ5 j (δ 0 18) = δ3 j (δ 0 18) := fun j r => by rw [d5 j _ (by omega), df j _ (by omega) (by omega) (by omega) (by omega)]
      refine ⟨⟨?_, ?_, ?_⟩, ?_, ?_, ?_⟩
      · rw [c 25 (by omega) (by omega), n4.1, v3]; exact a2
      · rw [c 26 (by omega) (by omega), d 5 (by omega)]; exact g26
      · rw [c 27 (by omega) (by omega), d 6 (by omega)]; exact b4
      · rw [c 28 (by omega) (by omega), n4.2.1, n4.1, v4, a2]
      · rw [c 29 (by omega) (by omega), n4.2.2.1]; exact b5
      · rw [n4.2.2.2, n4.2.2.1, c5, if_neg (by omega), if_neg (by omega), if_neg (by omega), if_neg (by omega), if_neg (by omega), if_pos ⟨rfl, rfl⟩, q10]
    · obtain ⟨o1, o2, o3⟩ := olds f q1 (by omega)
      have c : ∀ j : Nat, 25 ≤ j → j ≤ 32 → γ5 j f = γ j f := fun j r1 r2 => by
        rw [co j f (by omega) (by omega) (by omega) (by omega), cf j f (by omega) (by omega) (by omega)]
        by_cases r : j ≤ 29
        · exact b2 j f r1 r q
        · exact b1 j f (by omega) r2
      rw [c 25 (by omega) (by omega), c 26 (by omega) (by omega), c 27 (by omega) (by omega), c 28 (by omega) (by omega), c 29 (by omega) (by omega), c 30 (by omega) (by omega), o1 4 (by omega), o1 5 (by omega), o1 6 (by omega), o1 7 (by omega), o2, o3]
      exact nt f q1 (by omega)
  · have u30 := d5 0 30 (by omega)
    have u31 := d5 0 31 (by omega)
    refine ⟨⟨by rw [u30, co 4 10 (by omega) (by omega) (by omega) (by omega)]; exact q10, by rw [u31, co 4 12 (by omega) (by omega) (by omega) (by omega)]; exact q12⟩, fun k r1 r2' => ?_, fun i r1 r2' => ?_⟩
    · rw [u30] at r2'
      obtain ⟨w1, w2, w3, w4, w5⟩ := qe k r1 r2'
      have c : ∀ j : Nat, 42 ≤ j → j ≤ 46 → γ5 j k = γ4 j k := fun j q1 q2 => co j k (by omega) (by omega) (by omega) (by omega)
      exact ⟨by rw [c 42 (by omega) (by omega), d5 15 k (by omega)]; exact w1, by rw [c 43 (by omega) (by omega), d5 19 k (by omega)]; exact w2, by rw [c 44 (by omega) (by omega), d5 17 k (by omega)]; exact w3, by rw [c 45 (by omega) (by omega), d5 16 k (by omega)]; exact w4, by rw [c 46 (by omega) (by omega), d5 16 k (by omega), d5 16 _ (by omega)]; exact w5⟩
    · rw [u31] at r2'
      rw [co 47 i (by omega) (by omega) (by omega) (by omega), d5 18 i (by omega)]
      exact ql i r1 r2'
  · exact pt4.fr (fun j r1 r2 k => co j k (by omega) (by omega) (by omega) (by omega)) (co 4 4 (by omega) (by omega) (by omega) (by omega)) (fun j r1 r2 r3 r4 r5 k => d5 j k (by omega)) (d5 0 40 (by omega))
  · rw [n18] at q2
    by_cases q : f = δ 0 18
    · subst q
      rw [n4.2.2.1] at q3
      rw [n4.2.2.2] at q4
      rw [n4.1]
      have er := (j1.2.2.2.1.1 i q3 q4).1
      refine (fla i q3 q4).fr er (by have := j1.1; omega) (fun e r1 r2 => co 41 e (by omega) (by omega) (by omega) (by omega)) ⟨d5 17 i (by omega), d5 19 i (by omega), d5 16 i (by omega), d5 18 _ (by omega)⟩ (fun x _ _ => d5 12 x (by omega)) (fun j k _ _ _ _ => d5 j k (by omega))
    · obtain ⟨o1, o2, o3⟩ := olds f q1 (by omega)
      rw [o1 7 (by omega)] at q3
      rw [o3] at q4
      rw [o1 4 (by omega)]
      obtain ⟨m1, m2, _, l0, l, P0, P, m4, m5, nx⟩ := t.2.2.2.2.2.2.2.2 f q1 (by omega)
      have er := nx.1.2.2.2.1.1 i q3 q4
      have y := nx.1.1
      have p16 := er.1.2.1
      have p19 := er.1.2.2.2.1
      have fr : ∀ (j : Nat) (k : Int), (j = 0 → (k < 5 ∨ 9 < k) ∧ k ≠ 18 ∧ k ≠ 19 ∧ k ≠ 30 ∧ k ≠ 31 ∧ k ≠ 40 ∧ k ≠ 42) → j ≠ 13 ∧ j ≠ 28 → (j = 2 ∨ j = 3 ∨ j = 5 ∨ j = 6 ∨ j = 8 ∨ j = 9 → k < δ 0 18) → (j = 4 ∨ j = 7 → 0 < δ 0 18 ∧ k ≤ δ 0 18) → (10 ≤ j → j ≤ 14 → k < δ 0 19) → (j = 15 ∨ j = 17 ∨ j = 19 → k < δ 0 30) → (j = 16 → k ≤ δ 0 30) → (j = 18 → k < δ 0 31) → (20 ≤ j → j ≤ 27 → k < δ 0 40) → δ4 j k = δ j k := j3
      refine (fl0 f q1 (by omega) i q3 q4).fr er.1 (by omega) (fun e r1 r2' => ?_) ⟨?_, ?_, ?_, ?_⟩ (fun x r1 r2' => ?_) (fun j k r1 r2' r3' r4 => ?_)
      · rw [co 41 e (by omega) (by omega) (by omega) (by omega), k41 e (by omega), stA, if_neg (by omega)]
        exact b3 e (by omega)
      · rw [d5 17 i (by omega)]
        exact fr 17 i (by omega) (by omega) (by omega) (by omega) (by omega) (by omega) (by omega) (by omega) (by omega)
      · rw [d5 19 i (by omega)]
        exact fr 19 i (by omega) (by omega) (by omega) (by omega) (by omega) (by omega) (by omega) (by omega) (by omega)
      · rw [d5 16 i (by omega)]
        exact fr 16 i (by omega) (by omega) (by omega) (by omega) (by omega) (by omega) (by omega) (by omega) (by omega)
      · rw [d5 18 _ (by omega)]
        exact fr 18 _ (by omega) (by omega) (by omega) (by omega) (by omega) (by omega) (by omega) (by have := er.2.1; omega) (by omega)
      · rw [d5 12 x (by omega)]
        exact fr 12 x (by omega) (by omega) (by omega) (by omega) (by omega) (by omega) (by omega) (by omega) (by omega)
      · rw [d5 j k (by omega)]
        exact fr j k (by omega) (by omega) (by omega) (by omega) (by omega) (by omega) (by omega) (by omega) (by have := er.2.2; omega)
  · rw [n18] at q2
    by_cases q : f = δ 0 18
    · subst q
      have p0 : nP0 δ5 (δ 0 18) = δ 0 40 := by
        unfold nP0
        rw [n4.2.2.1, d5 19 _ (by omega)]; exact jp.1
      have p1 : nP1 δ5 (δ 0 18) = δ4 0 40 := by
        unfold nP1
        rw [n4.2.2.2, d5 17 _ (by omega)]
        have := jp.2.2.1
        omega
      have jb := jp.2.2.2.2.2.2
      rw [p0, p1, n4.2.2.2, n4.2.2.1, n4.2.1, n4.1]
      have c31 : γ5 31 (δ 0 18) = p := by rw [c5, if_neg (by omega), if_neg (by omega), if_neg (by omega), if_neg (by omega), if_pos ⟨rfl, rfl⟩]
      have c32 : γ5 32 (δ 0 18) = v := by rw [c5, if_neg (by omega), if_neg (by omega), if_neg (by omega), if_pos ⟨rfl, rfl⟩]
      have e28 : γ4 28 (δ 0 18) = δ3 0 19 - δ 0 19 := by rw [cf 28 _ (by omega) (by omega) (by omega), v4, a2]
      have d40 := t.2.2.2.2.1.1
      have ag : ∀ (w : Nat), w = 31 ∨ w = 32 → ∀ acc, clF (γ4 w) γ4 (δ4 0 40 - δ 0 40).toNat (δ 0 40) acc = rfo (γ5 w) δ5 (δ4 0 40 - δ 0 40).toNat (δ 0 40) acc := fun w hw acc => by
        rw [clF_rfo pt4 _ _ _ d40 (by omega)]
        refine (rfo_agree _ _ _ (fun k r1 r2' => ⟨d5 20 k (by omega), d5 21 k (by omega), fun r3' => ?_⟩)).symm
        have cl := j1.call r1 (by omega) r3'
        exact co w _ (by omega) (by omega) (by omega) (by omega)
      rw [c31, c32, ← hp, ← hv, e44, e28, q10, ag 31 (by omega), ag 32 (by omega)]
      exact ⟨rfl, rfl⟩
    · obtain ⟨o1, o2, o3⟩ := olds f q1 (by omega)
      obtain ⟨m1, m2, _, l0, l, P0, P, m4, m5, nx⟩ := t.2.2.2.2.2.2.2.2 f q1 (by omega)
      have ab := nx.1.2.2.1
      have np := nx.1.2.2.2.2.2.2.2.2
      have fr19 : ∀ k, k < δ 0 30 → δ5 19 k = δ 19 k := fun k r => by
        rw [d5 19 k (by omega)]
        exact j3 19 k (by omega) (by omega) (by omega) (by omega) (by omega) (by omega) (by omega) (by omega) (by omega)
      have fr17 : ∀ k, k < δ 0 30 → δ5 17 k = δ 17 k := fun k r => by
        rw [d5 17 k (by omega)]
        exact j3 17 k (by omega) (by omega) (by omega) (by omega) (by omega) (by omega) (by omega) (by omega) (by omega)
      have p0 : nP0 δ5 f = nP0 δ f := by
        unfold nP0
        rw [o1 7 (by omega)]; exact fr19 _ (by omega)
      have p1 : nP1 δ5 f = nP1 δ f := by
        unfold nP1
        rw [o3, fr17 _ (by omega)]
      have c : ∀ (j : Nat) (k : Int), 31 ≤ j → j ≤ 32 → k ≠ δ 0 18 → γ5 j k = γ j k := fun j k r1 r2' r3' => by
        rw [co j k (by omega) (by omega) (by omega) (by omega), cf j k (by omega) (by omega) (by omega)]
        exact b1 j k (by omega) (by omega)
      have q0 : nP0 δ f = P0 := np.1
      have q1' : nP1 δ f = P := by
        unfold nP1
        have := np.2.2.1
        omega
      have ag : ∀ (w : Nat), 31 ≤ w → w ≤ 32 → ∀ acc, rfo (γ5 w) δ5 (nP1 δ f - nP0 δ f).toNat (nP0 δ f) acc = rfo (γ w) δ (nP1 δ f - nP0 δ f).toNat (nP0 δ f) acc := fun w hw hw2 acc => by
        refine rfo_agree _ _ _ (fun k r1 r2' => ⟨?_, ?_, fun r3' => ?_⟩)
        · rw [d5 20 k (by omega)]
          exact j3 20 k (by omega) (by omega) (by omega) (by omega) (by omega) (by omega) (by omega) (by omega) (by omega)
        · rw [d5 21 k (by omega)]
          exact j3 21 k (by omega) (by omega) (by omega) (by omega) (by omega) (by omega) (by omega) (by omega) (by omega)
        · have cl := nx.1.call (e := k) (by omega) (by omega) r3'
          exact c w _ hw hw2 (by omega)
      rw [p0, p1, o1 7 (by omega), o3, o1 4 (by omega), o2, ag 31 (by omega) (by omega), ag 32 (by omega) (by omega), c 31 f (by omega) (by omega) q, c 32 f (by omega) (by omega) q]
      exact sz f q1 (by omega)
