/-! equality: all that stands of a program when it has been read -/
theorem NdS.co {γ : St} {f v : Int} (h : NdS γ f) (h1 : γ 4 f ≤ v) (h2 : v < γ 4 (f + 1)) : γ 12 v = -1 ∨ (0 ≤ γ 12 v ∧ γ 12 v ≤ 20000) ∧ γ 4 f + γ 12 v / 2 < v := by
  obtain ⟨t, l0, l, x, _⟩ := h
  exact (x.1.2.1 v h1 h2).1
theorem kp_b {V : Int} {G D : St} {σ : Int → Int → Int} {κ P : Int → Int} (lb : LB V G D σ κ) (pp : PpI D D 0 P) : ∀ (n : Nat) (x : Int), x < n → 0 ≤ x → x < D 0 50 → 0 ≤ κ x ∧ κ x ≤ 2 * D 38 x := by
  obtain ⟨l, ar, tb, f41, g34, ⟨κ0, kV⟩, iy, mi⟩ := lb
  intro n
  induction n with
  | zero => intro x h0 h1; exfalso; omega
  | succ n ih =>
    intro x h0 h1 h2
    have m0 := l.2.2.2.2.2.2.2.1
    by_cases q : x = 0
    · rw [q, κ0, m0.2.2]; omega
    · have ⟨p1, p2, p3, p4⟩ := (l.2.2.2.2.2.2.2.2.1 x h1 h2).2.2.1 (by omega)
      have ixo := (l.2.2.2.2.2.2.2.2.1 (D 36 x) (by omega) (by omega)).1
      have e41 := f41 _ (D 37 x) ixo.1.1 ixo.1.2 p2.1 p2.2
      rw [if_neg (by omega)] at e41
      have k := ((iy x h1 h2).2 (by omega)).1
      rw [e41] at k
      have i := ih (D 36 x) (by omega) (by omega) (by omega)
      have nd := l.nd (x := D 36 x) (by omega) (by omega)
      have sz := nd.sz
      have nv : nvN D (D 35 (D 36 x)) = D 4 (D 35 (D 36 x) + 1) - D 4 (D 35 (D 36 x)) := rfl
      obtain ⟨_, _, _, _, _, _, fv, _⟩ := nd.pt p2.1 p2.2
      have b := (pp (D 36 x) x (by omega) (by omega) h2).2.1.2
      unfold ccK at k
      unfold FlV at fv
      by_cases c : D 29 (D 37 x) = -1
      · rw [if_pos c] at k; omega
      · rw [if_neg c] at k; omega
theorem ck_o {V : Int} {G D : St} {σ : Int → Int → Int} {κ P : Int → Int} (lb : LB V G D σ κ) (pp : PpI D D 0 P) {u : Int} (u0 : 0 ≤ u) (u1 : u < V) : 0 ≤ G 59 u ∧ G 59 u ≤ 2 * u := by
  have kV := lb.2.2.2.2.2.1.2
  have v := vr_59 lb u0 (by omega)
  have l := lb.1
  have ⟨i1, i2, i3, i4⟩ := l.2.2.2.2.2.2.2.2.2 u u0 (by omega)
  have kb := kp_b lb pp ((D 42 u).toNat + 1) (D 42 u) (by omega) i1.1 i1.2
  have nd := l.nd i1.1 i1.2
  have nv : nvN D (D 35 (D 42 u)) = D 4 (D 35 (D 42 u) + 1) - D 4 (D 35 (D 42 u)) := rfl
  have co := nd.co (v := D 4 (D 35 (D 42 u)) + D 43 u) (by omega) (by omega)
  have b38 := (l.2.2.2.2.2.2.2.2.1 _ i1.1 i1.2).1.2.1
  rw [v.1]
  unfold ccK
  by_cases c : D 12 (D 4 (D 35 (D 42 u)) + D 43 u) = -1
  · rw [if_pos c]; omega
  · rw [if_neg c]; omega
theorem LB.ro {V : Int} {γ γ' δ δ' : St} {σ : Int → Int → Int} {κ : Int → Int} (h : LB V γ δ σ κ) (hd : ∀ j : Nat, 2 ≤ j → j ≤ 43 → δ' j = δ j) (h0 : ∀ k, 18 ≤ k → k ≤ 54 → k ≠ 49 → δ' 0 k = δ 0 k) (hc : ∀ j : Nat, 1 ≤ j → j < 69 → j ≠ 10 → γ' j = γ j) : LB V γ' δ' σ κ := by
  obtain ⟨l, ar, tb, f41, g34, ⟨κ0, kV⟩, iy, mi⟩ := h
  have ps : ∀ f, psN δ' f = psN δ f := fun f => by unfold psN; rw [hd 7 (by omega) (by omega), hd 19 (by omega) (by omega)]
  have pe : ∀ f, peN δ' f = peN δ f := fun f => by unfold peN; rw [hd 7 (by omega) (by omega), hd 17 (by omega) (by omega)]
  refine ⟨l.fl (fun j k q1 q2 => ?_), fun f q1 q2 => ?_, ?_, fun f e q1 q2 q3 q4 => ?_, fun v q1 q2 => ?_, ⟨κ0, by rw [h0 51 (by omega) (by omega) (by omega)]; exact kV⟩, fun y q1 q2 => ?_, fun i q1 q2 => ?_⟩
  · by_cases z : j = 0
    · subst z; exact h0 k (by omega) (by omega) (by omega)
    · rw [hd j (by omega) q1]
  · rw [h0 18 (by omega) (by omega) (by omega)] at q2
    refine ⟨fun k v1 v2 => ?_, fun k v1 v2 => ?_⟩
    · rw [hd 7 (by omega) (by omega)] at v1 v2
      rw [hd 4 (by omega) (by omega)]
      exact ((ar f q1 q2).1 k v1 v2).ro (fun j w1 w2 => hd j (by omega) (by omega))
    · rw [hd 7 (by omega) (by omega)] at v1 v2
      rw [hd 4 (by omega) (by omega)]
      exact ((ar f q1 q2).2 k v1 v2).ro (fun j w1 w2 => hd j (by omega) (by omega))
  · obtain ⟨t1, t2, t3, t4, t5⟩ := tb
    refine ⟨?_, ?_, ?_, fun g q1 q2 => (t4 g q1 (by rw [h0 18 (by omega) (by omega) (by omega)] at q2; exact q2)).rw (fun j q1 q2 k => by rw [hd j (by omega) (by omega)]), ?_⟩
    · simp only [NtR, h0 18 (by omega) (by omega) (by omega), hc 25 (by omega) (by omega) (by omega), hc 26 (by omega) (by omega) (by omega), hc 27 (by omega) (by omega) (by omega), hc 28 (by omega) (by omega) (by omega), hc 29 (by omega) (by omega) (by omega), hc 30 (by omega) (by omega) (by omega), hd 4 (by omega) (by omega), hd 5 (by omega) (by omega), hd 6 (by omega) (by omega), hd 7 (by omega) (by omega)] at t1 ⊢
      exact t1
    · simp only [EqT, EqE, hc 4 (by omega) (by omega) (by omega), hc 42 (by omega) (by omega) (by omega), hc 43 (by omega) (by omega) (by omega), hc 44 (by omega) (by omega) (by omega), hc 45 (by omega) (by omega) (by omega), hc 46 (by omega) (by omega) (by omega), hc 47 (by omega) (by omega) (by omega), h0 30 (by omega) (by omega) (by omega), h0 31 (by omega) (by omega) (by omega), hd 15 (by omega) (by omega), hd 16 (by omega) (by omega), hd 17 (by omega) (by omega), hd 18 (by omega) (by omega), hd 19 (by omega) (by omega)] at t2 ⊢
      exact t2
    · simp only [PtR, PtE, hc 4 (by omega) (by omega) (by omega), hc 38 (by omega) (by omega) (by omega), hc 39 (by omega) (by omega) (by omega), hc 40 (by omega) (by omega) (by omega), h0 40 (by omega) (by omega) (by omega), hd 20 (by omega) (by omega), hd 21 (by omega) (by omega), hd 26 (by omega) (by omega)] at t3 ⊢
      exact t3
    · intro g q1 q2
      rw [h0 18 (by omega) (by omega) (by omega)] at q2
      rw [pe, h0 30 (by omega) (by omega) (by omega), h0 31 (by omega) (by omega) (by omega), h0 40 (by omega) (by omega) (by omega), h0 19 (by omega) (by omega) (by omega), hd 7 (by omega) (by omega), hd 4 (by omega) (by omega), hd 16 (by omega) (by omega)]
      exact t5 g q1 q2
  · rw [h0 18 (by omega) (by omega) (by omega)] at q2
    rw [ps] at q3
    rw [pe] at q4
    rw [hc 41 (by omega) (by omega) (by omega), hd 20 (by omega) (by omega), hd 22 (by omega) (by omega), hd 29 (by omega) (by omega)]
    exact f41 f e q1 q2 q3 q4
  · rw [h0 19 (by omega) (by omega) (by omega)] at q2
    rw [hc 34 (by omega) (by omega) (by omega), hd 12 (by omega) (by omega)]
    exact g34 v q1 q2
  · rw [h0 50 (by omega) (by omega) (by omega)] at q2
    have h := iy y q1 q2
    simp only [LqIn, LqIp, LqPt, LqOp, LqVr, LqDf, outV, psN, peN, hd 5 (by omega) (by omega), hd 7 (by omega) (by omega), hd 17 (by omega) (by omega), hd 19 (by omega) (by omega), hd 21 (by omega) (by omega), hd 22 (by omega) (by omega), hd 23 (by omega) (by omega), hd 25 (by omega) (by omega), hd 35 (by omega) (by omega), hd 36 (by omega) (by omega), hd 37 (by omega) (by omega), hd 38 (by omega) (by omega), hd 40 (by omega) (by omega), hd 41 (by omega) (by omega), hc 8 (by omega) (by omega) (by omega), hc 25 (by omega) (by omega) (by omega), hc 26 (by omega) (by omega) (by omega), hc 28 (by omega) (by omega) (by omega), hc 34 (by omega) (by omega) (by omega), hc 37 (by omega) (by omega) (by omega), hc 38 (by omega) (by omega) (by omega), hc 39 (by omega) (by omega) (by omega), hc 41 (by omega) (by omega) (by omega), hc 42 (by omega) (by omega) (by omega), hc 45 (by omega) (by omega) (by omega), hc 46 (by omega) (by omega) (by omega), hc 47 (by omega) (by omega) (by omega), hc 54 (by omega) (by omega) (by omega), hc 55 (by omega) (by omega) (by omega), hc 56 (by omega) (by omega) (by omega), hc 57 (by omega) (by omega) (by omega), hc 58 (by omega) (by omega) (by omega), hc 59 (by omega) (by omega) (by omega), hc 60 (by omega) (by omega) (by omega), hc 61 (by omega) (by omega) (by omega), hc 62 (by omega) (by omega) (by omega)] at h ⊢
    exact h
  · rw [hd 35 (by omega) (by omega), hc 26 (by omega) (by omega) (by omega)] at q2
    rw [hc 55 (by omega) (by omega) (by omega)]
    exact mi i q1 q2
theorem CsS_ro {δ δ' : St} (hd : ∀ j : Nat, 2 ≤ j → j ≤ 43 → δ' j = δ j) (h0 : ∀ k, 18 ≤ k → k ≤ 54 → k ≠ 49 → δ' 0 k = δ 0 k) (v c : Int) : CsS δ' v c ↔ CsS δ v c := by
  have fl : FL δ δ' := fun j k q1 q2 => by
    by_cases z : j = 0
    · subst z; exact h0 k (by omega) (by omega) (by omega)
    · rw [hd j (by omega) q1]
  have ec : ∀ x c, clV δ' FU x c = clV δ FU x c := clV_fl fl FU
  simp only [CsS, RtV, PcE, outV, ec, hd 4 (by omega) (by omega), hd 5 (by omega) (by omega), hd 12 (by omega) (by omega), hd 17 (by omega) (by omega), hd 20 (by omega) (by omega), hd 21 (by omega) (by omega), hd 22 (by omega) (by omega), hd 23 (by omega) (by omega), hd 25 (by omega) (by omega), hd 29 (by omega) (by omega), hd 30 (by omega) (by omega), hd 31 (by omega) (by omega), hd 32 (by omega) (by omega), hd 33 (by omega) (by omega), hd 35 (by omega) (by omega), hd 36 (by omega) (by omega), hd 37 (by omega) (by omega), hd 38 (by omega) (by omega), hd 40 (by omega) (by omega), hd 41 (by omega) (by omega), hd 42 (by omega) (by omega), hd 43 (by omega) (by omega)]
theorem or_all {γ0 γ : St} {n : Int} (h : OrI γ0 γ n) (hn : n = γ0 0 51) : ∀ u, 0 ≤ u → u < γ0 0 51 → γ 46 u = 1 := fun u q1 q2 => by
  have z0 := zrM_nn γ
  have zz := h.2.2.1
  rcases h.2.1 u with w | w
  · exfalso
    have z1 : 1 ≤ zrM γ := by
      unfold zrM
      rw [h.1 0 51 (by omega) (by omega)]
      have one : ∀ (n : Nat), u < n → 1 ≤ cntN (γ 46) 0 0 n := by
        intro n
        induction n with
        | zero => intro h; exfalso; omega
        | succ n ih =>
          intro h
          show 1 ≤ cntN (γ 46) 0 0 n + if γ 46 (0 + (n : Int)) = 0 then 1 else 0
          by_cases q : u = n
          · rw [if_pos (by rw [show 0 + (n : Int) = u by omega]; exact w)]; have := (cntN_b (γ 46) 0 0 n).1; omega
          · have := ih (by omega)
            have : (0 : Int) ≤ if γ 46 (0 + (n : Int)) = 0 then 1 else 0 := by
              by_cases q3 : γ 46 (0 + (n : Int)) = 0
              · rw [if_pos q3]; omega
              · rw [if_neg q3]; omega
            omega
      exact one _ (by omega)
    omega
  · exact w
/-- the tables of the program -/
def TbX (G D : St) (V : Int) : Prop := (D 0 49 = D 0 18 - 1 ∧ G 3 9 = D 0 18 ∧ G 8 11 = D 0 53 ∧ G 31 (D 0 18 - 1) = D 34 (D 0 18 - 1)) ∧ (∀ v, 0 ≤ v → v < D 0 19 → G 33 v = D 14 v ∧ (D 14 v = 0 ∨ D 14 v = 1)) ∧ CgI D ∧ (∀ u c, 0 ≤ u → u < V → (EdM D u c ↔ CsS D u c)) ∧ ∀ s, 0 ≤ s → s < G 8 5 → ¬ Cy (Ed G) s
set_option maxHeartbeats 1000000 in
theorem st_of {c : Int} {γ δ γ' δ' γ6 γ9 δ3 δ5 δ7 : St} (w : RdK c γ δ γ' δ' γ6 γ9 δ3 δ5 δ7) (ty : TyA δ') (t1 : T1 0 δ') : ∃ σ κ P τ, StX (setA γ9 0 12 (γ9 3 9 - 1)) (enS (setA δ7 0 49 (δ7 0 18 - 1))) σ κ P τ (γ' 32 (δ' 0 18 - 1)) (γ6 8 5) ∧ TbX (setA γ9 0 12 (γ9 3 9 - 1)) (enS (setA δ7 0 49 (δ7 0 18 - 1))) (γ' 32 (δ' 0 18 - 1)) := by
  obtain ⟨⟨N, pn⟩, ht, rs, rsi, rm, lk⟩ := w
  obtain ⟨⟨fl, ld⟩, ⟨σ, κ, lb⟩, ⟨P, ln⟩, e811, one, ⟨s55, s34, lk18⟩, ok⟩ := lk
  obtain ⟨so, ⟨q13, rs9, sq⟩, nocy, cg, edm, o5, orr, o7⟩ := ok
  generalize hV : γ' 32 (δ' 0 18 - 1) = V at *
  have n1 : 1 ≤ δ' 0 18 := rsi.2.2.2.2
  have c39 : γ' 3 9 = δ' 0 18 := pn.1.2.2.1.1
  -- the class's rows
  have g6 : ∀ (j : Nat) (k : Int), j ≠ 0 → (j < 8 ∨ 10 ≤ j ∧ j < 54) → γ6 j k = γ' j k := fun j k q1 q2 => by rw [fl j k (by omega), stA, if_neg (by omega)]
  have G9 : ∀ (j : Nat) (k : Int), j ≠ 0 → j ≠ 10 → j < 69 → setA γ9 0 12 (γ9 3 9 - 1) j k = γ6 j k := fun j k q1 q2 q3 => by rw [stA, if_neg (by omega)]; exact so.1 j k q2 (by omega)
  have G10 : ∀ k, setA γ9 0 12 (γ9 3 9 - 1) 10 k = γ9 10 k := fun k => by rw [stA, if_neg (by omega)]
  have G75 : ∀ k, setA γ9 0 12 (γ9 3 9 - 1) 75 k = γ9 75 k := fun k => by rw [stA, if_neg (by omega)]
  generalize setA γ9 0 12 (γ9 3 9 - 1) = G at *
  have hc : ∀ j : Nat, 1 ≤ j → j < 69 → j ≠ 10 → G j = γ6 j := fun j q1 q2 q3 => funext fun k => G9 j k (by omega) q3 q2
  -- the reference's rows
  have e18 : δ7 0 18 = δ' 0 18 := by rw [o7 0 18 (by omega), o5 0 18 (by omega) (by omega) (by omega)]; exact lk18 0 18 (by omega) (by omega)
  have D7 : ∀ (j : Nat) (k : Int), (j = 0 → k ≠ 1 ∧ k ≠ 49) → j ≠ 50 → j ≠ 52 → enS (setA δ7 0 49 (δ7 0 18 - 1)) j k = δ7 j k := fun j k q1 q2 q3 => by rw [enS_o (by omega) (by omega) (by omega), stA, if_neg (by omega)]
  have D49 : enS (setA δ7 0 49 (δ7 0 18 - 1)) 0 49 = δ7 0 18 - 1 := by rw [enS_o (by omega) (by omega) (by omega), stA, if_pos ⟨rfl, rfl⟩]
  generalize enS (setA δ7 0 49 (δ7 0 18 - 1)) = D at *
  have D5 : ∀ (j : Nat) (k : Int), (j = 0 → k ≠ 1 ∧ k ≠ 49) → j < 46 → D j k = δ5 j k := fun j k q1 q2 => by rw [D7 j k q1 (by omega) (by omega)]; exact o7 j k (by omega)
  have D3 : ∀ (j : Nat) (k : Int), (j = 0 → k ≠ 1 ∧ k ≠ 49 ∧ k ≠ 67) → j < 44 → D j k = δ3 j k := fun j k q1 q2 => by rw [D5 j k (by omega) (by omega)]; exact o5 j k (by omega) (by omega) (by omega)
  have hd : ∀ j : Nat, 1 ≤ j → j ≤ 43 → D j = δ3 j := fun j q1 q2 => funext fun k => D3 j k (by omega) (by omega)
  have h0 : ∀ k, 18 ≤ k → k ≤ 54 → k ≠ 49 → D 0 k = δ3 0 k := fun k q1 q2 q3 => D3 0 k (by omega) (by omega)
  have d3 : ∀ (j : Nat) (k : Int), 1 ≤ j → j < 29 → D j k = δ' j k := fun j k q1 q2 => by rw [D3 j k (by omega) (by omega)]; exact lk18 j k (by omega) (by omega)
  have rd3 : ∀ j : Nat, 1 ≤ j → j < 29 → D j = δ' j := fun j q1 q2 => funext fun k => d3 j k q1 q2
  have ed18 : D 0 18 = δ' 0 18 := by rw [h0 18 (by omega) (by omega) (by omega)]; exact lk18 0 18 (by omega) (by omega)
  have LBG : LB V G D σ κ := lb.ro (fun j q => hd j (by omega)) h0 hc
  have kV := LBG.2.2.2.2.2.1.2
  have cs : ∀ v c, CsS D v c ↔ CsS δ3 v c := CsS_ro (fun j q => hd j (by omega)) h0
  have pp3 := ln.2.2.1
  have pp : PpI D D 0 P := by
    simp only [PpI, pN, psN, peN, nvN, hd 4 (by omega) (by omega), hd 7 (by omega) (by omega), hd 9 (by omega) (by omega), hd 17 (by omega) (by omega), hd 19 (by omega) (by omega), hd 35 (by omega) (by omega), hd 36 (by omega) (by omega), hd 37 (by omega) (by omega), hd 38 (by omega) (by omega), hd 39 (by omega) (by omega), h0 50 (by omega) (by omega) (by omega)] at pp3 ⊢
    exact pp3
  have ⟨l1, l2, l3, l4, l5, l6⟩ := ld
  have g85 : G 8 5 = γ6 8 5 := by rw [hc 8 (by omega) (by omega) (by omega)]
  have g88 : G 8 8 = V := by rw [hc 8 (by omega) (by omega) (by omega)]; exact l3
  have l := LBG.1
  have V1 : 1 ≤ V := by
    have nd := l.nd (x := 0) (Int.le_refl _) (by have := l.2.2.1; omega)
    have sz := nd.sz
    have nv : nvN D (D 35 0) = D 4 (D 35 0 + 1) - D 4 (D 35 0) := rfl
    have vv := (l.2.2.2.2.2.2.2.2.1 0 (Int.le_refl _) (by have := l.2.2.1; omega)).1.2.1
    omega
  have edG : ∀ s c, Ed G s c ↔ Ed γ6 s c := fun s c => by unfold Ed; rw [hc 55 (by omega) (by omega) (by omega), hc 56 (by omega) (by omega) (by omega), hc 57 (by omega) (by omega) (by omega)]
  have k2 : ∀ s, 0 ≤ s → s < V → G 54 s = 2 := fun s q1 q2 => by rw [hc 54 (by omega) (by omega) (by omega)]; exact ((l5 s q1 (by omega)).2.2.2.1 q2).1
  have ordX : OrdX G (γ6 8 5) := by
    have tp := (t_sort ld).pc _ sq
    have o := OrdX.of (V := V) (G := γ9) so.1 so.2.1 tp q13 (by rw [so.1 54 0 (by omega) (by omega)]; have := k2 0 (Int.le_refl _) (by omega); rw [hc 54 (by omega) (by omega) (by omega)] at this; exact this) (by omega)
    obtain ⟨a1, a2, a3, a4, a5, a6⟩ := o
    have r75 : G 75 = γ9 75 := funext G75
    refine ⟨by rw [r75]; exact a1, by rw [r75]; exact a2, by rw [r75]; exact a3, ?_, by rw [G10]; exact a5, k2 0 (Int.le_refl _) (by omega), a6.2⟩
    rw [r75]
    intro k q1 q2 c q3
    refine a4 k q1 q2 c ?_
    rw [edG] at q3
    unfold Ed at q3 ⊢
    rw [so.1 55 _ (by omega) (by omega), so.1 56 _ (by omega) (by omega), so.1 57 _ (by omega) (by omega)]
    exact q3
  -- types
  have tyw : ∀ f k, 0 ≤ f → f < D 0 18 → D 7 f ≤ k → k < D 7 (f + 1) → TyW D (D 4 f) k := fun f k q1 q2 q3 q4 => by
    rw [rd3 7 (by omega) (by omega)] at q3 q4
    rw [rd3 4 (by omega) (by omega)]
    exact (ty f q1 (by omega) k q3 q4).ro (fun j q => rd3 j (by omega) (by omega))
  have tru : ∀ f k e, 0 ≤ f → f < D 0 18 → D 7 f ≤ k → k < D 7 (f + 1) → D 19 k ≤ e → e ≤ D 17 k → D 20 e = 1 → Bl (D 21 e) := fun f k e q1 q2 q3 q4 q5 q6 q7 => by
    have nd := l.1 f q1 q2
    have sz := nd.sz
    have eq := nd.eq q3 q4
    have t5 := (LBG.2.2.1.2.2.2.2 f q1 q2).1
    have d40 : D 0 40 = δ' 0 40 := by rw [h0 40 (by omega) (by omega) (by omega)]; exact lk18 0 40 (by omega) (by omega)
    rw [d3 20 e (by omega) (by omega)] at q7
    rw [d3 21 e (by omega) (by omega)]
    exact t1 e (by omega) (by omega) q7
  have mon : ∀ (n : Nat) (f f' : Int), 0 ≤ f → f' = f + 1 + n → f' ≤ D 0 18 → D 7 (f + 1) ≤ D 7 f' := by
    intro n
    induction n with
    | zero => intro f f' q1 q2 q3; rw [q2]; simp
    | succ n ih =>
      intro f f' q1 q2 q3
      have := ih f (f' - 1) q1 (by omega) (by omega)
      have sz := (l.1 (f' - 1) (by omega) (by omega)).sz
      rw [show f' - 1 + 1 = f' by omega] at sz
      omega
  have uq : ∀ f f' k, 0 ≤ f → f < D 0 18 → 0 ≤ f' → f' < D 0 18 → D 7 f ≤ k → k < D 7 (f + 1) → D 7 f' ≤ k → k < D 7 (f' + 1) → f = f' := fun f f' k q1 q2 q3 q4 q5 q6 q7 q8 => by
    by_cases z : f < f'
    · have := mon (f' - f - 1).toNat f f' q1 (by omega) (by omega); omega
    · by_cases z2 : f' < f
      · have := mon (f - f' - 1).toNat f' f q3 (by omega) (by omega); omega
      · omega
  have tyk : ∀ k, ∃ τ : Int → Int, ∀ f, 0 ≤ f → f < D 0 18 → D 7 f ≤ k → k < D 7 (f + 1) → (∀ e, D 19 k ≤ e → e ≤ D 17 k → (D 20 e = 1 → Bl (D 21 e)) ∧ ∃ ms, Ch (D 23) (D 22 e) ms ∧ TyQ D τ (D 4 f) e ms) ∧ ∀ i, D 16 k ≤ i → i < D 16 (k + 1) → D 14 (D 4 f + D 18 i) = if D 20 (D 17 k) = 3 then D 14 (D 4 (D 21 (D 17 k)) + D 5 (D 21 (D 17 k)) + (i - D 16 k)) else τ (D 17 k) := fun k => by
    by_cases z : ∃ f, 0 ≤ f ∧ f < D 0 18 ∧ D 7 f ≤ k ∧ k < D 7 (f + 1)
    · obtain ⟨f, q1, q2, q3, q4⟩ := z
      obtain ⟨τ, a, b⟩ := tyw f k q1 q2 q3 q4
      refine ⟨τ, fun f' p1 p2 p3 p4 => ?_⟩
      rw [← uq f f' k q1 q2 p1 p2 q3 q4 p3 p4]
      exact ⟨fun e v1 v2 => ⟨tru f k e q1 q2 q3 q4 v1 v2, by obtain ⟨ms, c1, _, c3⟩ := a e v1 v2; exact ⟨ms, c1, c3⟩⟩, b⟩
    · exact ⟨fun _ => 0, fun f q1 q2 q3 q4 => absurd ⟨f, q1, q2, q3, q4⟩ z⟩
  obtain ⟨τ, hτ⟩ := Classical.axiomOfChoice tyk
  have all := or_all orr rfl
  have e51 : δ5 0 51 = D 0 51 := (D5 0 51 (by omega) (by omega)).symm
  have r48 : ∀ i, D 48 i = δ7 48 i := fun i => D7 48 i (by omega) (by omega) (by omega)
  have OR : OrR D := by
    refine ⟨fun i q1 q2 => ?_, fun v q1 q2 => ?_⟩
    · have o := orr.2.2.2.1 i q1 (by omega)
      rw [e51] at o
      rw [r48]
      refine ⟨o.1.1, fun c hc => ?_, fun j w1 w2 => by rw [r48]; exact o.2.2 j w1 w2⟩
      have h := (edm _ c o.1.1.1 (by omega)).2 ((cs _ c).1 hc)
      obtain ⟨j, j1, j2, j3⟩ := o.2.1 c h
      exact ⟨j, j1, j2, by rw [r48]; exact j3⟩
    · obtain ⟨i, i1, i2, i3⟩ := orr.2.2.2.2 v q1 (by omega) (all v q1 (by omega))
      exact ⟨i, i1, by omega, by rw [r48]; exact i3⟩
  have oneG : G 54 V = 3 ∧ G 58 V = 1 := by rw [hc 54 (by omega) (by omega) (by omega), hc 58 (by omega) (by omega) (by omega)]; exact ⟨one.1, one.2.1⟩
  refine ⟨σ, κ, P, τ, ⟨LBG, pp, ordX, ⟨g85.symm, g88.symm, by omega, l1.1, l1.2⟩, fun f k q1 q2 q3 q4 => hτ k f q1 q2 q3 q4, OR, k2, oneG, fun u q1 q2 => ck_o LBG pp q1 q2, fun i q1 q2 => ?_⟩, ⟨⟨by rw [D49, e18, ed18], ?_, ?_, ?_⟩, fun v q1 q2 => ?_, ?_, fun u c q1 q2 => ?_, fun s q1 q2 z => ?_⟩⟩
  · rw [hc 8 (by omega) (by omega) (by omega)] at q2
    rw [hc 62 (by omega) (by omega) (by omega)]
    exact (l6 i q1 q2).2
  · rw [hc 3 (by omega) (by omega) (by omega), g6 3 9 (by omega) (by omega), ed18]; exact c39
  · rw [hc 8 (by omega) (by omega) (by omega), h0 53 (by omega) (by omega) (by omega)]; exact e811
  · rw [hc 31 (by omega) (by omega) (by omega), g6 31 _ (by omega) (by omega), ed18, hd 34 (by omega) (by omega)]; exact s34.symm
  · have d19 : D 0 19 = δ' 0 19 := by rw [h0 19 (by omega) (by omega) (by omega)]; exact lk18 0 19 (by omega) (by omega)
    have vd := pn.1.2.2.2.2 v q1 (by omega)
    rw [hc 33 (by omega) (by omega) (by omega), g6 33 v (by omega) (by omega), d3 14 v (by omega) (by omega)]
    exact vd.2.2 (by omega)
  · exact cg.fr (D5 0 51 (by omega) (by omega)) (D5 0 67 (by omega) (by omega)) (fun k => D5 44 k (by omega) (by omega)) (fun k => D5 45 k (by omega) (by omega))
  · rw [cs, ← edm u c q1 q2]
    unfold EdM
    rw [show D 44 = δ5 44 from funext fun k => D5 44 k (by omega) (by omega), show D 45 = δ5 45 from funext fun k => D5 45 k (by omega) (by omega)]
  · rw [g85] at q2
    refine nocy s q1 q2 ?_
    obtain ⟨c, c1, c2⟩ := z
    have e : Ed G = Ed γ6 := funext fun s => funext fun c => propext (edG s c)
    rw [e] at c1 c2
    exact ⟨c, c1, c2⟩
