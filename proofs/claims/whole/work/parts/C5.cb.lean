/-! equality: the inputs of a call -/
/-- an input is read; ks: those before -/
def CaI (N d i k : Int) (γ0 δ0 γ δ : St) (ks : List Int) (a : Int) : Prop := XpR N (d + 1) i γ δ ∧ γ 6 12 = 0 ∧ FcX γ0 γ ∧ (γ 6 8 = γ0 6 8 + 1 ∧ γ 6 9 = γ0 6 9 + 1) ∧ topK γ = 43 ∧ (γ 49 (γ0 6 8) = k ∧ γ 50 (γ0 6 8) = ks.length ∧ γ 51 (γ0 6 8) + 1 = hMx (δ 27) ks) ∧ γ 52 (γ0 6 9) = δ 27 a ∧ XS δ0 δ (ks ++ [a]) ∧ δ0 0 5 - δ0 0 40 + 1 ≤ δ 0 5 - δ 0 40
theorem CaI.pk {N d i k a : Int} {γ0 δ0 γ δ : St} {ks : List Int} (h : CaI N d i k γ0 δ0 γ δ ks a) : CaI N d i k γ0 δ0 γ (pkS δ) ks a := by
  have ⟨h1, h2, h3, h4, h5, ⟨h6, h7, h8⟩, h9, h10, h11⟩ := h
  have o := pkS_o δ
  have m := Mv.pk0 h1.1.1.1.1
  have m2 := m.2.2
  exact ⟨h1.pk, h2, h3, h4, h5, ⟨h6, h7, by rw [h8]; exact (hMx_agree (fun z _ => o 27 z (by omega))).symm⟩, by rw [o 27 a (by omega)]; exact h9, h10.mv m, by rw [o 0 40 (by omega)]; omega⟩
section CALL
variable {N d : Int} {E : Nat → St → Int → Int → Option Res} {K : Int → St → Option Res} {R : St → St → Prop}
theorem pq_callL {γ0 δ0 : St} {k i0 : Int} (hB : XpB N d i0 γ0 δ0) (hk : 0 ≤ k ∧ k < δ0 0 18) (b8 : 0 ≤ γ0 6 8 ∧ γ0 6 8 ≤ 10 * d + 8) (b9 : 0 ≤ γ0 6 9 ∧ γ0 6 9 ≤ 10 * d + 8) (hd : 0 ≤ d ∧ d ≤ 40) (hE : d < 40 → LvE N E 0 (d + 1)) (cont : ∀ (f' : Nat) (γ' : St) (i' r : Int) (δ' : St), XmC N d i' γ0 δ0 γ' δ' r → pq (f_Er_readRightSide_L57 f' γ' 1 i') (K r δ') (OuR R)) : ∀ (n : Nat) (z : Bool) (f : Nat) (γ : St) (i a : Int) (δ : St) (ks : List Int), CaI N d i k γ0 δ0 γ δ ks a → NxT z 0 (γ 14 (γ 1 6)) → pq (Go z f γ i) (bndT (f_M_call_L19 E (f_M_call_b60 E) n δ k d ((ks ++ [a]).headD (-1)) a) K) (OuR R) := by
  intro n
  induction n with
  | zero => intro z f γ i a δ ks _ _; exact pq_nr
  | succ n ih =>
    intro z f γ i a δ ks m nx
    have lx : LexR N γ δ := m.1.1.1.1
    unfold f_M_call_L19
    rw [bT_N]
    refine pq_er (pkM_eq lx.1) ?_
    rw [bT_I]
    have mp := m.pk
    have ⟨h1, h2, h3, ⟨h4, h4b⟩, h5, ⟨h6, h7, h8⟩, h9, h10, h11⟩ := mp
    have lp : LexR N γ (pkS δ) := h1.1.1.1
    have rt : rankK (topK γ) < 1 := by rw [h5]; decide
    have c5 := lp.sg (k := 41) (by decide)
    have c8 := lp.sg (k := 44) (by decide)
    have s5 : sgC 41 = 5 := rfl
    have s8 : sgC 44 = 8 := rfl
    have tp := pk_tK lx.1
    have hfl : pq (some (0, flS γ 1)) (some ((.inl (1, sk (pkS δ)), pkS (pkS δ)) : Res)) (OuR R) := pq_some (OuR.no (flS_7 γ 1) (by rw [flS_8]; exact lp.2.2.2.2.symm) (by decide))
    have w : γ 6 8 - 1 = γ0 6 8 := by omega
    have w9 : γ 6 9 - 1 = γ0 6 9 := by omega
    have hba := h10.hb a (by simp)
    have e44 : γ 4 4 = pkS δ 0 40 := h1.2.1.1.1
    have f44 : γ0 4 4 = δ0 0 40 := hB.2.1.1.1
    have n40 := h10.1.2.2.1
    refine pq_ir (fun q => ?_) (fun q => ?_)
    · by_cases q41 : tK (pkS δ) = 41
      · have kc : γ 14 (γ 1 6) = 5 := c5.2 q41
        have zf := nx.f (by rw [kc]; decide)
        have cp := cl_pc (E := E) hB.2.2.1 h10 (by simp) hk q41
        have l2 := lp.lt (by omega) (by omega)
        have eH := hMx_app (h := pkS δ 27) hba.1 ks
        have t51 : tiS γ 51 (γ 6 8 - 1) = max (γ 51 (γ0 6 8)) (γ 52 (γ0 6 9)) := by
          show (if _ then _ else _) = _
          rw [if_pos ⟨rfl, rfl⟩, w, w9]
        refine pq_brT cp (fun e δ' t => ?_) (fun rx δ' t => ?_)
        · rcases t with ⟨_, δ2, e2, _⟩ | ⟨hH, e2⟩
          · cases e2
          · have e2 : (Sum.inl e : (Int × Int) ⊕ Int) = .inl (3, sk (tkS (pkS δ))) := e2
            cases e2
            refine pq_clo h1 h2 nx (by omega) rt (fun q => by rw [zf] at q; cases q) (fun _ => by rw [kc]; exact clo_cl h1.1.1.2 l2 (by omega) h5) (fun y hy => by rcases hy with ⟨_, e⟩ | ⟨_, e⟩ <;> rw [e] <;> simp) (fun _ n' r' γ' e => ?_)
            rw [t51] at e
            rcases e with ⟨e1, _⟩ | ⟨e1, e⟩
            · exfalso; omega
            · cases e
              intro y z e1 e2
              rw [lp_0 _ _ _ e1]
              have tk := h1.1.1.1.tk2 (by omega) (by omega)
              have o1 : ∀ j k, j = 1 ∨ j = 15 → nxS (ccS (tiS γ)) j k = nxS γ j k := fun j k q => by
                have a1 : ∀ j k, j = 1 ∨ j = 15 → ccS (tiS γ) j k = γ j k := fun j k q => by
                  show (if _ then _ else _) = _
                  rw [if_neg (by omega), if_neg (by omega), if_neg (by omega), if_neg (by omega), caS_o _ _ _ _ (by omega) (by omega), tiS_o γ (by omega) (by omega)]
                unfold nxS
                rw [stA, stA, a1 1 6 (by omega), a1 j k q]
              exact pq_some (OuR.no (flS_7 _ _) (by rw [flS_8, o1 1 6 (by omega), o1 15 _ (by omega)]; exact tk.2.2.2.2.symm) (by decide)) _ z rfl e2
        · rcases t with ⟨hH, δ2, e2, ⟨xs, d20⟩, fr, d40, d21, d24, d26, d27⟩ | ⟨_, e2⟩
          · cases e2
            refine pq_clo h1 h2 nx (by omega) rt (fun q => by rw [zf] at q; cases q) (fun _ => by rw [kc]; exact clo_cl h1.1.1.2 l2 (by omega) h5) (fun y hy => by rcases hy with ⟨_, e⟩ | ⟨_, e⟩ <;> rw [e] <;> simp) (fun _ n' r' γ' e => ?_)
            rw [t51] at e
            rcases e with ⟨e1, e⟩ | ⟨e1, _⟩
            · cases e
              have ⟨c1, c2, c3, ⟨g1, g2, g3, g4⟩, ⟨g5, g6, g7⟩⟩ := h1
              have t8 : tiS γ 6 8 = γ 6 8 := tiS_o γ (by omega) (by omega)
              have t9 : tiS γ 6 9 = γ0 6 9 := by
                show (if _ then _ else _) = _
                rw [if_neg (by omega), if_neg (by omega), if_pos ⟨rfl, rfl⟩, w9]
              have t44 : tiS γ 4 4 = γ 4 4 := tiS_o γ (by omega) (by omega)
              have t49 : tiS γ 49 (γ0 6 8) = k := by rw [tiS_o γ (by omega) (by omega)]; exact h6
              have t50 : tiS γ 50 (γ0 6 8) = ks.length + 1 := by
                show (if _ then _ else _) = _
                rw [if_neg (by omega), if_pos ⟨rfl, by omega⟩, w, h7]
              have cc : ∀ (j : Nat) (q : Int), (j = 6 → q ≠ 8 ∧ q ≠ 9 ∧ q ≠ 10) → (j = 52 → q ≠ γ0 6 9) → (j ≠ 4 ∨ q ≠ 4) → (j < 38 ∨ 41 < j ∨ q ≠ γ 4 4) → (j ≠ 50 ∧ j ≠ 51 ∨ q ≠ γ0 6 8) → ccS (tiS γ) j q = γ j q := fun j q r1 r2 r3 r4 r5 => by
                show (if _ then _ else _) = _
                rw [if_neg (by omega), if_neg (by rw [t9]; omega), if_neg (by omega), if_neg (by omega), caS_o _ _ _ _ r3 (by rw [t44]; omega), tiS_o γ (by rw [w]; omega) (by omega)]
              have s := h1.st (γ1 := ccS (tiS γ)) (by omega) (by omega) (fun j q r => cc j q (by omega) (by omega) (by omega) (by omega) (by omega))
              have l : LxR N (nxS (ccS (tiS γ))) δ' := s.1.1.fr (fun _ _ _ => rfl) (fun _ _ _ => rfl) rfl (funext fun q => fr 1 q (by omega) (by omega) (by omega)) (fun q r => fr 0 q (by omega) (by omega) (by omega))
              have c9 : ccS (tiS γ) 6 9 = γ0 6 9 + 1 := by
                show (if _ then _ else _) = _
                rw [if_pos ⟨rfl, rfl⟩, t9]
              have c8' : ccS (tiS γ) 6 8 = γ0 6 8 := by
                show (if _ then _ else _) = _
                rw [if_neg (by omega), if_neg (by omega), if_pos ⟨rfl, rfl⟩, t8, w]
              have c10 : ccS (tiS γ) 6 10 = d := by
                show (if _ then _ else _) = _
                rw [if_neg (by omega), if_neg (by omega), if_neg (by omega), if_pos ⟨rfl, rfl⟩, tiS_o γ (by omega) (by omega)]; omega
              have c52 : ccS (tiS γ) 52 (γ0 6 9) = max (γ 51 (γ0 6 8)) (γ 52 (γ0 6 9)) + 1 := by
                show (if _ then _ else _) = _
                rw [if_neg (by omega), if_pos ⟨rfl, t9.symm⟩, t8, t51]
              have c44 : ccS (tiS γ) 4 4 = γ 4 4 + 1 := by
                show (if _ then _ else _) = _
                rw [if_neg (by omega), if_neg (by omega), if_neg (by omega), if_neg (by omega)]
                show (if _ then _ else _) = _
                rw [if_pos ⟨rfl, rfl⟩, t44]
              have nw : ccS (tiS γ) 38 (γ 4 4) = 43 ∧ ccS (tiS γ) 39 (γ 4 4) = k ∧ ccS (tiS γ) 40 (γ 4 4) = ks.length + 1 ∧ ccS (tiS γ) 41 (γ 4 4) = -2 := by
                unfold ccS caS
                simp [t44, t8, w, t49, t50]
              rw [e44] at nw
              have pt : PtR (nxS (ccS (tiS γ))) δ' := by
                refine c2.add (fun j q1 q2 q q3 => by rw [nxS_o _ (by omega)]; exact cc j q (by omega) (by omega) (by omega) (by omega) (by omega)) (by rw [nxS_o _ (by omega)]; exact c44) (fun j q1 q2 q3 q4 q5 q q6 => by rw [fr j q (by omega) (by omega) (by omega)]; exact tkS_o (pkS δ) j q (by omega)) d40 ⟨?_, ?_, ⟨ks ++ [a], ?_, ?_⟩⟩
                · rw [nxS_o _ (by omega), nw.1, d20]; rfl
                · rw [nxS_o _ (by omega), nw.2.1, d21]
                · rw [d26, show pkS δ 0 40 + 1 - (pkS δ 0 40 + 1 - δ0 0 40) = δ0 0 40 by omega]
                  exact h10.2.1.2.agree (fun y hy => by
                    have := h10.2.1.2.mem y hy
                    rw [fr 26 y (by omega) (by omega) (by omega)]; exact tkS_o (pkS δ) 26 y (by omega))
                · rw [nxS_o _ (by omega), nw.2.2.1]; simp
              have n6 : ∀ q, nxS (ccS (tiS γ)) 6 q = ccS (tiS γ) 6 q := fun q => nxS_o _ (by omega)
              have dc : DcR N (δ' 0 19) (nxS (ccS (tiS γ))) δ' := s.1.xp l (fun _ _ _ => rfl) (fun j q r => fr j q (by omega) (by omega) (by omega))
              refine cont n' _ (i + 1) _ δ' ⟨⟨dc, pt, xs.1.1, by rw [n6, cc 6 14 (by omega) (by omega) (by omega) (by omega) (by omega)]; exact g1, by rw [n6, c10], by omega, by rw [s.2.2]; omega⟩, ⟨by rw [n6, cc 6 12 (by omega) (by omega) (by omega) (by omega) (by omega)]; exact h2, by omega⟩, ?_, ⟨by rw [n6, c8'], by rw [n6, c9]⟩, ?_, xs, d20⟩
              · intro j q q1 q2 q3 q4 q5 q6
                rw [nxS_o _ (by omega), cc j q (by omega) (fun r => by have := q6 r; omega) (by omega) (by
                  by_cases r : 38 ≤ j ∧ j ≤ 41
                  · have := q4 r.1 r.2; omega
                  · omega) (by
                  by_cases r : 48 ≤ j ∧ j ≤ 51
                  · have := q5 r.1 r.2; omega
                  · omega)]
                exact h3 j q q1 q2 q3 q4 q5 q6
              · rw [nxS_o _ (by omega), c52, d27, eH]; omega
            · exfalso; omega
          · cases e2
      · unfold f_M_call_b60
        rw [must_n lp.1 q41]
        show pq _ (some ((.inl (1, sk (pkS δ)), pkS (pkS δ)) : Res)) _
        refine pq_clo h1 h2 nx (by omega) rt (fun _ => hfl) (fun _ => clo_no h1.1.1.2 (by omega) (by rw [h5]; decide) (by
          rw [h5]
          refine ⟨by omega, by omega, by omega, fun r => ?_⟩
          rcases r.2 with r | r
          · exact q (by rw [← tp]; exact c8.1 r)
          · exact q41 (c5.1 r))) (fun y hy => by rw [hy]; simp) (fun _ n' r' γ' e => ?_)
        cases e
        intro y z e1 e2
        rw [lp_0 _ _ _ e1]
        exact hfl _ z rfl e2
    · have q44 : tK (pkS δ) = 44 := by rw [tp]; omega
      have kc : γ 14 (γ 1 6) = 8 := c8.2 q44
      have zf := nx.f (by rw [kc]; decide)
      have l2 := lp.lt (by omega) (by omega)
      rw [bT_N]
      refine pq_er (tkM_eq lp.1) ?_
      refine pq_clo h1 h2 nx (by omega) rt (fun q => by rw [zf] at q; cases q) (fun _ => by rw [kc]; exact clo_cm l2 (by omega) h5) (fun y hy => by rw [hy]; simp) (fun _ n' r' γ' e => ?_)
      cases e
      simp only [bT_T, bT_C, ap]
      have ⟨c1, c2, c3, ⟨g1, g2, g3, g4⟩, ⟨g5, g6, g7⟩⟩ := h1
      have t8 : tiS γ 6 8 = γ 6 8 := tiS_o γ (by omega) (by omega)
      have t9 : tiS γ 6 9 = γ0 6 9 := by
        show (if _ then _ else _) = _
        rw [if_neg (by omega), if_neg (by omega), if_pos ⟨rfl, rfl⟩, w9]
      have t51 : tiS γ 51 (γ0 6 8) = max (γ 51 (γ0 6 8)) (γ 52 (γ0 6 9)) := by
        show (if _ then _ else _) = _
        rw [if_pos ⟨rfl, w.symm⟩, w, w9]
      have t50 : tiS γ 50 (γ0 6 8) = ks.length + 1 := by
        show (if _ then _ else _) = _
        rw [if_neg (by omega), if_pos ⟨rfl, by omega⟩, w, h7]
      have go : ∀ (j : Nat) (q : Int), (j = 6 → q ≠ 12 ∧ q ≠ 13) → (j = 48 → q ≠ γ0 6 8) → gbS (tiS γ) 43 j q = tiS γ j q := fun j q r1 r2 => by
        show (if _ then _ else _) = _
        rw [if_neg (by omega), if_neg (by rw [t8]; omega)]
      have gt : ∀ (j : Nat) (q : Int), (j = 6 → q ≠ 9 ∧ q ≠ 12 ∧ q ≠ 13) → (j = 48 ∨ j = 50 ∨ j = 51 → q ≠ γ0 6 8) → gbS (tiS γ) 43 j q = γ j q := fun j q r1 r2 => by
        rw [go j q (by omega) (by omega), tiS_o γ (by omega) (by omega)]
      have s := h1.st (γ1 := gbS (tiS γ) 43) (by omega) (by omega) (fun j q r => gt j q (by omega) (by omega))
      have n6 : ∀ q, nxS (gbS (tiS γ) 43) 6 q = gbS (tiS γ) 43 6 q := fun q => nxS_o _ (by omega)
      have a12 : gbS (tiS γ) 43 6 12 = 1 := by
        show (if _ then _ else _) = _
        rw [if_pos ⟨rfl, by omega⟩]
      have a13 : gbS (tiS γ) 43 6 13 = 1 := by
        show (if _ then _ else _) = _
        rw [if_pos ⟨rfl, by omega⟩]
      have a48 : gbS (tiS γ) 43 48 (γ0 6 8) = 43 := by
        show (if _ then _ else _) = _
        rw [if_neg (by omega), if_pos ⟨rfl, by rw [t8]; omega⟩]
      have a8 : nxS (gbS (tiS γ) 43) 6 8 = γ0 6 8 + 1 := by rw [n6, gt 6 8 (by omega) (by omega)]; omega
      have a9 : nxS (gbS (tiS γ) 43) 6 9 = γ0 6 9 := by rw [n6, go 6 9 (by omega) (by omega), t9]
      have xp : XpR N (d + 1) (i + 1) (nxS (gbS (tiS γ) 43)) (tkS (pkS δ)) := ⟨s.1, c2.tk (fun j q r => gt j q (by omega) (by omega)), s.2.1, ⟨by rw [n6, gt 6 14 (by omega) (by omega)]; exact g1, by rw [n6, gt 6 10 (by omega) (by omega)]; exact g2, by omega, by rw [s.2.2]; omega⟩, by omega, by omega, by omega⟩
      have tpk : topK (nxS (gbS (tiS γ) 43)) = 43 := by
        unfold topK
        rw [a8, nxS_o _ (by omega), show γ0 6 8 + 1 - 1 = γ0 6 8 by omega, a48]
      have f1 : FcX γ0 (nxS (gbS (tiS γ) 43)) := by
        intro j q q1 q2 q3 q4 q5 q6
        rw [nxS_o _ (by omega), gt j q (by omega) (by
          by_cases r : 48 ≤ j ∧ j ≤ 51
          · have := q5 r.1 r.2; omega
          · omega)]
        exact h3 j q q1 q2 q3 q4 q5 q6
      refine pq_nest xp (by rw [n6, a12]; decide) hd (fun hd2 => ?_)
      have ent : XeI N 0 (d + 1) (i + 1) (nxS (gbS (tiS γ) 43)) (tkS (pkS δ)) := ⟨xp, by rw [n6, a12], fun _ => by rw [n6, a13]; decide, fun q => by omega, Or.inr (by rw [tpk]; decide), by omega, by omega⟩
      refine hE hd2 R _ n' _ _ (i + 1) ent (fun z2 f2 γ2 i2 a2 δ2 m2 nx2 => ?_)
      have ⟨y1, y2, y3, ⟨y4, y5⟩, y6, y7⟩ := m2
      have t2 := h10.mv (Mv.tk0 lp.1)
      have xa := XS.app (ks := ks) t2 y7
      refine pq_cr (fun _ => pq_cr (fun _ => ?_))
      have s0 : ∀ (j : Nat) (q : Int), j ≠ 23 → setA δ2 23 a a2 j q = δ2 j q := fun j q r => by rw [stA, if_neg (by omega)]
      have e23 : setA δ2 23 a a2 23 a = a2 := by rw [stA, if_pos ⟨rfl, rfl⟩]
      rw [e23]
      have d40' := tkS_o (pkS δ) 0 40 (by omega)
      have mem := h10.2.1.2.mem
      have n4 : nxS (gbS (tiS γ) 43) 4 4 = γ 4 4 := by rw [nxS_o _ (by omega), gt 4 4 (by omega) (by omega)]
      have n2 := y7.1.2.2.1
      have sl := y7.1.2.2.2
      have tk5 := (Mv.tk0 lp.1).2.2
      have e27 : ∀ y ∈ ks ++ [a], δ2 27 y = pkS δ 27 y := fun y hy => by
        have := mem y hy
        rw [y7.fx.1 27 y (by omega) (by omega) (by omega), tkS_o (pkS δ) 27 y (by omega)]
      have hd1 : (ks ++ [a]).headD (-1) = (ks ++ [a] ++ [a2]).headD (-1) := head_app.symm
      rw [hd1]
      have r48 : ∀ j : Nat, 48 ≤ j → j ≤ 51 → γ2 j (γ0 6 8) = nxS (gbS (tiS γ) 43) j (γ0 6 8) := fun j r1 r2 => y3 j _ (by omega) (by omega) (by omega) (by omega) (by omega) (by omega)
      refine ih z2 f2 γ2 i2 a2 (setA δ2 23 a a2) (ks ++ [a]) ⟨?_, y2, f1.tr y3 (by omega) (by omega) (by omega), ⟨by omega, by omega⟩, ?_, ⟨?_, ?_, ?_⟩, ?_, xa, ?_⟩ nx2
      · have ⟨g1, g2, g3, g4⟩ := y1
        have l : LxR N γ2 (setA δ2 23 a a2) := g1.1.fr (fun _ _ _ => rfl) (fun _ _ _ => rfl) rfl (funext fun q => s0 1 q (by omega)) (fun q _ => s0 0 q (by omega))
        exact ⟨g1.xp l (fun _ _ _ => rfl) (fun j q r => s0 j q (by omega)), g2.fr (fun _ _ _ _ => rfl) rfl (fun j _ _ _ r _ q => s0 j q r) (s0 0 40 (by omega)), xa.1.1, g4⟩
      · unfold topK
        rw [y4, a8, show γ0 6 8 + 1 - 1 = γ0 6 8 by omega, r48 48 (by omega) (by omega), nxS_o _ (by omega)]
        exact a48
      · rw [r48 49 (by omega) (by omega), nxS_o _ (by omega), gt 49 _ (by omega) (by omega)]; exact h6
      · rw [r48 50 (by omega) (by omega), nxS_o _ (by omega), go 50 _ (by omega) (by omega), t50]; simp
      · rw [r48 51 (by omega) (by omega), nxS_o _ (by omega), go 51 _ (by omega) (by omega), t51]
        have e1 : hMx (setA δ2 23 a a2 27) (ks ++ [a]) = hMx (pkS δ 27) (ks ++ [a]) := hMx_agree (fun y hy => by rw [s0 27 y (by omega)]; exact e27 y hy)
        rw [e1, hMx_app (h := pkS δ 27) hba.1 ks]; omega
      · rw [s0 27 _ (by omega), ← y6, a9]
      · rw [s0 0 5 (by omega), s0 0 40 (by omega)]; omega
/-- a call -/
def CaE (N : Int) (E : Nat → St → Int → Int → Option Res) (d : Int) : Prop := ∀ (R : St → St → Prop) (K : Int → St → Option Res) (f : Nat) (γ δ : St) (i k : Int), XpB N d i γ δ → tK δ = 40 → 0 ≤ k ∧ k < δ 0 18 → 0 ≤ γ 6 8 ∧ γ 6 8 ≤ 10 * d + 8 → 0 ≤ γ 6 9 ∧ γ 6 9 ≤ 10 * d + 8 → 0 ≤ d ∧ d ≤ 40 → (∀ (f' : Nat) (γ' : St) (i' r : Int) (δ' : St), XmC N d i' γ δ γ' δ' r → pq (f_Er_readRightSide_L57 f' γ' 1 i') (K r δ') (OuR R)) → pq (f_Er_readRightSide_L57 f (cpS γ k) 1 (i + 1)) (bndT (E 9 δ k d) K) (OuR R)
theorem pq_call (hE : 0 ≤ d → d < 40 → LvE N E 0 (d + 1)) : ∀ (R : St → St → Prop) (K : Int → St → Option Res) (f : Nat) (γ δ : St) (i k : Int), XpB N d i γ δ → tK δ = 40 → 0 ≤ k ∧ k < δ 0 18 → 0 ≤ γ 6 8 ∧ γ 6 8 ≤ 10 * d + 8 → 0 ≤ γ 6 9 ∧ γ 6 9 ≤ 10 * d + 8 → 0 ≤ d ∧ d ≤ 40 → (∀ (f' : Nat) (γ' : St) (i' r : Int) (δ' : St), XmC N d i' γ δ γ' δ' r → pq (f_Er_readRightSide_L57 f' γ' 1 i') (K r δ') (OuR R)) → pq (f_Er_readRightSide_L57 f (cpS γ k) 1 (i + 1)) (bndT (f_M_call E δ k d) K) (OuR R) := fun R K f γ δ i k hB t40 hk b8 b9 hd cont => by
  have lx : LexR N γ δ := hB.1.1.1
  have ⟨u1, u2, ⟨u3, u4, u5, u6⟩, u7, ⟨u9, u10, u11⟩, u8⟩ := hB.cp (k := k) (by omega) (by omega) b8.1 b9.1
  unfold f_M_call
  rw [must_y lx.1 t40]
  show pq _ (bndT (bndT (f_M_nest (tkS δ) d) _) K) _
  simp only [bT_T]
  refine pq_nest u1 (by rw [u5]; decide) hd (fun hd2 => ?_)
  have ent : XeI N 0 (d + 1) (i + 1) (cpS γ k) (tkS δ) := ⟨u1, u5, fun _ => by rw [u6]; decide, fun q => by omega, Or.inr (by rw [u7]; decide), by omega, by omega⟩
  refine hE hd.1 hd2 R _ f _ _ (i + 1) ent (fun z2 f2 γ2 i2 a2 δ2 m2 nx2 => ?_)
  have ⟨y1, y2, y3, ⟨y4, y5⟩, y6, y7⟩ := m2
  have x := y7.pre (Mv.tk0 lx.1)
  have lt := Mv.nz lx.1 (show tK δ ≠ 0 by omega)
  have sl := y7.1.2.2.2
  have d40 := tkS_o δ 0 40 (by omega)
  have n2 := y7.1.2.2.1
  have r48 : ∀ j : Nat, 48 ≤ j → j ≤ 51 → γ2 j (γ 6 8) = cpS γ k j (γ 6 8) := fun j r1 r2 => y3 j _ (by omega) (by omega) (by omega) (by omega) (by omega) (by omega)
  have h48 : cpS γ k 48 (γ 6 8) = 43 := by
    have := u7
    unfold topK at this
    rw [u3, show γ 6 8 + 1 - 1 = γ 6 8 by omega] at this
    exact this
  refine pq_callL hB hk b8 b9 hd (hE hd.1) cont FU z2 f2 γ2 i2 a2 δ2 [] ⟨y1, y2, u2.tr y3 (by omega) (by omega) (by omega), ⟨by omega, by omega⟩, ?_, ⟨?_, ?_, ?_⟩, ?_, x, by omega⟩ nx2
  · unfold topK
    rw [y4, u3, show γ 6 8 + 1 - 1 = γ 6 8 by omega, r48 48 (by omega) (by omega)]
    exact h48
  · rw [r48 49 (by omega) (by omega), u9]
  · rw [r48 50 (by omega) (by omega), u10]; rfl
  · rw [r48 51 (by omega) (by omega), u11]; rfl
  · rw [← y6, u4]
end CALL
