/-! equality: the program's loop -/
theorem PnR.r0 {N : Int} {γ δ δ' : St} (h : PnR N γ δ) (p : PgR N γ δ') (d : ∀ (j : Nat) (k : Int), j ≠ 0 → δ' j k = δ j k) (d0 : ∀ k, k = 18 ∨ k = 30 ∨ k = 31 ∨ k = 40 → δ' 0 k = δ 0 k) : PnR N γ δ' := by
  have ⟨_, nt, eqt, pt, fl, sz⟩ := h
  have dr : ∀ j : Nat, j ≠ 0 → δ' j = δ j := fun j q => funext fun k => d j k q
  have d18 := d0 18 (by omega)
  have d30 := d0 30 (by omega)
  have d31 := d0 31 (by omega)
  have er : ∀ w, rfo w δ' = rfo w δ := fun w => funext fun n => funext fun i => funext fun c => rfo_agree n i c (fun k _ _ => ⟨d 20 k (by omega), d 21 k (by omega), fun _ => rfl⟩)
  refine ⟨p, ?_, ?_, pt.fr (fun _ _ _ _ => rfl) rfl (fun j r1 r2 _ _ _ k => d j k (by omega)) (d0 40 (by omega)), ?_, ?_⟩
  · unfold NtR at nt ⊢
    rw [d18, dr 4 (by omega), dr 5 (by omega), dr 6 (by omega), dr 7 (by omega)]
    exact nt
  · unfold EqT EqE at eqt ⊢
    rw [d30, d31, dr 15 (by omega), dr 16 (by omega), dr 17 (by omega), dr 18 (by omega), dr 19 (by omega)]
    exact eqt
  · unfold FlA FlN SeN at fl ⊢
    rw [d18, dr 4 (by omega), dr 7 (by omega), dr 12 (by omega), dr 16 (by omega), dr 17 (by omega), dr 18 (by omega), dr 19 (by omega), dr 20 (by omega), dr 21 (by omega), dr 22 (by omega), dr 23 (by omega), dr 24 (by omega)]
    exact fl
  · unfold SzR nP0 nP1 at sz ⊢
    rw [d18, er, er, dr 4 (by omega), dr 7 (by omega), dr 17 (by omega), dr 19 (by omega)]
    exact sz
theorem PnR.pk {N : Int} {γ δ : St} (h : PnR N γ δ) : PnR N γ (pkS δ) := h.r0 h.1.pk (fun j k q => pkS_o δ j k (by omega)) (fun k q => pkS_o δ 0 k (by omega))
theorem pq_bH {α : Type} {c : Option (Int × St)} {m : Option Res} {K : Int → St → Option α} {h : St → Int → Int → Option (Int × St)} {K' : Int → St → Option (Int × St)} {R : Int × St → Res → Prop} {Q : α → Int × St → Prop} (hR : pq c m R) (kt : ∀ r γ' e δ', R (r, γ') (.inl e, δ') → pq (K r γ') (h δ' e.1 e.2) Q) (k : ∀ r γ' x δ', R (r, γ') (.inr x, δ') → pq (K r γ') (K' x δ') Q) : pq (bndN c K) (bndH m h K') Q := fun y z e1 e2 => by
  match hc : c, hm : m, e1, e2 with
  | some (r, γ'), some (.inl (a, b), δ'), e1, e2 => exact kt r γ' (a, b) δ' (hR _ _ rfl rfl) y z e1 e2
  | some (r, γ'), some (.inr x, δ'), e1, e2 => exact k r γ' x δ' (hR _ _ rfl rfl) y z e1 e2
theorem w_rdN {γ : St} (h : TopI γ) : wp (rdN γ) (BdP γ) := by
  unfold rdN
  refine wp_bnd (w_readHead h) (fun r γ1 q => ?_)
  rcases q with q | q
  · exact wp_ite (fun _ => wp_some (Or.inl ⟨rfl, q.2.1, q.2.2⟩)) (fun c => absurd q.1 c)
  · obtain ⟨q0, q1, q2, q3, q4, q5, q6, q7, q8⟩ := q
    have q1 : NI γ1 := q1
    have q4 : γ1 1 7 = γ 1 7 := q4
    have q6 : γ1 3 9 = γ 3 9 := q6
    have q7 : γ1 4 10 = γ 4 10 := q7
    have q8 : γ1 29 (γ 3 9) = γ 4 10 := q8
    refine wp_ite (fun c => absurd (q0.symm.trans c) (by decide)) (fun _ => wp_mono (w_readBody q1 (by rw [q6, q8, q7])) (fun z p => ?_))
    rcases p with p | p
    · exact Or.inl ⟨p.1, p.2.1, q2.tr p.2.2⟩
    · exact Or.inr ⟨p.1, p.2.1, q2.tr p.2.2.1, by rw [p.2.2.2.1, q4], by rw [p.2.2.2.2, q6]⟩
theorem L49_s {e101 : St → Option (Int × St)} {n : Nat} {γ : St} {x : Int} (hx : x ≤ 59) : f_S_read_L49 e101 (n + 1) γ 1 x = bndN (rdN γ) (fun r γ' => if r = 0 then f_S_read_b93 (f_S_read_L49 e101 n) e101 γ' x else bndN (f_Tk_kindNow γ') fun r44 γ45 => if r44 = 0 then f_S_read_b93 (f_S_read_L49 e101 n) e101 γ45 x else f_S_read_b94 (f_S_read_L49 e101 n) e101 γ45 x 1) := by
  rw [f_S_read_L49, if_neg (show ¬ (1 : Int) = 0 by decide), if_neg (show ¬ 59 < x by omega)]
  unfold rdN
  rw [bN_N]
  congr 1
  funext r γ'
  by_cases q : r = 0
  · rw [if_pos q, if_pos q, bN_s, if_pos rfl]
  · rw [if_neg q, if_neg q]
theorem pq_rdL {N c : Int} {γ0 δ0 : St} {e101 x113 : St → Option (Int × St)} {Q : Int × St → Int × St → Prop} (bad : ∀ γ δ, γ 1 7 ≠ 0 → FrX γ0 γ → MoI c δ → δ 0 49 = -1 → Rf δ0 δ → pq (e101 γ) (f_M_read_h δ (γ 1 7) (γ 1 8)) Q) (fin : ∀ γ δ, PnR N γ δ → TopI γ → FrX γ0 γ → RsI c δ → Rf δ0 δ → pq (e101 γ) (x113 δ) Q) : ∀ (n n2 : Nat) (γ δ : St) (x : Int), PnR N γ δ → TopI γ → FrX γ0 γ → MoI c δ → δ 0 49 = -1 → TpW δ → Z0 δ → Rf δ0 δ → x = δ 0 18 → pq (f_S_read_L49 e101 n γ 1 x) (f_M_read_L102 x113 n2 δ) Q := by
  intro n
  induction n with
  | zero => intro n2 γ δ x _ _ _ _ _ _ _ _ _; exact pq_nl
  | succ n ih =>
    intro n2 γ δ x h ht hf hm h49 t hz hr hx
    cases n2 with
    | zero => exact pq_nr
    | succ n2 =>
      have c39 : γ 3 9 = δ 0 18 := h.1.2.2.1.1
      have t59 := ht.2.1
      have b93 : ∀ γ' (m : Option (Int × St)), pq (e101 γ') m Q → pq (f_S_read_b93 (f_S_read_L49 e101 n) e101 γ' x) m Q := fun γ' m q => by
        unfold f_S_read_b93 f_S_read_b94
        refine pq_cl (fun _ => ?_)
        cases n with
        | zero => exact pq_nl
        | succ n => rw [read_L0 (by omega)]; exact q
      rw [L49_s (by omega), f_M_read_L102]
      refine pq_bH (pq_andl (pq_and (pq_node h t) (w_node t).pc) (w_rdN ht).pc) (fun r γ' e δ' hh => ?_) (fun r γ' y δ' hh => ?_)
      · obtain ⟨⟨h1, h2⟩, h3⟩ := hh
        obtain ⟨e1, e2, e3, e4⟩ := h1.er
        rw [if_pos e1, ← e2, ← e3]
        have rf : Rf δ δ' := h2.1
        have m := hm.rf h49 rf
        refine b93 γ' _ (bad γ' δ' (by rw [e2]; exact e4) ?_ m.1 m.2 (hr.tr rf))
        rcases h3 with h3 | h3
        · exact hf.tr h3.2.2
        · exact hf.tr h3.2.2.1
      · obtain ⟨⟨h1, h2⟩, h3⟩ := hh
        obtain ⟨e1, pn⟩ := h1.go
        rw [if_neg (by rw [e1]; decide)]
        have rf : Rf δ δ' := h2.1
        have m := hm.rf h49 rf
        obtain ⟨t', e18, l5⟩ := h2.2 y rfl
        have t' : TpW δ' := t'
        have e18 : δ' 0 18 = δ 0 18 + 1 := e18
        have mv := Mv.pk0 t'.1.1
        have m2 := m.1.rf m.2 mv.re
        have t2 := t'.mv mv
        have z0 : Z0 (pkS δ') := hz.fr (fun k q1 q2 q3 => by rw [mv.2.1 0 k (by omega)]; exact rf.1 0 k (by omega) (by omega))
        have r2 : Rf δ0 (pkS δ') := (hr.tr rf).tr mv.re
        have p18 : pkS δ' 0 18 = δ' 0 18 := mv.2.1 0 18 (by omega)
        have tf : TopI γ' ∧ FrX γ0 γ' := by
          rcases h3 with h3 | h3
          · have k : r = 0 := h3.1; exfalso; omega
          · exact ⟨h3.2.1, hf.tr h3.2.2.1⟩
        refine pq_bl kind_pc (fun r3 γ3 e => ?_)
        cases e
        refine pq_er (pkM_eq t'.1.1) ?_
        have sg := LexR.sg pn.1.1.1 (k := 0) (by decide)
        rw [show sgC 0 = 0 by decide] at sg
        by_cases q : tK δ' = 0
        · rw [if_pos (sg.2 q), if_neg (by rw [q]; decide)]
          exact b93 _ _ (fin γ' (pkS δ') pn.pk tf.1 tf.2 ⟨m2.1, m2.2, t2, z0, by have := t.1.2.1; omega⟩ r2)
        · rw [if_neg (fun k => q (sg.1 k)), if_pos q]
          unfold f_S_read_b94
          exact pq_cl (fun _ => ih n2 γ' (pkS δ') (x + 1) pn.pk tf.1 tf.2 m2.1 m2.2 t2 z0 r2 (by omega))
