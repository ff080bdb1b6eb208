/-! equality: the level of unary signs -/
theorem XmR.mb {N d i r : Int} {γ0 δ0 δ1 γ δ : St} (l : Mv δ0 δ1) (h : XmR N d i γ0 δ1 γ δ r) : XmR N d i γ0 δ0 γ δ r := ⟨h.1, h.2.1, h.2.2.1, h.2.2.2.1, h.2.2.2.2.1, h.2.2.2.2.2.pre l⟩
theorem XpR.top {N d i c w : Int} {γ δ γ2 : St} (u : topK (nxS (puS γ c w)) = c) (f : FcX (nxS (puS γ c w)) γ2) (h8 : γ2 6 8 = nxS (puS γ c w) 6 8) (p8 : 0 < nxS (puS γ c w) 6 8) : topK γ2 = c := by
  rw [← u]
  unfold topK
  rw [h8, f 48 _ (by omega) (by omega) (by omega) (by omega) (by omega) (by omega)]
section UNY
variable {N d : Int} {E : Nat → St → Int → Int → Option Res}
theorem pq_whenL {γ0 δ0 : St} {K : Int → St → Option Res} {R : St → St → Prop} {i0 : Int} (h0 : XeI N 7 d i0 γ0 δ0) (cont : ∀ (f' : Nat) (γ' : St) (i' r : Int) (δ' : St), XmR N d i' γ0 δ0 γ' δ' r → γ' 14 (γ' 1 6) ≠ 27 → pq (f_Er_readRightSide_L57 f' γ' 1 i') (K r δ') (OuR R)) : ∀ (n f : Nat) (γ : St) (i r : Int) (δ : St), XmR N d i γ0 δ0 γ δ r → pq (f_Er_readRightSide_L57 f γ 1 i) (bndT (f_M_unary_L92 E (f_M_unary_b131 E) (f_M_unary_b161 E) n δ r) K) (OuR R) := by
  intro n
  induction n with
  | zero => intro f γ i r δ m; exact pq_nr
  | succ n ih =>
    intro f γ i r δ m
    unfold f_M_unary_L92
    rw [bT_N]
    have kw := m.lx.kw (w := 7) (by omega)
    refine pq_yn (w_is m.lx.1 7) (fun q => ?_) (fun q => ?_)
    · rw [if_neg (show ¬ (1 : Int) = 0 by decide), bT_N]
      have kd : γ 14 (γ 1 6) = 27 := kw.2 q
      have k1 : tK δ = 1 := q.1
      refine pq_er (tkM_eq m.pk.lx.1) ?_
      rw [tkS_pk m.lx.1, bT_N]
      cases f with
      | zero => exact pq_nl
      | succ nf =>
        rw [lp_op nf γ i m.1.lp m.2.1]
        have mt := m.tk (by omega) (by omega)
        have vr := m.1.1.2.2.2.1
        have t18 := tkS_o δ 0 18 (by omega)
        have t19 := tkS_o δ 0 19 (by omega)
        have ha : γ 28 (γ 3 9) = tkS δ 0 19 - tkS δ 4 (tkS δ 0 18) := by rw [vr.1, t18, t19, tkS_o δ 4 _ (by omega)]; exact vr.2.2.2.1
        have sl0 := m.2.2.2.2.2.1.2.2.2
        have lt := Mv.nz m.lx.1 (show tK δ ≠ 0 by omega)
        have t40 := tkS_o δ 0 40 (by omega)
        have i0' := m.1.2.2.2.1.2.2.1
        have b : pq (bndN (f_Er_readOperator_b27 γ (γ 14 (γ 1 6)) 0) fun r15 γ16 => chk (i32 (i + 1)) (f_Er_readRightSide_L57 nf γ16 r15 (i + 1))) (bndN (f_M_is (tkS δ) 8) fun r36 γ37 => bndT (if r36 = 0 then (f_M_unary_b124 E (f_M_unary_L92 E (f_M_unary_b131 E) (f_M_unary_b161 E) n) (f_M_unary_b131 E) (f_M_unary_b161 E) γ37 r r36) else (bndN (f_M_take γ37) fun _ γ39 => f_M_unary_b124 E (f_M_unary_L92 E (f_M_unary_b131 E) (f_M_unary_b161 E) n) (f_M_unary_b131 E) (f_M_unary_b161 E) γ39 r r36)) K) (OuR R) := by
          unfold f_Er_readOperator_b27
          rw [kd, if_neg (show ¬ (27 : Int) ≠ 27 by decide), if_neg (show ¬ (0 : Int) ≠ 0 by decide), bN_N]
          show pq (bndN (f_Er_readWhen γ) fun r15 γ16 => chk (i32 (i + 1)) (f_Er_readRightSide_L57 nf γ16 r15 (i + 1))) _ _
          rw [readWhen_s, bN_C]
          refine pq_cl (fun _ => ?_)
          rw [bN_N]
          unfold f_Er_readClock f_Er_readClock_b24
          simp only [bN_N, bN_I]
          refine pq_bl (step_pc m.lx (by omega) (by omega)) (fun r' γ1 e => ?_)
          cases e
          refine pq_bl kind_pc (fun r' γ1 e => ?_)
          cases e
          have kn := mt.lx.kw (w := 8) (by omega)
          refine pq_yn (w_is mt.lx.1 8) (fun q2 => ?_) (fun q2 => ?_)
          · have e2 : nxS γ 14 (nxS γ 1 6) = 28 := kn.2 q2
            have k2 : tK (tkS δ) = 1 := q2.1
            rw [if_neg (show ¬ (nxS γ 14 (nxS γ 1 6) ≠ 28) by omega), if_neg (show ¬ ((0 : Int) ≠ 0) by decide), if_neg (show ¬ ((1 : Int) = 0) by decide), bT_N]
            refine pq_bl (step_pc mt.lx (by omega) (by omega)) (fun r' γ1 e => ?_)
            cases e
            refine pq_er (tkM_eq mt.lx.1.pk) ?_
            rw [tkS_pk mt.lx.1]
            have m3 := (mt.tk (by omega) (by omega)).wk (i' := i + 1) (by omega) (by omega)
            have u18 := tkS_o (tkS δ) 0 18 (by omega)
            have u19 := tkS_o (tkS δ) 0 19 (by omega)
            have u40 := tkS_o (tkS δ) 0 40 (by omega)
            have lt2 := Mv.nz mt.lx.1 (show tK (tkS δ) ≠ 0 by omega)
            exact pq_wb36 m3 rfl (by rw [u19, u18, tkS_o (tkS δ) 4 _ (by omega)]; exact ha) h0.1.2.2.1 h0.1.2.1.1.1 (by omega) (by omega) (fun f' γ' δ' r' mm => ih f' γ' (i + 1) r' δ' mm)
          · have e2 : nxS γ 14 (nxS γ 1 6) ≠ 28 := fun r => q2 (kn.1 r)
            rw [if_pos e2, if_pos (show (1 : Int) ≠ 0 by decide), if_pos (show (0 : Int) = 0 from rfl)]
            have u18 := pkS_o (tkS δ) 0 18 (by omega)
            have u19 := pkS_o (tkS δ) 0 19 (by omega)
            have u40 := pkS_o (tkS δ) 0 40 (by omega)
            have u5 := (Mv.pk0 mt.lx.1).2.2
            exact pq_wb36 mt.pk rfl (by rw [u19, u18, pkS_o (tkS δ) 4 _ (by omega)]; exact ha) h0.1.2.2.1 h0.1.2.1.1.1 (by omega) (by omega) (fun f' γ' δ' r' mm => ih f' γ' (i + 1) r' δ' mm)
        unfold f_Er_readOperator
        rw [bN_N]
        refine pq_bl kind_pc (fun r' γ' e => ?_)
        cases e
        rw [bN_I]
        refine pq_il (fun _ => b) (fun q11 => ?_)
        rw [bN_I]
        refine pq_il (fun _ => b) (fun q8 => ?_)
        have := m.1.2.2.2.2.2.2
        exfalso; omega
    · rw [if_pos (show (0 : Int) = 0 from rfl)]
      exact cont f γ i r _ m.pk (fun e => q (kw.1 e))
theorem pq_pre {R : St → St → Prop} {K : Int → St → Option Res} {f : Nat} {γ δ : St} {i t c k : Int} (h7 : 0 ≤ d → d < 40 → LvE N E 7 (d + 1)) (h0 : XeI N 7 d i γ δ) (ht : γ 14 (γ 1 6) = t) (hc : t = 16 ∧ c = 42 ∨ (t = 28 ∨ t = 35 ∨ t = 36) ∧ c = t) (hk : kdM c = k) (cont : ∀ (f' : Nat) (γ' : St) (i' r : Int) (δ' : St), XmR N d i' γ δ γ' δ' r → γ' 14 (γ' 1 6) ≠ 27 → pq (f_Er_readRightSide_L57 f' γ' 1 i') (K r δ') (OuR R)) : pq (f_Er_readRightSide_L57 f γ 1 i) (bndT (f_M_unary_b60 E δ d k) K) (OuR R) := by
  have ⟨w1, w2, w3, w4, w5, w6, w7⟩ := h0
  have lx : LexR N γ δ := w1.1.1.1
  have tt := lx.k03 (by omega)
  have cc : c = 42 ∨ c = 28 ∨ c = 35 ∨ c = 36 := by omega
  have hn : nestK c = 1 := by rcases cc with q | q | q | q <;> subst q <;> rfl
  have hr : rankK c = 8 := by rcases cc with q | q | q | q <;> subst q <;> rfl
  have hk2 : 22 ≤ k ∧ k ≤ 25 := by rw [← hk]; rcases cc with q | q | q | q <;> subst q <;> decide
  have c34 : c ≠ 34 := by omega
  unfold f_M_unary_b60
  rw [if_neg (show ¬ k ≤ 0 by omega)]
  simp only [bT_N, bT_T, bT_r]
  refine pq_er (tkM_eq lx.1) ?_
  refine lp_pre w1 w2 w7.2 ht hc (by omega) tt.1 tt.2 (fun n' => ?_)
  have ⟨u1, u2, ⟨u3, u4, u5, u6⟩, u7, u8⟩ := w1.pu (c := c) (w := 0) tt.1 tt.2
  rw [hn] at u1
  refine pq_nest u1 (by rw [u5]; decide) w7 (fun hd => ?_)
  have g5 := w1.2.2.2.2.1
  have g9 := w1.2.2.2.2.2.1
  have g11 := w1.2.2.2.2.2.2
  have ent : XeI N 7 (d + 1) (i + 1) (nxS (puS γ c 0)) (tkS δ) := ⟨u1, u5, fun q => by omega, fun _ _ => u6, Or.inr (by rw [(tpB_m (lv := 7)).2 (by omega)]; exact (rankK_b _).2), by omega, by omega⟩
  refine h7 w7.1 hd R _ n' _ (tkS δ) (i + 1) ent (fun z f' γ2 i' r δ2 m2 nx => ?_)
  have zf : z = false := by
    cases z with
    | true => have := (nx.1 rfl).1; omega
    | false => rfl
  subst zf
  have ⟨y1, y2, y3, ⟨y4, y5⟩, y6, y7⟩ := m2
  have e11 : γ2 6 11 = γ 6 11 := by rw [y3 6 11 (by omega) (by omega) (by omega) (by omega) (by omega) (by omega), u2 6 11 (by omega) (by omega) (by omega) (by omega) (by omega) (by omega)]
  have tk2 : topK γ2 = c := XpR.top (δ := δ) (N := N) (d := d) (i := i) u7 y3 y4 (by omega)
  have sd : sidK (topK γ2) = 1 := by
    rw [tk2]; unfold sidK; rw [if_neg c34, if_pos hr]
  have x := y7.pre (Mv.tk0 lx.1)
  have lt := Mv.nz lx.1 tt.1
  have sl := y7.1.2.2.2
  have d40 := tkS_o δ 0 40 (by omega)
  have n2 := y7.1.2.2.1
  have hb := x.hb r List.mem_cons_self
  have c27 := (nx.2 rfl).1 (by omega)
  have e44 : γ 4 4 = δ 0 40 := w1.2.1.1.1
  have f44 : γ2 4 4 = δ2 0 40 := y1.2.1.1.1
  refine pq_op (z := false) (ks := [r]) x (XS.p0 w1.2.2.1) (by omega) y1 y2 (by omega) (by omega) (fun _ => ⟨c27, by rw [tk2, hr]; exact lst_8 _⟩) (fun q => by cases q) (by rw [tk2, if_pos c34]; exact hk) (by unfold clw; rw [if_neg (by omega)]) ⟨fun q => by omega, fun q => by omega, fun q => by omega, fun q => by omega, fun q => rfl⟩ ⟨by omega, fun q => by omega, fun q => by omega, fun q => by omega⟩ (by rw [sd]; rfl) ?_ ⟨by show ((1 : Nat) : Int) ≤ _; omega, by simp⟩ (fun δ' xs xr hh => ?_)
  · show max (δ2 27 r + 1) 1 = _
    rw [rdM_1 sd, y5, show nxS (puS γ c 0) 6 9 + 1 - 1 = nxS (puS γ c 0) 6 9 by omega, y6]
    omega
  · have o : ∀ (j : Nat) (q : Int), j ≤ 3 ∨ 13 ≤ j ∧ j ≤ 37 ∨ j = 6 ∧ 10 < q → rdS γ2 j q = γ2 j q := fun j q r => rdS_o γ2 (by omega) (by omega) (by omega) (by omega)
    have et : rdS γ2 14 (rdS γ2 1 6) = γ2 14 (γ2 1 6) := by rw [o 1 6 (by omega), o 14 _ (by omega)]
    have hh2 : rdS γ2 52 (γ2 6 9 - 1) = δ' 27 (δ2 0 40) := hh
    refine cont f' (rdS γ2) i' _ δ' ⟨?_, by rw [o 6 12 (by omega)]; exact y2, (u2.tr y3 (by omega) (by omega) (by omega)).rd (by omega) (by omega), ⟨by rw [rdS_8]; omega, by rw [rdS_9, sd]; omega⟩, ?_, xs⟩ (by rw [et]; exact c27)
    · rw [tk2, hn, show d + 1 - 1 = d by omega] at xr
      exact xr
    · rw [← hh2, y5, u4, show γ 6 9 + 1 - 1 = γ 6 9 by omega]
/-- the level of atoms: no unary sign stands there -/
def AtE (N : Int) (E : Nat → St → Int → Int → Option Res) (d : Int) : Prop := ∀ (R : St → St → Prop) (K : Int → St → Option Res) (f : Nat) (γ δ : St) (i : Int), XeI N 8 d i γ δ → (∀ (z : Bool) (f' : Nat) (γ' : St) (i' r : Int) (δ' : St), XmR N d i' γ δ γ' δ' r → NxT z 8 (γ' 14 (γ' 1 6)) → pq (Go z f' γ' i') (K r δ') (OuR R)) → (γ 14 (γ 1 6) ≠ 16 ∧ γ 14 (γ 1 6) ≠ 28 ∧ γ 14 (γ 1 6) ≠ 35 ∧ γ 14 (γ 1 6) ≠ 36) → pq (f_Er_readRightSide_L57 f γ 1 i) (bndT (E 8 δ d 0) K) (OuR R)
theorem pq_unary (h7 : 0 ≤ d → d < 40 → LvE N E 7 (d + 1)) (hE : AtE N E d) : ∀ (R : St → St → Prop) (K : Int → St → Option Res) (f : Nat) (γ δ : St) (i : Int), XeI N 7 d i γ δ → (∀ (z : Bool) (f' : Nat) (γ' : St) (i' r : Int) (δ' : St), XmR N d i' γ δ γ' δ' r → NxT z 7 (γ' 14 (γ' 1 6)) → pq (Go z f' γ' i') (K r δ') (OuR R)) → pq (f_Er_readRightSide_L57 f γ 1 i) (bndT (f_M_unary E δ d) K) (OuR R) := fun R K f γ δ i h0 cont => by
  have l0 : LexR N γ δ := h0.1.1.1.1
  have cc : ∀ δ1, Mv δ δ1 → ∀ (f' : Nat) (γ' : St) (i' r : Int) (δ' : St), XmR N d i' γ δ1 γ' δ' r → γ' 14 (γ' 1 6) ≠ 27 → pq (f_Er_readRightSide_L57 f' γ' 1 i') (K r δ') (OuR R) := fun δ1 mv f' γ' i' r δ' m q => cont false f' γ' i' r δ' (m.mb mv) ⟨fun e => (by cases e), fun _ => ⟨fun _ => q, fun e => by omega⟩⟩
  have h1 := h0.pk
  have l1 : LexR N γ (pkS δ) := h1.1.1.1.1
  have m1 := Mv.pk0 l0.1
  have h2 := h1.pk
  have l2 : LexR N γ (pkS (pkS δ)) := h2.1.1.1.1
  have h3 := h2.pk
  have l3 : LexR N γ (pkS (pkS (pkS δ))) := h3.1.1.1.1
  unfold f_M_unary
  rw [bT_N]
  refine pq_er (pkM_eq l0.1) ?_
  rw [bT_I]
  refine pq_ir (fun q => ?_) (fun q => ?_)
  · rw [bT_N]
    refine pq_yn (w_is l1.1 8) (fun q2 => ?_) (fun q2 => ?_)
    · rw [if_neg (show ¬ (1 : Int) = 0 by decide)]
      exact pq_pre h7 h2 ((l1.kw (by omega)).2 q2) (Or.inr ⟨Or.inl rfl, rfl⟩) rfl (cc _ m1.pk)
    · rw [if_pos (show (0 : Int) = 0 from rfl), bT_N]
      refine pq_yn (w_is l2.1 15) (fun q3 => ?_) (fun q3 => ?_)
      · rw [if_neg (show ¬ (1 : Int) = 0 by decide)]
        exact pq_pre h7 h3 ((l2.kw (by omega)).2 q3) (Or.inr ⟨Or.inr (Or.inl rfl), rfl⟩) rfl (cc _ m1.pk.pk)
      · rw [if_pos (show (0 : Int) = 0 from rfl), bT_N]
        refine pq_yn (w_is l3.1 16) (fun q4 => ?_) (fun q4 => ?_)
        · rw [if_neg (show ¬ (1 : Int) = 0 by decide)]
          exact pq_pre h7 h3.pk ((l3.kw (by omega)).2 q4) (Or.inr ⟨Or.inr (Or.inr rfl), rfl⟩) rfl (cc _ m1.pk.pk.pk)
        · rw [if_pos (show (0 : Int) = 0 from rfl)]
          unfold f_M_unary_b60
          rw [if_pos (show (0 : Int) ≤ 0 by decide), bT_T]
          refine hE R _ f γ _ i (h3.pk.up (by omega)) (fun z f' γ' i' r δ' m nx => ?_) ⟨fun r => q ((l0.sg (k := 45) (by decide)).1 r), fun r => q2 ((l1.kw (by omega)).1 r), fun r => q3 ((l2.kw (by omega)).1 r), fun r => q4 ((l3.kw (by omega)).1 r)⟩
          have zf : z = false := by
            cases z with
            | true => have := (nx.1 rfl).1; omega
            | false => rfl
          subst zf
          exact pq_whenL h3.pk (cc _ m1.pk.pk.pk) FU f' γ' i' r δ' m
  · exact pq_pre h7 h1 ((l0.sg (k := 45) (by decide)).2 (by omega)) (Or.inl ⟨rfl, rfl⟩) rfl (cc _ m1)
end UNY
