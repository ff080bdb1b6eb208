/-! equality: a node's end -/
def rfo (w : Int → Int) (δ : St) : Nat → Int → Int → Int
  | 0, _, c => c
  | n + 1, i, c => rfo w δ n (i + 1) (if δ 20 i = 3 then min 1000000 (c + w (δ 21 i)) else c)
theorem rfo_agree {w w' : Int → Int} {δ δ' : St} : ∀ (n : Nat) (i c : Int), (∀ k, i ≤ k → k < i + n → δ' 20 k = δ 20 k ∧ δ' 21 k = δ 21 k ∧ (δ 20 k = 3 → w' (δ 21 k) = w (δ 21 k))) → rfo w' δ' n i c = rfo w δ n i c
  | 0, _, _, _ => rfl
  | n + 1, i, c, h => by
    have h0 := h i (Int.le_refl _) (by omega)
    show rfo w' δ' n (i + 1) (if δ' 20 i = 3 then min 1000000 (c + w' (δ' 21 i)) else c) = rfo w δ n (i + 1) (if δ 20 i = 3 then min 1000000 (c + w (δ 21 i)) else c)
    have e : (if δ' 20 i = 3 then min 1000000 (c + w' (δ' 21 i)) else c) = (if δ 20 i = 3 then min 1000000 (c + w (δ 21 i)) else c) := by
      rw [h0.1, h0.2.1]
      by_cases q : δ 20 i = 3
      · rw [if_pos q, if_pos q, h0.2.2 q]
      · rw [if_neg q, if_neg q]
    rw [e]
    exact rfo_agree n (i + 1) _ (fun k a b => h k (by omega) (by omega))
/-- the nodes' tables are the same -/
def NtR (γ δ : St) : Prop := ∀ f, 0 ≤ f → f < δ 0 18 → (γ 25 f = δ 4 f ∧ γ 26 f = δ 5 f ∧ γ 27 f = δ 6 f) ∧ γ 28 f = δ 4 (f + 1) - δ 4 f ∧ γ 29 f = δ 7 f ∧ γ 30 f = δ 7 (f + 1) - δ 7 f
def FlA (γ δ : St) : Prop := ∀ f, 0 ≤ f → f < δ 0 18 → ∀ i, δ 7 f ≤ i → i < δ 7 (f + 1) → FlN γ δ (δ 4 f) i
def nP0 (δ : St) (f : Int) : Int := δ 19 (δ 7 f)
def nP1 (δ : St) (f : Int) : Int := δ 17 (δ 7 (f + 1) - 1) + 1
def SzR (γ δ : St) : Prop := ∀ f, 0 ≤ f → f < δ 0 18 → γ 31 f = rfo (γ 31) δ (nP1 δ f - nP0 δ f).toNat (nP0 δ f) (nP1 δ f - nP0 δ f + (δ 7 (f + 1) - δ 7 f)) ∧ γ 32 f = rfo (γ 32) δ (nP1 δ f - nP0 δ f).toNat (nP0 δ f) (δ 4 (f + 1) - δ 4 f)
/-- between nodes, all that both hold -/
def PnR (N : Int) (γ δ : St) : Prop := PgR N γ δ ∧ NtR γ δ ∧ EqT γ δ ∧ PtR γ δ ∧ FlA γ δ ∧ SzR γ δ
theorem L351_k {x : St → Option Res} {K : Int → St → Option Res} {p : Int} : ∀ (n : Nat) (γ : St) (v : Int), bndT (f_M_node_L351 f_M_node_b369 x n γ p v) K = f_M_node_L351 f_M_node_b369 (fun γ => bndT (x γ) K) n γ p v := by
  intro n
  induction n with
  | zero => intro γ v; rfl
  | succ n ih =>
    intro γ v
    have b : bndT (f_M_node_b369 γ p) K = f_M_node_b369 γ p := rfl
    unfold f_M_node_L351
    simp only [bT_I, bT_C, b, ih]
def b385x (γ : St) : Option Res :=
  bndN (f_M_take γ) fun _ γ11 =>
  chk (inb (γ11 0 18) 61) (ap (γ11 7 (γ11 0 18)) fun x15 =>
  f_M_node_L399 x0 FU γ11 x15)
theorem b385_s (γ : St) : f_M_node_b385 γ = bndT (b385x γ) (fun _ γ' => f_M_node_b418 γ') := by
  unfold f_M_node_b385 b385x
  rw [bT_N]
  simp only [bT_C, bT_A, L399_s (x := f_M_node_b418)]
def b311x (γ : St) : Option Res :=
  ap (γ 0 7) fun x24 =>
  chk (i32 ((γ 0 18) + 1)) (chk (inb ((γ 0 18) + 1) 61) (ap (setA γ 7 ((γ 0 18) + 1) (γ 0 30)) fun γ29 =>
  chk (inb (γ29 0 18) 61) (chk (inb (γ29 0 18) 60) (chk (i32 ((γ29 4 (γ29 0 18)) + (γ29 5 (γ29 0 18)))) (ap ((γ29 4 (γ29 0 18)) + (γ29 5 (γ29 0 18))) fun x37 =>
  f_M_node_L351 (f_M_node_b369) b385x FU γ29 x24 x37)))))
theorem b311_s (γ : St) : f_M_node_b311 γ = bndT (b311x γ) (fun _ γ' => f_M_node_b418 γ') := by
  have e : f_M_node_b385 = fun γ => bndT (b385x γ) (fun _ γ' => f_M_node_b418 γ') := funext b385_s
  unfold f_M_node_b311 b311x
  simp only [bT_C, bT_A, L351_k]
  rw [e]
/-- each variable is given once, or not -/
theorem pq_giv {γ δ : St} {nd p : Int} {e60 : St → Option (Int × St)} {e75 : St → Int → Option (Int × St)} {x : St → Option Res} {Q : Int × St → Res → Prop} (e3 : γ 3 15 = δ 0 19) (fin : pq (e75 γ nd) (x δ) Q) (bad : pq (e60 γ) (some ((.inl (2, p), δ) : Res)) Q) : ∀ (n n2 : Nat) (v : Int), (∀ u, v ≤ u → u < δ 0 19 → γ 36 u = δ 13 u) → pq (f_Ck_check_L36 e60 e75 n γ nd v) (f_M_node_L351 f_M_node_b369 x n2 δ p v) Q := by
  intro n
  induction n with
  | zero => intro n2 v _; exact pq_nl
  | succ n ih =>
    intro n2 v h
    cases n2 with
    | zero => exact pq_nr
    | succ n2 =>
      unfold f_Ck_check_L36 f_M_node_L351
      rw [e3]
      by_cases q : δ 0 19 ≤ v
      · rw [if_pos q, if_pos q]; exact fin
      · rw [if_neg q, if_neg q]
        refine pq_cl (fun _ => pq_cr (fun _ => ?_))
        rw [h v (Int.le_refl _) (by omega)]
        by_cases q2 : δ 13 v = 1
        · rw [if_pos q2, if_pos q2]
          exact pq_cl (fun _ => pq_cr (fun _ => ih n2 (v + 1) (fun u a b => h u (by omega) b)))
        · rw [if_neg q2, if_neg q2]
          unfold f_M_node_b369
          exact bad
/-- the node's tables so far, and those before -/
def NtH (γ δ : St) : Prop := ∀ f, 0 ≤ f → f < δ 0 18 → γ 25 f = δ 4 f ∧ γ 26 f = δ 5 f ∧ γ 27 f = δ 6 f
theorem pq_check {N : Int} {δ0 γ1 δ1 γ δ : St} (t : TpW δ0) (h : BdR N δ0 γ1 δ1 γ δ) (hn : NtH γ δ) (h29 : γ 29 (δ 0 18) = δ0 0 30) : pq (f_Ck_check γ) (b311x δ) (OuR (fun γ' δ' => NcR δ0 (setA γ 7 5 (δ0 0 19)) (tkS (setA δ 7 (δ0 0 18 + 1) (δ 0 30))) γ' δ')) := by
  obtain ⟨en, fc, ne, lt, kd, pk, _⟩ := h
  have ⟨dc, ⟨b26, b5⟩, eqt, pt, en2⟩ := en
  have ⟨lxr, nm, nn, ⟨v1, v2, v3, v4, v5, v6⟩, vd, dp⟩ := dc
  have lx : LexR N γ δ := lxr.1
  have ⟨h1, h2, ⟨a1, a2, a3, a4⟩, h4, h5, h6, h7, h8⟩ := ne
  have nj := ne.nj (γ' := setA δ 7 (δ0 0 18 + 1) (δ 0 30)) t.2.2.1.1 lt rfl
  have k1 : tK δ = 1 := ((lx.kw (w := 4) (by omega)).1 kd).1
  unfold f_Ck_check b311x
  refine pq_al (pq_cl (fun _ => pq_al ?_))
  refine pq_ar (pq_cr (fun _ => pq_cr (fun _ => pq_ar ?_)))
  rw [a1] at v3 b26 b5 h29
  rw [v1, a1]
  have g25 : γ 25 (δ0 0 18) = δ0 0 19 := by rw [v3]; exact a2
  rw [g25]
  generalize hg : setA γ 7 5 (δ0 0 19) = γ2
  have u0 : ∀ (j : Nat) (k : Int), j ≠ 7 ∨ k ≠ 5 → γ2 j k = γ j k := fun j k q => by rw [← hg, stA, if_neg (by omega)]
  have u5 : γ2 7 5 = δ0 0 19 := by rw [← hg, stA, if_pos ⟨rfl, rfl⟩]
  generalize hd : setA δ 7 (δ0 0 18 + 1) (δ 0 30) = δ2 at *
  have s0 : ∀ (j : Nat) (k : Int), j ≠ 7 ∨ k ≠ δ0 0 18 + 1 → δ2 j k = δ j k := fun j k q => by rw [← hd, stA, if_neg (by omega)]
  have lx2 : LX δ2 := lx.1.fr (funext fun k => s0 1 k (by omega)) (fun k _ => s0 0 k (by omega))
  have e7 : δ 0 7 = sk δ := by rw [← pk, pk_7, pk]
  have sk2 : γ2 15 (γ2 1 6) = sk δ := by rw [u0 1 6 (by omega), u0 15 _ (by omega)]; exact lx.2.2.2.2.symm
  refine pq_cl (fun _ => pq_cl (fun _ => pq_al ?_))
  refine pq_cr (fun _ => pq_cr (fun _ => pq_cr (fun _ => pq_ar ?_)))
  have x1 : γ2 7 5 + γ2 26 (δ0 0 18) = δ0 0 19 + δ 5 (δ0 0 18) := by rw [u5, u0 26 _ (by omega), b26]
  have x2 : δ2 4 (δ2 0 18) + δ2 5 (δ2 0 18) = δ0 0 19 + δ 5 (δ0 0 18) := by rw [s0 0 18 (by omega), a1, s0 4 _ (by omega), s0 5 _ (by omega), a2]
  rw [x1, x2]
  have c3 := u0 3 15 (by omega)
  have e19 := s0 0 19 (by omega)
  refine pq_giv (by rw [c3, e19]; exact v2) ?_ ?_ FU FU _ (fun u r1 r2 => by rw [u0 36 u (by omega), s0 13 u (by omega)]; rw [e19] at r2; exact (vd u (by have := t.2.1.1; omega) r2).2.1)
  · unfold b385x f_Ck_check_b75
    refine pq_er (tkM_eq lx2) ?_
    have m := Mv.tk0 lx2
    have o := m.2.1
    have nj2 := nj.mv m
    have ⟨j1, j2, j3, ⟨i1, i2, i3, i4, i5⟩, j5, j6, j7⟩ := nj2
    refine pq_cl (fun _ => pq_al (pq_cr (fun _ => pq_ar ?_)))
    rw [u0 29 _ (by omega), h29, i1, i4]
    have o30 := o 0 30 (by omega)
    have s30 := s0 0 30 (by omega)
    have ot : ∀ (j : Nat) (k : Int), (j = 0 → k < 5 ∨ 9 < k) → (j ≠ 7 ∨ k ≠ δ0 0 18 + 1) → tkS δ2 j k = δ j k := fun j k r1 r2 => by rw [o j k (by omega)]; exact s0 j k r2
    have p := j1.2.2.2.2.2.2.2.2
    have ck : CkC γ2 (tkS δ2) := by
      refine ⟨fun v r1 r2 => ?_, ⟨?_, ?_, ?_⟩, fun f r1 r2 => ?_, ?_, ?_⟩
      · rw [ot 0 19 (by omega) (by omega)] at r2
        rw [u0 34 v (by omega), u0 33 v (by omega), ot 12 v (by omega) (by omega), ot 14 v (by omega) (by omega)]
        have := vd v r1 r2
        exact ⟨this.1, (this.2.2 r2).1⟩
      · rw [u5, i1, i2]
      · rw [u0 1 7 (by omega)]; exact lxr.2
      · rw [i1, i2]; exact t.2.1.1
      · rw [i1] at r2
        obtain ⟨n1, n2, n5, l0, l, P0, P, n3, n4, x⟩ := NdW.fn t j3 r1 r2 (by rw [ot 0 19 (by omega) (by omega)]; omega) (by rw [o30, s30]; omega) (by rw [ot 0 31 (by omega) (by omega)]; have := h1.2.2.1; omega) (by rw [ot 0 40 (by omega) (by omega)]; have := h1.2.2.2.1; omega)
        have y := x.1.1
        refine ⟨?_, by omega, by omega, by omega, by omega⟩
        rw [u0 25 f (by omega), u0 26 f (by omega), u0 27 f (by omega), ot 4 f (by omega) (by omega), ot 5 f (by omega) (by omega), ot 6 f (by omega) (by omega)]
        exact hn f r1 (by rw [a1]; exact r2)
      · exact pt.fr (fun j r1 r2 k => u0 j k (by omega)) (u0 4 4 (by omega)) (fun j r1 r2 r3 r4 r5 k => ot j k (by omega) (by omega)) (ot 0 40 (by omega) (by omega))
      · obtain ⟨⟨f1, f2⟩, f3, f4⟩ := eqt
        refine ⟨⟨by rw [u0 4 10 (by omega), o30, s30]; exact f1, by rw [u0 4 12 (by omega), ot 0 31 (by omega) (by omega)]; exact f2⟩, fun k r1 r2 => ?_, fun i r1 r2 => ?_⟩
        · rw [o30, s30] at r2
          obtain ⟨w1, w2, w3, w4, w5⟩ := f3 k r1 r2
          exact ⟨by rw [u0 42 k (by omega), ot 15 k (by omega) (by omega)]; exact w1, by rw [u0 43 k (by omega), ot 19 k (by omega) (by omega)]; exact w2, by rw [u0 44 k (by omega), ot 17 k (by omega) (by omega)]; exact w3, by rw [u0 45 k (by omega), ot 16 k (by omega) (by omega)]; exact w4, by rw [u0 46 k (by omega), ot 16 k (by omega) (by omega), ot 16 _ (by omega) (by omega)]; exact w5⟩
        · rw [ot 0 31 (by omega) (by omega)] at r2
          rw [u0 47 i (by omega), ot 18 i (by omega) (by omega)]
          exact f4 i r1 r2
    exact pq_chkL t FU FU γ2 (tkS δ2) (δ0 0 30) (δ0 0 40) ⟨Fck.rf, fun _ _ _ _ _ => rfl⟩ nj2 ck (Int.le_refl _) (by rw [o30, s30]; omega) (fun _ => p.1) (Int.le_refl _) (fun _ _ => rfl) (fun i r1 r2 => by exfalso; omega)
  · unfold f_Ck_check_b60
    refine pq_bl (fail_pc (by rw [u0 1 7 (by omega)]; exact lxr.2)) (fun r γ' e => ?_)
    cases e
    refine pq_some (OuR.no (flS_7 _ _) ?_ (by decide))
    rw [flS_8, sk2, e7]
def clF (w : Int → Int) (γ : St) : Nat → Int → Int → Int
  | 0, _, c => c
  | n + 1, i, c => clF w γ n (i + 1) (if γ 38 i ≠ 43 then c else min 1000000 (c + w (γ 39 i)))
theorem L60_pc {nd : Int} {P : Int × St → Prop} {γ : St} : ∀ (n : Nat) (p v i : Int), pc (f_Nd_close_b130 γ nd (clF (γ 31) γ (γ 4 4 - i).toNat i p) (clF (γ 32) γ (γ 4 4 - i).toNat i v)) P → pc (f_Nd_close_L60 f_Nd_close_b130 n γ nd p v i) P := by
  intro n
  induction n with
  | zero => intro p v i _; exact pc_n
  | succ n ih =>
    intro p v i h
    unfold f_Nd_close_L60 f_Nd_close_b124
    refine pc_i (fun q => ?_) (fun q => pc_c (fun _ => pc_i (fun q2 => pc_c (fun _ => ih _ _ _ ?_)) (fun q2 => ?_)))
    · rw [show (γ 4 4 - i).toNat = 0 by omega] at h
      exact h
    · rw [show (γ 4 4 - i).toNat = (γ 4 4 - (i + 1)).toNat + 1 by omega] at h
      unfold clF at h
      rw [if_pos q2, if_pos q2] at h
      exact h
    · refine pc_c (fun _ => pc_a (pc_c (fun _ => pc_c (fun _ => pc_a (pc_c (fun _ => pc_c (fun _ => pc_a (pc_c (fun _ => ih _ _ _ ?_)))))))))
      rw [show (γ 4 4 - i).toNat = (γ 4 4 - (i + 1)).toNat + 1 by omega] at h
      unfold clF at h
      rw [if_neg q2, if_neg q2] at h
      exact h
theorem clF_rfo {w : Int → Int} {γ δ : St} (pt : PtR γ δ) : ∀ (n : Nat) (i c : Int), 0 ≤ i → i + n ≤ δ 0 40 → clF w γ n i c = rfo w δ n i c
  | 0, _, _, _, _ => rfl
  | n + 1, i, c, h0, h1 => by
    obtain ⟨p1, p2, _⟩ := pt.2 i h0 (by omega)
    show clF w γ n (i + 1) (if γ 38 i ≠ 43 then c else min 1000000 (c + w (γ 39 i))) = rfo w δ n (i + 1) (if δ 20 i = 3 then min 1000000 (c + w (δ 21 i)) else c)
    have e : (if γ 38 i ≠ 43 then c else min 1000000 (c + w (γ 39 i))) = (if δ 20 i = 3 then min 1000000 (c + w (δ 21 i)) else c) := by
      by_cases q : δ 20 i = 3
      · have h43 : γ 38 i = 43 := by
          have cs := kd_c p1 (by omega)
          rw [q] at cs
          clear p1
          omega
        rw [if_neg (fun r => r h43), if_pos q, p2]
      · have h43 : γ 38 i ≠ 43 := fun r => by rw [r] at p1; exact q p1.symm
        rw [if_pos h43, if_neg q]
    rw [e]
    exact clF_rfo pt n (i + 1) _ (by omega) (by omega)
/-- the class closes a node -/
def cnS (γ : St) (nd p v : Int) : St := fun j k => if j = 1 ∧ k = 6 then γ 1 6 + 1 else if j = 23 ∧ k = γ 24 nd then nd + 1 else if j = 3 ∧ k = 9 then nd + 1 else if j = 32 ∧ k = nd then v else if j = 31 ∧ k = nd then p else if j = 30 ∧ k = nd then γ 4 10 - γ 29 nd else γ j k
theorem closeN_pc {γ : St} {nd : Int} (h9 : γ 3 9 = nd) (hl : γ 1 6 + 1 < γ 1 5) : pc (f_Nr_closeNode γ) (fun z => z = (1, cnS γ nd (clF (γ 31) γ (γ 4 4 - γ 43 (γ 29 nd)).toNat (γ 43 (γ 29 nd)) (γ 4 4 - γ 43 (γ 29 nd) + (γ 4 10 - γ 29 nd))) (clF (γ 32) γ (γ 4 4 - γ 43 (γ 29 nd)).toNat (γ 43 (γ 29 nd)) (γ 28 nd)))) := by
  unfold f_Nr_closeNode
  generalize hp : clF (γ 31) γ (γ 4 4 - γ 43 (γ 29 nd)).toNat (γ 43 (γ 29 nd)) (γ 4 4 - γ 43 (γ 29 nd) + (γ 4 10 - γ 29 nd)) = p
  generalize hv : clF (γ 32) γ (γ 4 4 - γ 43 (γ 29 nd)).toNat (γ 43 (γ 29 nd)) (γ 28 nd) = v
  refine pc_b (P := fun z => z = (0, fun j k => if j = 3 ∧ k = 9 then nd + 1 else if j = 32 ∧ k = nd then v else if j = 31 ∧ k = nd then p else if j = 30 ∧ k = nd then γ 4 10 - γ 29 nd else γ j k)) ?_ (fun r γ' e => ?_)
  · unfold f_Nd_close
    refine pc_a ?_
    rw [h9]
    refine pc_c (fun _ => pc_c (fun _ => pc_c (fun _ => pc_a ?_)))
    generalize hg : setA γ 30 nd (γ 4 10 - γ 29 nd) = γ1
    have s0 : ∀ (j : Nat) (k : Int), j ≠ 30 ∨ k ≠ nd → γ1 j k = γ j k := fun j k q => by rw [← hg, stA, if_neg (by omega)]
    have s30 : γ1 30 nd = γ 4 10 - γ 29 nd := by rw [← hg, stA, if_pos ⟨rfl, rfl⟩]
    rw [s0 29 nd (by omega), s0 43 _ (by omega), s0 4 4 (by omega), s30, s0 28 nd (by omega)]
    refine pc_c (fun _ => pc_c (fun _ => pc_a (pc_c (fun _ => pc_c (fun _ => pc_c (fun _ => pc_a (pc_c (fun _ => pc_a (L60_pc FU _ _ _ ?_)))))))))
    have clf : ∀ (w : Int → Int) (n : Nat) (i c : Int), clF w γ1 n i c = clF w γ n i c := fun w n => by
      induction n with
      | zero => intro i c; rfl
      | succ n ih =>
        intro i c
        unfold clF
        rw [s0 38 i (by omega), s0 39 i (by omega), ih]
    have r31 : γ1 31 = γ 31 := funext fun k => s0 31 k (by omega)
    have r32 : γ1 32 = γ 32 := funext fun k => s0 32 k (by omega)
    rw [s0 4 4 (by omega), r31, r32, clf, clf, hp, hv]
    unfold f_Nd_close_b130
    refine pc_c (fun _ => pc_a (pc_c (fun _ => pc_a ?_)))
    have e9 : setA (setA γ1 31 nd p) 32 nd v 3 9 = nd := by rw [stA, if_neg (by omega), stA, if_neg (by omega), s0 3 9 (by omega)]; exact h9
    rw [e9]
    refine pc_c (fun _ => pc_a (pc_s ?_))
    refine congrArg (Prod.mk 0) (funext fun j => funext fun k => ?_)
    rw [stA, stA, stA, ← hg, stA]
  · cases e
    have e9 : (if (3 : Nat) = 3 ∧ (9 : Int) = 9 then nd + 1 else if (3 : Nat) = 32 ∧ (9 : Int) = nd then v else if (3 : Nat) = 31 ∧ (9 : Int) = nd then p else if (3 : Nat) = 30 ∧ (9 : Int) = nd then γ 4 10 - γ 29 nd else γ 3 9) = nd + 1 := if_pos ⟨rfl, rfl⟩
    generalize hq : (fun (j : Nat) (k : Int) => if j = 3 ∧ k = 9 then nd + 1 else if j = 32 ∧ k = nd then v else if j = 31 ∧ k = nd then p else if j = 30 ∧ k = nd then γ 4 10 - γ 29 nd else γ j k) = γ2
    have t : ∀ (j : Nat) (k : Int), γ2 j k = if j = 3 ∧ k = 9 then nd + 1 else if j = 32 ∧ k = nd then v else if j = 31 ∧ k = nd then p else if j = 30 ∧ k = nd then γ 4 10 - γ 29 nd else γ j k := fun j k => by rw [← hq]
    have t39 : γ2 3 9 = nd + 1 := by rw [t, if_pos ⟨rfl, rfl⟩]
    have t24 : ∀ k, γ2 24 k = γ 24 k := fun k => by rw [t, if_neg (by omega), if_neg (by omega), if_neg (by omega), if_neg (by omega)]
    have t1 : ∀ k, γ2 1 k = γ 1 k := fun k => by rw [t, if_neg (by omega), if_neg (by omega), if_neg (by omega), if_neg (by omega)]
    rw [t39, show nd + 1 - 1 = nd by omega, t24]
    refine pc_c (fun _ => pc_c (fun _ => pc_c (fun _ => pc_a ?_)))
    have l2 : setA γ2 23 (γ 24 nd) (nd + 1) 1 6 + 1 < setA γ2 23 (γ 24 nd) (nd + 1) 1 5 := by
      rw [stA, if_neg (by omega), stA, if_neg (by omega), t1, t1]; exact hl
    refine pc_b (step_pc2 l2) (fun r γ' e => ?_)
    cases e
    refine pc_s (congrArg (Prod.mk 1) (funext fun j => funext fun k => ?_))
    unfold nxS cnS
    rw [stA, stA, stA, if_neg (show ¬ ((1 : Nat) = 23 ∧ (6 : Int) = γ 24 nd) by omega), t1, t]
