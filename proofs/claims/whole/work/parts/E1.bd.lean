/-! equality: a node's body -/
def b242x (γ : St) : Option Res :=
  chk (i32 ((γ 0 18) + 1)) (chk (inb ((γ 0 18) + 1) 61) (ap (setA γ 4 ((γ 0 18) + 1) (γ 0 19)) fun γ46 =>
  bndT (f_M_mustBe γ46 3) fun _ γ48 =>
  chk (inb (γ48 0 18) 61) (ap (setA γ48 7 (γ48 0 18) (γ48 0 30)) fun γ52 =>
  chk (inb (γ52 0 18) 60) (ap (setA γ52 8 (γ52 0 18) 0) fun γ55 =>
  chk (inb (γ55 0 18) 60) (ap (setA γ55 9 (γ55 0 18) 0) fun γ58 =>
  x0 γ58)))))
theorem h_b242 {γ0 γ : St} (t : TpW γ0) (h : NdD γ0 γ) (h56 : F56 γ0 γ) (lt : γ0 0 5 < γ 0 5) : wp (b242x γ) (fun z => ∀ r, z.1 = .inr r → NdE γ0 z.2) := by
  have := FU_v
  have ⟨h1, h2, h3, ⟨h4, h4'⟩, h5, h6⟩ := h
  have ⟨⟨t1, t2, t3⟩, t4, t5, t6, t7, t8, t9, t10, t11⟩ := t
  have e18 := h.e18
  have nd := h1.2.1
  rw [e18] at nd
  have k30 : γ 0 30 = γ0 0 30 := h2 0 30 (by omega) (by omega) (by omega)
  have k31 : γ 0 31 = γ0 0 31 := h2 0 31 (by omega) (by omega) (by omega)
  have k40 : γ 0 40 = γ0 0 40 := h2 0 40 (by omega) (by omega) (by omega)
  unfold b242x
  rw [e18]
  refine wp_chk (by omega) (wp_chk (by omega) (wp_sub ?_))
  have s : ∀ i k, setA γ 4 (γ0 0 18 + 1) (γ 0 19) i k = if i = 4 ∧ k = γ0 0 18 + 1 then γ 0 19 else γ i k := fun i k => by rw [stA]
  generalize setA γ 4 (γ0 0 18 + 1) (γ 0 19) = γ1 at *
  have s0 : ∀ i k, (i = 4 → k ≠ γ0 0 18 + 1) → γ1 i k = γ i k := fun i k q => by rw [s, if_neg (by omega)]
  have lx : LX γ1 := h1.1.fr (funext fun k => s0 1 k (by omega)) (fun k q => s0 0 k (by omega))
  have rf : Rf γ0 γ1 := h.re.tr ⟨fun i k q1 q2 => s0 i k (by omega), fun b => b.fr (fun k => s0 14 k (by omega)) (fun k => s0 28 k (by omega)) (fun k => s0 25 k (by omega))⟩
  refine wp_mustBe lx (fun q => ?_) (fun q => (fun r q => (by cases q)))
  have m := Mv.tk0 lx
  have e := m.2.1
  have u0 : ∀ i k, (i = 0 → k < 5 ∨ 9 < k) → (i = 4 → k ≠ γ0 0 18 + 1) → tkS γ1 i k = γ i k := fun i k q1 q2 => by rw [e i k (by omega), s0 i k q2]
  have u18 : tkS γ1 0 18 = γ0 0 18 := by rw [u0 0 18 (by omega) (by omega)]; exact e18
  have u30 : tkS γ1 0 30 = γ0 0 30 := by rw [u0 0 30 (by omega) (by omega)]; exact k30
  have m5 := m.2.2
  have v5 := s0 0 5 (by omega)
  have u4 : tkS γ1 4 (γ0 0 18 + 1) = γ 0 19 := by rw [e 4 _ (by omega), s, if_pos ⟨rfl, rfl⟩]
  have ml := m.1
  have mr := m.re
  generalize tkS γ1 = γ2 at *
  rw [u18, u30]
  refine wp_chk (by omega) (wp_sub ?_)
  rw [show setA γ2 7 (γ0 0 18) (γ0 0 30) 0 18 = γ0 0 18 by rw [stA, if_neg (by omega)]; exact u18]
  refine wp_chk (by omega) (wp_sub ?_)
  rw [show setA (setA γ2 7 (γ0 0 18) (γ0 0 30)) 8 (γ0 0 18) 0 0 18 = γ0 0 18 by rw [stA, if_neg (by omega), stA, if_neg (by omega)]; exact u18]
  refine wp_chk (by omega) (wp_sub ?_)
  generalize hg : setA (setA (setA γ2 7 (γ0 0 18) (γ0 0 30)) 8 (γ0 0 18) 0) 9 (γ0 0 18) 0 = γ3
  have w : ∀ i k, γ3 i k = if i = 9 ∧ k = γ0 0 18 then 0 else if i = 8 ∧ k = γ0 0 18 then 0 else if i = 7 ∧ k = γ0 0 18 then γ0 0 30 else γ2 i k := fun i k => by rw [← hg, stA, stA, stA]
  have w0 : ∀ i k, (i = 7 ∨ i = 8 ∨ i = 9 → k ≠ γ0 0 18) → γ3 i k = γ2 i k := fun i k q => by rw [w, if_neg (by omega), if_neg (by omega), if_neg (by omega)]
  have w1 : ∀ i k, (i = 0 → k < 5 ∨ 9 < k) → (i = 4 → k ≠ γ0 0 18 + 1) → (i = 7 ∨ i = 8 ∨ i = 9 → k ≠ γ0 0 18) → γ3 i k = γ i k := fun i k q1 q2 q3 => by rw [w0 i k q3, u0 i k q1 q2]
  have x18 : γ3 0 18 = γ0 0 18 := by rw [w0 0 18 (by omega)]; exact u18
  have x19 : γ3 0 19 = γ 0 19 := w1 0 19 (by omega) (by omega) (by omega)
  have x30 : γ3 0 30 = γ0 0 30 := by rw [w0 0 30 (by omega)]; exact u30
  have x31 : γ3 0 31 = γ0 0 31 := by rw [w1 0 31 (by omega) (by omega) (by omega)]; exact k31
  have x40 : γ3 0 40 = γ0 0 40 := by rw [w1 0 40 (by omega) (by omega) (by omega)]; exact k40
  have x5 : γ3 0 5 = γ2 0 5 := w0 0 5 (by omega)
  have x4 : γ3 4 (γ0 0 18) = γ0 0 19 := by rw [w1 4 _ (by omega) (by omega) (by omega)]; exact h4
  have x7 : γ3 7 (γ0 0 18) = γ0 0 30 := by rw [w, if_neg (by omega), if_neg (by omega), if_pos ⟨rfl, rfl⟩]
  have x8 : γ3 8 (γ0 0 18) = 0 := by rw [w, if_neg (by omega), if_pos ⟨rfl, rfl⟩]
  have x9 : γ3 9 (γ0 0 18) = 0 := by rw [w, if_pos ⟨rfl, rfl⟩]
  have lx3 : LX γ3 := ml.fr (funext fun k => w0 1 k (by omega)) (fun k q => w0 0 k (by omega))
  have dc : DcI γ3 := h1.fr2 lx3 (by rw [x18, e18]) x19 (by rw [e18]; exact x4.trans h4.symm) (fun i q1 q2 k => w1 i k (by omega) (by omega) (by omega))
  have h56' := h56.1
  have ew : EqW (γ0 0 31) (γ0 0 40) γ3 := by
    unfold EqW
    rw [x18, x19, x30, x31, x40, x4, x7, x8, x9, w1 5 _ (by omega) (by omega) (by omega), show (γ0 0 31 - γ0 0 31).toNat = 0 by omega]
    refine ⟨⟨dc, fun v q1 q2 => ?_, by omega, by omega⟩, by omega, by omega, by omega, by omega, by omega, fun v q1 q2 => ?_, ⟨fun k q1 q2 => by omega, fun k q1 q2 => by omega, ?_⟩, ⟨fun _ => ⟨rfl, rfl⟩, fun q => by omega⟩, Odr.nil, Odr.nil⟩
    · rw [w1 2 v (by omega) (by omega) (by omega), w1 3 v (by omega) (by omega) (by omega)]
      exact h6 v q1 (by omega)
    · rw [w1 13 v (by omega) (by omega) (by omega)]
      exact h5 v q1 q2
    · rw [w1 16 _ (by omega) (by omega) (by omega), h2 16 _ (by omega) (by omega) (by omega)]
      exact t8
  have ne : NdE γ0 γ3 := by
    refine ⟨ew, fun i k q1 q2 q3 q4 q5 q6 q7 q8 q9 => ?_, ⟨x18, x4, ?_, by omega⟩, h56.fr (w1 5 _ (by omega) (by omega) (by omega)) (w1 6 _ (by omega) (by omega) (by omega)) (by omega) (fun v _ _ => w1 12 v (by omega) (by omega) (by omega)), fun v q1 q2 => by rw [w1 2 v (by omega) (by omega) (by omega), w1 3 v (by omega) (by omega) (by omega)]; exact h6 v q1 q2, (rf.tr mr).tr ⟨fun i k q1 q2 => w0 i k (by omega), fun b => b.fr (fun k => w0 14 k (by omega)) (fun k => w0 28 k (by omega)) (fun k => w0 25 k (by omega))⟩, x7, by omega⟩
    · by_cases r4 : i = 4 ∧ k = γ0 0 18
      · rw [r4.1, r4.2, x4]; exact (t9 (q4 (by omega)).1).1.symm
      · by_cases r7 : i = 7 ∧ k = γ0 0 18
        · rw [r7.1, r7.2, x7]; exact (t9 (q4 (by omega)).1).2.symm
        · rw [w1 i k (by omega) (by omega) (by omega)]
          exact h2 i k (by omega) (by omega) q5
    · rw [w0 4 _ (by omega), x19]; exact u4
  have lb := lx3.1
  have lb5 := lx3.2.1
  unfold x0
  exact wp_some (fun r q => ne)
theorem b242_s (γ : St) : f_M_node_b242 γ = bndT (b242x γ) (fun _ γ58 => f_M_node_L297 f_M_node_b311 FU γ58) := by
  unfold f_M_node_b242 b242x
  simp only [bT_C, bT_A, bT_T, bT_x0]
theorem L297_s {x : St → Option Res} : ∀ (n : Nat) (γ : St), f_M_node_L297 x n γ = bndT (f_M_node_L297 x0 n γ) (fun _ γ' => x γ') := by
  intro n
  induction n with
  | zero => intro γ; rfl
  | succ n ih =>
    intro γ
    unfold f_M_node_L297
    simp only [bT_T, bT_N, bT_I, bT_x0, ih]
def ex1 (γ : St) (x : Int) : Option (Int × St) := some (x, γ)
theorem L34_s {e : St → Int → Option (Int × St)} : ∀ (n : Nat) (γ : St) (g i : Int), f_Nr_readBody_L34 e n γ g i = bndN (f_Nr_readBody_L34 ex1 n γ g i) (fun r γ' => e γ' r) := by
  intro n
  induction n with
  | zero => intro γ g i; rfl
  | succ n ih =>
    intro γ g i
    unfold f_Nr_readBody_L34 ex1
    simp only [bN_N, bN_I, bN_C, bN_s, ih]
    rfl
theorem L34_0 (n : Nat) (γ : St) (i : Int) {y : Int × St} (e : f_Nr_readBody_L34 ex1 n γ 0 i = some y) : y = (0, γ) := by
  cases n with
  | zero => cases e
  | succ n =>
    unfold f_Nr_readBody_L34 ex1 at e
    rw [if_pos rfl] at e
    cases e; rfl
theorem eq_pk {δ : St} (h : LX δ) : f_M_equation (pkS δ) = f_M_equation δ := by
  rw [eq_s, eq_s, pkM_eq h, pkM_eq h.pk, pkS_pk h, bN_s, bN_s]
theorem pq_eqn2 {N P : Int} {δ0 γ δ : St} (hP : P ≤ γ 4 4) (h : EnR N γ δ) (ne : NdE δ0 δ) : pq (f_Nr_readEquation γ) (f_M_equation δ) (OuR (fun γ' δ' => (EnR N γ' δ' ∧ FcE P γ γ') ∧ γ 1 6 < γ' 1 6 ∧ NdE δ0 δ' ∧ δ0 0 30 < δ' 0 30 ∧ ∀ (j : Nat) (k : Int), 2 ≤ j → j ≤ 7 → δ' j k = δ j k)) := by
  have lx : LX δ := h.1.1.1.1
  have m := Mv.pk0 lx
  have ne' := ne.mv m
  have w := w_equation ne'.1
  rw [eq_pk lx] at w
  refine pq_mono (pq_and (pq_eqn hP h ne.1) w.pc) (fun y z hh => ?_)
  obtain ⟨h1, h2⟩ := hh
  rcases h1 with k | ⟨⟨x, a⟩, b, c⟩
  · exact Or.inl k
  · refine Or.inr ⟨⟨x, a⟩, b, c, ?_, ?_⟩
    · have o := (h2.2 x a).2.2.2.1
      rw [pkS_5] at o
      have l' : LexR N y.2 z.2 := c.1.1.1.1
      have s := l'.1.skb.1
      refine LexR.mono (h.1.1.1) l' (fun k => c.2 15 k (by omega) (by omega) (by omega) (by omega)) (by omega)
    · have z' : z = (.inr x, z.2) := by rw [← a]
      rw [z'] at h2
      have s := ne'.step h2
      refine ⟨s.1, s.2.1, fun j k q1 q2 => ?_⟩
      have fe := (h2.2 x rfl).2.1
      have fe2 : z.2 j k = pkS δ j k := fe j k (by omega) (by omega) (by omega) (by omega) (by omega) (by omega) (by omega)
      rw [fe2, pkS_o δ j k (by omega)]
/-- behind the equations -/
def BdR (N : Int) (δ0 γ1 δ1 γ δ : St) : Prop := EnR N γ δ ∧ FcE (δ0 0 40) γ1 γ ∧ NdE δ0 δ ∧ δ0 0 30 < δ 0 30 ∧ γ 14 (γ 1 6) = 24 ∧ pkS δ = δ ∧ ∀ (j : Nat) (k : Int), 2 ≤ j → j ≤ 7 → δ j k = δ1 j k
theorem EnR.pk {N : Int} {γ δ : St} (h : EnR N γ δ) : EnR N γ (pkS δ) := by
  have ⟨a, b, ⟨⟨c1, c2⟩, c3, c4⟩, e, f1, f2⟩ := h
  have o := pkS_o δ
  have o30 := o 0 30 (by omega)
  have o31 := o 0 31 (by omega)
  refine ⟨by rw [o 0 19 (by omega)]; exact a.pk, by rw [o 0 18 (by omega), o 5 _ (by omega)]; exact b, ⟨⟨by rw [o30]; exact c1, by rw [o31]; exact c2⟩, fun k q1 q2 => ?_, fun i q1 q2 => ?_⟩, e.fr (fun _ _ _ _ => rfl) rfl (fun j _ _ _ _ _ k => o j k (by omega)) (o 0 40 (by omega)), by omega, by omega⟩
  · rw [o30] at q2
    obtain ⟨k1, k2, k3, k4, k5⟩ := c3 k q1 q2
    exact ⟨by rw [o 15 k (by omega)]; exact k1, by rw [o 19 k (by omega)]; exact k2, by rw [o 17 k (by omega)]; exact k3, by rw [o 16 k (by omega)]; exact k4, by rw [o 16 k (by omega), o 16 _ (by omega)]; exact k5⟩
  · rw [o31] at q2
    rw [o 18 i (by omega)]
    exact c4 i q1 q2
theorem pq_bodyL {N : Int} {δ0 γ1 δ1 : St} : ∀ (n f : Nat) (γ δ : St) (i : Int), EnR N γ δ → FcE (δ0 0 40) γ1 γ → NdE δ0 δ → δ0 0 30 < δ 0 30 → (∀ (j : Nat) (k : Int), 2 ≤ j → j ≤ 7 → δ j k = δ1 j k) → 0 ≤ i → i ≤ γ 1 6 → pq (f_Nr_readBody_L34 ex1 f γ 1 i) (bndN (f_M_is δ 4) fun r40 γ41 => if r40 = 0 then f_M_node_L297 x0 n γ41 else x0 γ41) (OuR (BdR N δ0 γ1 δ1)) := by
  intro n
  induction n with
  | zero =>
    intro f γ δ i h fc ne lt hd h0 h1
    have lx : LexR N γ δ := h.1.1.1
    have m := Mv.pk0 lx.1
    have o := pkS_o δ
    have t := lx.2.2.1.2.1
    have u := lx.2.2.2.1
    refine pq_yn (w_is lx.1 4) (fun q => ?_) (fun q => ?_)
    · rw [if_neg (show ¬ (1 : Int) = 0 by decide)]
      cases f with
      | zero => exact pq_nl
      | succ f =>
        unfold f_Nr_readBody_L34 ex1 x0
        rw [if_neg (show ¬ (1 : Int) = 0 by decide), if_neg (show ¬ γ 1 5 ≤ i by omega)]
        refine pq_bl kind_pc (fun r γ' e => ?_)
        cases e
        have kd : γ 14 (γ 1 6) = 24 := (lx.kw (by omega)).2 q
        rw [if_pos kd]
        exact pq_some (OuR.ok ⟨h.pk, fc, ne.mv m, by rw [o 0 30 (by omega)]; exact lt, kd, pkS_pk lx.1, fun j k q1 q2 => by rw [o j k (by omega)]; exact hd j k q1 q2⟩)
    · rw [if_pos (show (0 : Int) = 0 from rfl)]
      exact pq_nr
  | succ n ih =>
    intro f γ δ i h fc ne lt hd h0 h1
    have lx : LexR N γ δ := h.1.1.1
    have m := Mv.pk0 lx.1
    have o := pkS_o δ
    have t := lx.2.2.1.2.1
    have u := lx.2.2.2.1
    cases f with
    | zero => exact pq_nl
    | succ f =>
      unfold f_Nr_readBody_L34
      rw [if_neg (show ¬ (1 : Int) = 0 by decide), if_neg (show ¬ γ 1 5 ≤ i by omega)]
      refine pq_bl kind_pc (fun r γ' e => ?_)
      cases e
      refine pq_yn (w_is lx.1 4) (fun q => ?_) (fun q => ?_)
      · have kd : γ 14 (γ 1 6) = 24 := (lx.kw (by omega)).2 q
        rw [if_pos kd, if_neg (show ¬ (1 : Int) = 0 by decide)]
        unfold ex1 x0
        exact pq_some (OuR.ok ⟨h.pk, fc, ne.mv m, by rw [o 0 30 (by omega)]; exact lt, kd, pkS_pk lx.1, fun j k q1 q2 => by rw [o j k (by omega)]; exact hd j k q1 q2⟩)
      · have kd : ¬ γ 14 (γ 1 6) = 24 := fun r => q ((lx.kw (by omega)).1 r)
        rw [if_neg kd, if_pos (show (0 : Int) = 0 from rfl)]
        unfold f_M_node_L297
        refine pq_bb (pq_eqn2 (P := δ0 0 40) (by have e44 := h.2.2.2.1.1.1; have w := ne.1.2.2.2.1; omega) h.pk (ne.mv m)) (fun r γ' e δ' hh => ?_) (fun r γ' x δ' hh => ?_)
        · refine pq_cl (fun _ => ?_)
          intro y z e1 e2
          rw [hh.er.1] at e1
          rw [L34_0 _ _ _ e1]
          exact pq_some hh.hand _ z rfl e2
        · obtain ⟨e1, ⟨k1, k2⟩, k3, k4, k5, k6⟩ := hh.go
          rw [e1]
          exact pq_cl (fun _ => ih f γ' δ' (i + 1) k1 (fc.tr k2) k4 k5 (fun j k q1 q2 => by rw [k6 j k q1 q2, o j k (by omega)]; exact hd j k q1 q2) (by omega) (by omega))
