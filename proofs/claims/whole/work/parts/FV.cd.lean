/-! equality: causes, tick -/
section CD
variable {γ δ : St} {w a0 a1 c : Int}
theorem Rc.iff {E : Int → Int → Prop} {a b : Int} (n : a ≠ b) : Rc E a b ↔ Rp E a b := by
  refine ⟨fun ⟨m, h⟩ => ?_, fun ⟨d, e, m, h⟩ => ⟨m + 1, d, e, h⟩⟩
  cases m with
  | zero => exact absurd h n
  | succ m => obtain ⟨d, e, r⟩ := h; exact ⟨d, e, m, r⟩
theorem Rp.mp {E F : Int → Int → Prop} {V : Int} (hm : ∀ u d, 0 ≤ u → u < V → E u d → F u d ∧ 0 ≤ d ∧ d < V) {a b : Int} (a0 : 0 ≤ a) (a1 : a < V) (h : Rp E a b) : Rp F a b := by
  obtain ⟨d, e, r⟩ := h
  have f := hm a d a0 a1 e
  have q := Rc.cl (E := E) (P := fun x => (0 ≤ x ∧ x < V) ∧ Rc F d x) (fun x y p e => by
    have g := hm x y p.1.1 p.1.2 e
    exact ⟨g.2, p.2.tr (Rc.ed g.1)⟩) r ⟨f.2, Rc.rf⟩
  exact ⟨d, f.1, q.2⟩
theorem PrX.re (h : PrX γ δ) (n : a0 ≠ a1) (h0 : 0 ≤ a0) (h1 : a0 < δ 4 (δ 0 49 + 1) - δ 4 (δ 0 49)) (h2 : a1 < δ 4 (δ 0 49 + 1) - δ 4 (δ 0 49)) : Rc (Ed γ) a0 a1 ↔ Rp (EdM δ) a0 a1 := by
  have sz := h.sz
  obtain ⟨G, D, σ, κ, P, τ, V, S, ⟨st, tb⟩, ⟨b1, b2, b3, b4, b5⟩, v, k⟩ := h
  have e51 : δ 0 51 = D 0 51 := b2 0 51 (by omega) (by omega) (by omega) (by omega)
  have kV := st.1.2.2.2.2.2.1.2
  have eE : Ed γ = Ed G := funext fun s => funext fun d => by
    unfold Ed
    rw [b1.1 55 s (by omega) (by omega) (by omega) (by omega) (by omega) (by omega) (by omega), b1.1 56 s (by omega) (by omega) (by omega) (by omega) (by omega) (by omega) (by omega), b1.1 57 s (by omega) (by omega) (by omega) (by omega) (by omega) (by omega) (by omega)]
  have eM : EdM δ = EdM D := funext fun s => funext fun d => by
    unfold EdM
    rw [show δ 44 = D 44 from funext fun k => b2 44 k (by omega) (by omega) (by omega) (by omega), show δ 45 = D 45 from funext fun k => b2 45 k (by omega) (by omega) (by omega) (by omega)]
  have orr := st.2.2.2.2.2.1
  have cr : ∀ u d, 0 ≤ u → u < V → CsS D u d → 0 ≤ d ∧ d < V := fun u d u0 u1 e => by
    obtain ⟨i, i0, i1, i2⟩ := orr.2 u u0 (by omega)
    obtain ⟨j, j0, j1, j2⟩ := (orr.1 i i0 i1).2.1 d (by rw [i2]; exact e)
    have := (orr.1 j j0 (by omega)).1
    omega
  rw [Rc.iff n, eE, eM, re_iff st.1 cr h0 (by omega) (by omega)]
  have t4 := tb.2.2.2.1
  exact ⟨Rp.mp (V := V) (fun u d u0 u1 e => ⟨(t4 u d u0 u1).2 e, cr u d u0 u1 e⟩) h0 (by omega), Rp.mp (V := V) (fun u d u0 u1 e => ⟨(t4 u d u0 u1).1 e, cr u d u0 u1 ((t4 u d u0 u1).1 e)⟩) h0 (by omega)⟩
theorem lcs_pc (hC : ClsI c γ) (hc : c < 512) : pc (e_L_causes γ w a0 a1) (fun y => (y = (1, γ, w) ∧ (isV γ a0 = 0 ∨ isV γ a1 = 0)) ∨ (y.1 = 0 ∧ (isV γ a0 ≠ 0 ∧ isV γ a1 ≠ 0) ∧ (∀ j k, j ≠ 73 → j ≠ 74 → (j ≠ 10 ∨ k ≠ 12) → y.2.1 j k = γ j k) ∧ (y.2.2 = 1 ∧ Rc (Ed γ) a0 a1 ∨ y.2.2 = 0 ∧ ¬ Rc (Ed γ) a0 a1))) := by
  have iv := isV_eq (k := a0) hC
  have iw := isV_eq (k := a1) hC
  unfold e_L_causes
  refine hclp (R := fun z => (isV γ a0 ≠ 0 ∧ isV γ a1 ≠ 0) ∧ (∀ j k, j ≠ 73 → j ≠ 74 → (j ≠ 10 ∨ k ≠ 12) → z.2 j k = γ j k) ∧ (z.1 = 1 ∧ Rc (Ed γ) a0 a1 ∨ z.1 = 0 ∧ ¬ Rc (Ed γ) a0 a1)) (E := fun x => x = 3 ∧ (isV γ a0 = 0 ∨ isV γ a1 = 0)) ?_ ?_ (fun r γ' q => pc_i (fun r0 => pc_s (Or.inr ⟨rfl, q.1, q.2.1, ?_⟩)) (fun r0 => pc_s (Or.inr ⟨rfl, q.1, q.2.1, ?_⟩))) (fun x q => by rw [q.1]; exact pc_s (Or.inl ⟨rfl, q.2⟩))
  · unfold f_S_causes f_S_causes_b16
    rw [bndN_eq iv.1]
    refine pc_i (fun _ => pc_n) (fun q => ?_)
    rw [bndN_eq iw.1]
    refine pc_i (fun q2 => ?_) (fun _ => pc_n)
    have v := isV_1 hC q
    have w := isV_1 hC q2
    have m5 := v.1.2.2.2.2
    have p5 := v.1.2.1.2.2.2.2.1
    have p3 := v.1.2.1.2.2.1
    have k1 := (w_reaches (a := a0) (b := a1) v.1.2.1 v.1.2.2.1 (by omega) (by omega) (by omega)).pc
    have k2 := x_reaches (a := a0) (b := a1) v.1.2.1 v.1.2.2.1 (by omega) (by omega)
    exact pc_b (P := fun z => (∀ j k, j ≠ 73 → j ≠ 74 → (j ≠ 10 ∨ k ≠ 12) → z.2 j k = γ j k) ∧ (z.1 = 1 ∧ Rc (Ed γ) a0 a1 ∨ z.1 = 0 ∧ ¬ Rc (Ed γ) a0 a1)) (fun z e => ⟨(k1 z e).1, k2 z e⟩) (fun r γ1 y => pc_s ⟨⟨q, q2⟩, y⟩)
  · unfold g_S_causes g_S_causes_b16
    rw [bndR_eq iv.2 (isV_b γ a0)]
    refine pc_i (fun q => pc_s ⟨rfl, Or.inl q⟩) (fun q => ?_)
    rw [bndR_eq iw.2 (isV_b γ a1)]
    exact pc_i (fun _ => pc_n) (fun q2 => pc_s ⟨rfl, Or.inr (by omega)⟩)
  · have u : (r = 1 ∧ Rc (Ed γ) a0 a1) ∨ (r = 0 ∧ ¬ Rc (Ed γ) a0 a1) := q.2.2
    rcases u with u | u
    · exfalso; omega
    · exact Or.inr ⟨rfl, u.2⟩
  · have u : (r = 1 ∧ Rc (Ed γ) a0 a1) ∨ (r = 0 ∧ ¬ Rc (Ed γ) a0 a1) := q.2.2
    rcases u with u | u
    · exact Or.inl ⟨rfl, u.2⟩
    · exfalso; omega
def CaP (δ : St) (a0 a1 : Int) (z : Int × St) : Prop := (z = (0, setA δ 0 2 1) ∧ (a0 < 0 ∨ a1 < 0 ∨ mvE δ ≤ a0 ∨ mvE δ ≤ a1)) ∨ ((0 ≤ a0 ∧ 0 ≤ a1 ∧ a0 < mvE δ ∧ a1 < mvE δ) ∧ (a0 = a1 ∧ z = (1, δ) ∨ a0 ≠ a1 ∧ (∀ j k, j ≠ 46 → j ≠ 47 → z.2 j k = δ j k) ∧ (z.1 = 1 ∧ Rp (EdM δ) a0 a1 ∨ z.1 = 0 ∧ ¬ Rp (EdM δ) a0 a1)))
theorem mca_pc (h46 : ∀ u, δ 46 u = 0 ∨ δ 46 u = 1) (hq : 0 ≤ a0 → a0 < mvE (setA δ 0 2 0) → CgI (setA δ 0 2 0) ∧ a0 < setA δ 0 2 0 0 51) : pc (f_M_causes_1 δ a0 a1) (CaP (setA δ 0 2 0) a0 a1) := by
  unfold f_M_causes_1
  refine pc_a ?_
  have h46 : ∀ u, setA δ 0 2 0 46 u = 0 ∨ setA δ 0 2 0 46 u = 1 := fun u => by rw [stA, if_neg (by omega)]; exact h46 u
  generalize setA δ 0 2 0 = δ1 at *
  have bad : (a0 < 0 ∨ a1 < 0 ∨ mvE δ1 ≤ a0 ∨ mvE δ1 ≤ a1) → pc (f_M_causes_1_b31 δ1 a0 a1 1) (CaP δ1 a0 a1) := fun q => by
    unfold f_M_causes_1_b31 f_M_causes_1_b36
    rw [bndN_eq rf_1, if_neg (by decide)]
    exact pc_s (Or.inl ⟨rfl, q⟩)
  refine pc_i (fun q => bad (Or.inl q)) (fun q => pc_i (fun q1 => bad (Or.inr (Or.inl q1))) (fun q1 => pc_b mv_pc (fun r γ' p => ?_)))
  have p1 : γ' = δ1 := p.1
  have p2 : r = mvE δ1 := p.2
  subst p1
  refine pc_i (fun q2 => bad (by omega)) (fun q2 => pc_b mv_pc (fun r' γ2 p => ?_))
  have p1 : γ2 = γ' := p.1
  have p2' : r' = mvE γ' := p.2
  subst p1
  refine pc_i (fun q3 => ?_) (fun q3 => bad (by omega))
  unfold f_M_causes_1_b36
  rw [bndN_eq rf_0, if_pos rfl]
  refine pc_i (fun e => pc_s (Or.inr ⟨by omega, Or.inl ⟨e, rfl⟩⟩)) (fun e => ?_)
  have g := hq (by omega) (by omega)
  refine pc_b (w_caused (b := a1) g.1 h46 ⟨by omega, g.2⟩).pc (fun r3 γ3 p => ?_)
  obtain ⟨c1, c2, c3⟩ := p
  have c3 : (r3 = 1 ∧ Rp (EdM γ2) a0 a1) ∨ (r3 = 0 ∧ ¬ Rp (EdM γ2) a0 a1) := c3
  refine pc_i (fun t => pc_s (Or.inr ⟨by omega, Or.inr ⟨e, c1, Or.inr ⟨rfl, ?_⟩⟩⟩)) (fun t => pc_s (Or.inr ⟨by omega, Or.inr ⟨e, c1, Or.inl ⟨rfl, ?_⟩⟩⟩))
  · rcases c3 with u | u
    · exfalso; omega
    · exact u.2
  · rcases c3 with u | u
    · exact u.2
    · exfalso; omega
theorem iv_causes (hC : ClsI c γ) (hc : c < 512) (hM : MoI c δ) (hI : Inv γ δ) : pq (e_L_causes γ w a0 a1) (f_M_causes_1 δ a0 a1) (fun y z => z.2 0 2 = y.1 ∧ (y.1 = 0 → y.2.2 = 1 ∧ z.1 = 1 ∨ y.2.2 = 0 ∧ z.1 = 0) ∧ Inv y.2.1 z.2) := by
  intro y z e1 e2
  have s := lcs_pc hC hc y e1
  have ks := kl_causes hC hc y e1
  have h := hI.s2 (v := 0)
  have m := mca_pc hM.2.2.2.2.1.1 (fun q1 q2 => by
    have va := h.va (k := a0)
    have p := h.pr (k := a0) (fun t => by have := va.1 t; omega)
    have sz := p.1.sz
    refine ⟨?_, by omega⟩
    obtain ⟨G, D, σ, κ, P, τ, V, S, ⟨st, tb⟩, ⟨b1, b2, b3, b4, b5⟩, v, k⟩ := p.1
    exact tb.2.2.1.fr (b2 0 51 (by omega) (by omega) (by omega) (by omega)) (b2 0 67 (by omega) (by omega) (by omega) (by omega)) (fun k => b2 44 k (by omega) (by omega) (by omega) (by omega)) (fun k => b2 45 k (by omega) (by omega) (by omega) (by omega))) z e2
  have z2 : setA δ 0 2 0 0 2 = 0 := s02_at
  generalize setA δ 0 2 0 = δ1 at *
  have v0 := h.va (k := a0)
  have v1 := h.va (k := a1)
  unfold CaP at m
  rcases s with ⟨s1, s2⟩ | ⟨s1, s2, s3, s4⟩
  · rcases m with ⟨m1, m2⟩ | ⟨m1, m2⟩
    · rw [s1, m1]; exact ⟨s02_at (δ := δ1), fun q => absurd (show (1 : Int) = 0 from q) (by decide), h.s2⟩
    · exfalso; omega
  · rcases m with ⟨m1, m2⟩ | ⟨m1, m2⟩
    · exfalso; omega
    · have p0 := h.pr s2.1
      have p1 := h.pr s2.2
      have kc : KcS γ y.2.1 := fun j k w1 w2 w3 w4 w5 => s3 j k w4 w5 (Or.inl w2)
      rcases m2 with ⟨e, m2⟩ | ⟨e, f, m2⟩
      · rw [m2, s1]
        refine ⟨z2, fun _ => ?_, h.kc kc KcM.rf (h.1.kp ks KM.rf)⟩
        rcases s4 with u | u
        · exact Or.inl ⟨u.1, rfl⟩
        · exact absurd (by rw [e]; exact Rc.rf) u.2
      · have re := p0.1.re e p0.2.1 p0.2.2 p1.2.2
        refine ⟨by rw [f 0 2 (by omega) (by omega), s1]; exact z2, fun _ => ?_, h.kc kc (fun j k w1 w2 w3 w4 => f j k w3 w4) (h.1.kp ks (fun j k w1 w2 w3 w4 => f j k w2 w3))⟩
        rcases s4 with u | u
        · rcases m2 with t | t
          · exact Or.inl ⟨u.1, t.1⟩
          · exact absurd (re.1 u.2) t.2
        · rcases m2 with t | t
          · exact absurd (re.2 t.2) u.2
          · exact Or.inr ⟨u.1, t.1⟩
-- tick
theorem ltk_pc : pc (e_L_tick γ w a0) (fun y => (y = (1, γ, w) ∧ (a0 < 1 ∨ 1000 < a0)) ∨ (y = (2, γ, w) ∧ (1 ≤ a0 ∧ a0 ≤ 1000) ∧ γ 0 12 < 0) ∨ ((1 ≤ a0 ∧ a0 ≤ 1000) ∧ 0 ≤ γ 0 12 ∧ y.1 = 0 ∧ ∃ r γ5, f_Pg_run γ a0 = some (r, γ5) ∧ y.2.1 = setA γ5 0 13 (γ5 0 13 + a0) ∧ y.2.2 = γ5 0 13 + a0)) := by
  unfold e_L_tick
  refine hclp (R := fun z => (1 ≤ a0 ∧ a0 ≤ 1000) ∧ 0 ≤ γ 0 12 ∧ ∃ r γ5, f_Pg_run γ a0 = some (r, γ5) ∧ z.2 = setA γ5 0 13 (γ5 0 13 + a0) ∧ z.1 = γ5 0 13 + a0) (E := fun x => (x = 2 ∧ (a0 < 1 ∨ 1000 < a0)) ∨ (x = 1 ∧ (1 ≤ a0 ∧ a0 ≤ 1000) ∧ γ 0 12 < 0)) ?_ ?_ (fun r γ' q => pc_s (Or.inr (Or.inr ⟨q.1, q.2.1, rfl, q.2.2⟩))) (fun x q => ?_)
  · unfold f_S_tick f_S_tick_b12
    refine pc_i (fun _ => pc_n) (fun q => pc_i (fun q1 => pc_i (fun q2 => pc_b (P := fun z => f_Pg_run γ a0 = some z) (fun z e => e) (fun r γ5 p => pc_c (fun _ => pc_a (pc_s ⟨by omega, q2, r, γ5, p, rfl, ?_⟩)))) (fun _ => pc_n)) (fun _ => pc_n))
    show setA γ5 0 13 (γ5 0 13 + a0) 0 13 = _
    rw [stA, if_pos ⟨rfl, rfl⟩]
  · unfold g_S_tick g_S_tick_b12
    exact pc_i (fun q => pc_s (Or.inl ⟨rfl, Or.inl q⟩)) (fun q => pc_i (fun q1 => pc_i (fun _ => pc_n) (fun q2 => pc_s (Or.inr ⟨rfl, by omega, by omega⟩))) (fun q1 => pc_s (Or.inl ⟨rfl, by omega⟩)))
  · rcases q with ⟨q, r⟩ | ⟨q, r⟩
    · rw [q]; exact pc_s (Or.inl ⟨rfl, r⟩)
    · rw [q]; exact pc_s (Or.inr (Or.inl ⟨rfl, r⟩))
def TkQ (δ : St) (a0 : Int) (z : Int × St) : Prop := (z = (0, setA δ 0 2 1) ∧ (a0 < 1 ∨ 1000 < a0)) ∨ (z = (0, setA δ 0 2 2) ∧ (1 ≤ a0 ∧ a0 ≤ 1000) ∧ δ 0 49 < 0) ∨ ((1 ≤ a0 ∧ a0 ≤ 1000) ∧ 0 ≤ δ 0 49 ∧ f_M_tick_L54 FU δ a0 0 = some z)
theorem mtk_pc : pc (f_M_tick δ a0) (TkQ (setA δ 0 2 0) a0) := by
  unfold f_M_tick
  refine pc_a ?_
  generalize setA δ 0 2 0 = δ1
  have bad : (a0 < 1 ∨ 1000 < a0) → pc (f_M_tick_b19 δ1 a0 1) (TkQ δ1 a0) := fun q => by
    unfold f_M_tick_b19 f_M_tick_b24
    rw [bndN_eq rf_1, if_pos (by decide)]
    exact pc_s (Or.inl ⟨rfl, q⟩)
  refine pc_i (fun q => bad (Or.inl q)) (fun q => pc_i (fun q1 => ?_) (fun q1 => bad (by omega)))
  unfold f_M_tick_b24
  rw [bndN_eq rf_0, if_neg (by decide)]
  refine pc_i (fun q2 => ?_) (fun q2 => ?_)
  · unfold f_M_tick_b44
    rw [bndN_eq rf_0, if_pos rfl]
    exact fun z e => Or.inr (Or.inr ⟨by omega, q2, e⟩)
  · unfold f_M_tick_b44
    rw [bndN_eq rf_1, if_neg (by decide)]
    exact pc_s (Or.inr (Or.inl ⟨rfl, by omega, by omega⟩))
theorem iv_tick (hC : ClsI c γ) (hI : Inv γ δ) : pq (e_L_tick γ w a0) (f_M_tick δ a0) AnQ := by
  intro y z e1 e2
  have s := ltk_pc y e1
  have m := mtk_pc z e2
  have ks := kl_tick hC y e1
  have h := hI.s2 (v := 0)
  have z2 : setA δ 0 2 0 0 2 = 0 := s02_at
  generalize setA δ 0 2 0 = δ1 at *
  unfold TkQ at m
  rcases h.2 with q | q
  · rcases s with ⟨s1, s2⟩ | ⟨s1, s2⟩ | ⟨s1, s2, _⟩
    · rcases m with ⟨m1, m2⟩ | ⟨m1, m2⟩ | ⟨m1, m2⟩
      · rw [s1, m1]; exact an_rf h (by decide)
      · exfalso; omega
      · exfalso; omega
    · rcases m with ⟨m1, m2⟩ | ⟨m1, m2⟩ | ⟨m1, m2⟩
      · exfalso; omega
      · rw [s1, m1]; exact an_rf h (by decide)
      · exfalso; omega
    · exfalso; omega
  · have sz := q.sz
    rcases s with ⟨s1, s2⟩ | ⟨s1, s2⟩ | ⟨s1, s2, s3, r, γ5, s4, s5, s6⟩
    · rcases m with ⟨m1, m2⟩ | ⟨m1, m2⟩ | ⟨m1, m2⟩
      · rw [s1, m1]; exact an_rf h (by decide)
      · exfalso; omega
      · exfalso; omega
    · exfalso; omega
    · rcases m with ⟨m1, m2⟩ | ⟨m1, m2⟩ | ⟨m1, m2, m3⟩
      · exfalso; omega
      · exfalso; omega
      · obtain ⟨G, D, σ, κ, P, τ, V, S, ⟨st, tb⟩, ⟨b1, b2, b3, b4, b5⟩, v, k⟩ := q
        have kV := st.1.2.2.2.2.2.1.2
        have m0 := st.1.1.2.2.2.2.2.2.2.1
        have k2v := st.2.2.2.2.2.2.1
        have e51 : δ1 0 51 = D 0 51 := b2 0 51 (by omega) (by omega) (by omega) (by omega)
        have e18 : δ1 0 18 = D 0 18 := b2 0 18 (by omega) (by omega) (by omega) (by omega)
        have r4 : δ1 4 = D 4 := funext fun k => b2 4 k (by omega) (by omega) (by omega) (by omega)
        have r5 : δ1 5 = D 5 := funext fun k => b2 5 k (by omega) (by omega) (by omega) (by omega)
        have r6 : δ1 6 = D 6 := funext fun k => b2 6 k (by omega) (by omega) (by omega) (by omega)
        have t5 := sz.2.2.2.2
        rw [sz.1.2.2, e18, r4, r5, r6, e51] at t5
        have nv : nvN D (D 0 18 - 1) = D 4 (D 0 18 - 1 + 1) - D 4 (D 0 18 - 1) := rfl
        have key : pc (f_Pg_run_L2 f_Pg_run_b25 FU γ a0 0) (fun y => ∃ γ1 δ', RuR G D σ τ V S γ1 δ' ∧ ShR G γ1 δ' V ∧ (∀ j k, j ≠ 79 → j ≠ 81 → j ≠ 87 → γ1 j k = γ j k) ∧ F5x δ1 δ' ∧ δ' 0 72 = δ1 0 72 + a0 ∧ z = (δ' 0 72, δ') ∧ (∀ j k, j ≠ 76 → y.2 j k = γ1 j k) ∧ ∀ k, 0 ≤ k → k < γ1 11 5 → y.2 76 k = if OnC γ1 (γ1 59 k) ≠ 1 then 1099511627776 else WV γ1 k) := by
          refine rn_L2 (γ0 := γ) (fun γ2 f1 f2 f3 => ?_) FU γ 0 (fun _ _ _ => rfl) (fun k q1 q2 => by exfalso; omega) (fun _ _ => rfl) (Int.le_refl _) (by omega)
          unfold f_Pg_run_b25
          intro y e
          have ru : RuR G D σ τ V S γ2 δ1 := by
            refine ⟨b1.fr (fun j k w1 w2 w3 w4 w5 w6 w7 w8 w9 w10 w11 w12 => f1 j k w9) ⟨f1 11 9 (by omega), f1 11 17 (by omega)⟩ (fun s t => ?_) (f1 87 0 (by omega)), b2, ?_, fun i w1 w2 => ?_⟩
            · by_cases u : s < 0 ∨ γ 11 4 ≤ s
              · exact f3 s u
              · have := k2v s (by omega) (by omega)
                omega
            · exact b4.ag st (fun i _ _ => f1 81 i (by omega)) (fun i _ _ => rfl)
            · rw [m0.1] at w2
              rw [f2 i w1 (by omega)]
              exact b5 i w1 w2
          obtain ⟨γ1, δ', x1, x2, x3, x4, x5, x6, x7, x8⟩ := pq_run st (N := a0) FU FU γ2 δ1 0 ru (fun t => by exfalso; omega) (Int.le_refl _) (by omega) y z e m3
          exact ⟨γ1, δ', x1, x2 (by omega), fun j k w1 w2 w3 => (x3 j k w1 w2 w3).trans (f1 j k w1), x4, by omega, x6, x7, x8⟩
        obtain ⟨γ1, δ', x1, x2, x3, x4, x5, x6, x7, x8⟩ := key (r, γ5) s4
        have x7 : ∀ (j : Nat) (k : Int), j ≠ 76 → γ5 j k = γ1 j k := x7
        have x8 : ∀ k, 0 ≤ k → k < γ1 11 5 → γ5 76 k = if OnC γ1 (γ1 59 k) ≠ 1 then 1099511627776 else WV γ1 k := x8
        obtain ⟨y1, γ3, yw⟩ := y
        have s3 : y1 = 0 := s3
        have s5 : γ3 = setA γ5 0 13 (γ5 0 13 + a0) := s5
        have s6 : yw = γ5 0 13 + a0 := s6
        have g13 : γ5 0 13 = γ 0 13 := (x7 0 13 (by omega)).trans (x3 0 13 (by omega) (by omega) (by omega))
        have g3 : ∀ (j : Nat) (k : Int), (j = 0 → k ≠ 13) → γ3 j k = γ5 j k := fun j k u => by rw [s5, stA, if_neg (by omega)]
        have g313 : γ3 0 13 = γ 0 13 + a0 := by rw [s5, stA, if_pos ⟨rfl, rfl⟩, g13]
        have gs : ∀ (j : Nat) (k : Int), (j = 0 → k ≠ 13) → j ≠ 76 → j ≠ 79 → j ≠ 81 → j ≠ 87 → γ3 j k = γ j k := fun j k u1 u2 u3 u4 u5 => by rw [g3 j k u1, x7 j k u2, x3 j k u3 u4 u5]
        obtain ⟨c1, c2, c3, c4⟩ := x1
        rw [x6]
        have km : KM δ1 δ' := fun j k w1 w2 w3 w4 => x4 j k (by omega) (by omega)
        refine ⟨by show δ' 0 2 = y1; rw [x4 0 2 (by omega) (by omega), s3]; exact z2, fun _ => by show yw = δ' 0 72; rw [s6, x5, g13, v.1], h.1.kp ks km, Or.inr ?_⟩
        refine ⟨G, D, σ, κ, P, τ, V, S, ⟨st, tb⟩, ⟨c1.fr (fun j k w1 w2 w3 w4 w5 w6 w7 w8 w9 w10 w11 w12 => (g3 j k (by omega)).trans (x7 j k w7)) ⟨(g3 11 9 (by omega)).trans (x7 11 9 (by omega)), (g3 11 17 (by omega)).trans (x7 11 17 (by omega))⟩ (fun s _ => (g3 79 s (by omega)).trans (x7 79 s (by omega))) ((g3 87 0 (by omega)).trans (x7 87 0 (by omega))), c2, ?_, ?_, fun i w1 w2 => ?_⟩, ⟨?_, fun n k w1 w2 => ?_⟩, ?_⟩
        · show γ3 0 12 = _ ∧ γ3 11 4 = _ ∧ γ3 11 5 = _
          rw [gs 0 12 (by omega) (by omega) (by omega) (by omega) (by omega), gs 11 4 (by omega) (by omega) (by omega) (by omega) (by omega), gs 11 5 (by omega) (by omega) (by omega) (by omega) (by omega)]; exact b3
        · exact c3.ag st (fun i _ _ => (g3 81 i (by omega)).trans (x7 81 i (by omega))) (fun i _ _ => rfl)
        · show γ3 12 i = δ' 50 i ∧ (_ → Bl (δ' 50 i))
          rw [gs 12 i (by omega) (by omega) (by omega) (by omega) (by omega), x4 50 i (by omega) (by omega)]; exact b5 i w1 w2
        · show γ3 0 13 = δ' 0 72
          rw [g313, x5, v.1]
        · have n5 : γ1 11 5 = nvN D (D 0 18 - 1) := (x3 11 5 (by omega) (by omega) (by omega)).trans b3.2.2
          have e59 : γ1 59 k = G 59 k := c1.1 59 k (by omega) (by omega) (by omega) (by omega) (by omega) (by omega) (by omega)
          have sh := x2 k w1 (by omega)
          have g76 := x8 k w1 (by omega)
          show γ3 76 k = if δ' 55 k = 0 then 1099511627776 else δ' 51 k
          rw [g3 76 k (by omega), g76, e59]
          by_cases u : OnC γ1 (G 59 k) = 1
          · have u2 := sh.2.1.1 u
            rw [if_neg (by omega), if_neg (by omega)]; exact sh.2.2 u2
          · have u2 : δ' 55 k ≠ 1 := fun t => u (sh.2.1.2 t)
            rw [if_pos u, if_pos (by omega)]
        · show PrK G D σ τ γ3 δ'
          have f82 : γ3 82 = γ 82 := funext fun k => gs 82 k (by omega) (by omega) (by omega) (by omega) (by omega)
          have f77 : γ3 77 = γ 77 := funext fun k => gs 77 k (by omega) (by omega) (by omega) (by omega) (by omega)
          have f56 : δ' 56 = δ1 56 := funext fun k => x4 56 k (by omega) (by omega)
          have f57 : δ' 57 = δ1 57 := funext fun k => x4 57 k (by omega) (by omega)
          have f58 : δ' 58 = δ1 58 := funext fun k => x4 58 k (by omega) (by omega)
          unfold PrK at k ⊢
          rw [f82, f77, f56, f57, f58, gs 0 14 (by omega) (by omega) (by omega) (by omega) (by omega), x4 0 83 (by omega) (by omega), x4 0 82 (by omega) (by omega)]
          exact k
end CD
