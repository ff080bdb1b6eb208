/-! equality: what is known of the reference behind a node's head -/
theorem bT_A {α : Type} {x : α} {K : α → Option Res} {k : Int → St → Option Res} : bndT (ap x K) k = ap x (fun y => bndT (K y) k) := rfl
def HdO (γ0 : St) (z : Res) : Prop := ∀ r, z.1 = .inr r → NdD γ0 z.2 ∧ F56 γ0 z.2 ∧ γ0 0 5 < z.2 0 5
theorem HdO.er {γ0 γ : St} {e : Int × Int} : HdO γ0 (.inl e, γ) := fun r q => by cases q
theorem h_L221 {γ0 : St} : ∀ (n : Nat) (γ : St), NdD γ0 γ → F56 γ0 γ → γ0 0 5 < γ 0 5 → γ 0 1 - γ 0 5 < n → wp (f_M_node_L221 x0 n γ) (HdO γ0) := by
  intro n
  induction n with
  | zero => intro γ h1 h2 h3 h4; have := h1.1.1.2.1; exfalso; omega
  | succ n ih =>
    intro γ h1 h2 h3 h4
    have m := Mv.pk0 h1.lx
    have m5 := m.2.2
    have d := h1.mv m
    unfold f_M_node_L221
    refine wp_yn (w_nameHere h1.lx) (fun q => ?_) (fun q => ?_)
    · rw [if_neg (by decide)]
      refine wp_bndT (w_group d.1) (fun e γ' z => HdO.er) (fun r γ' z => ?_)
      have g : GrQ (pkS γ) r γ' := (z.2.1 r rfl).1
      have d2 := d.gi g.1
      refine wp_must d2.lx (fun q2 => ?_) (fun q2 => HdO.er)
      have m2 := Mv.tk0 d2.lx
      have m25 := m2.2.2
      have g5 := g.2.2
      have e1 : γ' 0 1 = γ 0 1 := by rw [g.1.2.1 0 1 (by omega) (by omega)]; exact m.2.1 0 1 (by omega)
      have lb := h1.1.1.2.1
      exact ih _ (d2.mv m2) (((h2.mv m).gi g.1).mv m2) (by omega) (by rw [m2.2.1 0 1 (by omega)]; omega)
    · rw [if_pos rfl]
      unfold x0
      exact wp_some (fun r q => ⟨d, h2.mv m, by show γ0 0 5 < pkS γ 0 5; omega⟩)
theorem h_b32 {γ0 γ : St} (t : TpW γ0) (m0 : Mv γ0 γ) (h58 : kwQ γ 0 → γ0 0 18 ≤ 58) : wp (bndT (ndH γ) fun _ δ1 => vrs δ1) (HdO γ0) := by
  have := FU_v
  have ⟨⟨t1, t2, t3⟩, t4, t5, t6, t7, t8, t9, t10, t11⟩ := t
  unfold ndH ndN ndI ndO vrs
  simp only [bT_T, bT_N, bT_I, bT_C, bT_A, bT_e, bT_x0]
  refine wp_mustBe m0.1 (fun q => ?_) (fun q => HdO.er)
  have nd := h58 q
  have lt0 := Mv.nz m0.1 (by rw [q.1]; decide)
  have l0 := m0.2.2
  have m1 := m0.tk
  have m2 := m1.pk
  have e := m2.2.1
  have m25 := (Mv.pk0 m1.1).2.2
  have tk := m1.1.tko
  refine wp_yn (w_nameHere m1.1) (fun q2 => ?_) (fun q2 => ?_)
  · rw [if_pos (by decide)]
    have e18 := e 0 18 (by omega)
    have e19 := e 0 19 (by omega)
    refine wp_bnd (w_nodeHere tk (by rw [e18]; exact fun v q1 q2 => by rw [e 2 v (by omega), e 3 v (by omega)]; exact t3 v q1 q2) (by omega)) (fun r γ' hz => ?_)
    obtain ⟨r', e', f⟩ := hz
    cases e'
    refine wp_ite (fun q3 => ?_) (fun q3 => wp_some (HdO.er))
    have ml := m2.1
    have mr := m2.re
    unfold TkO at tk
    generalize pkS (tkS γ) = γ1 at *
    rw [e18]
    refine wp_chk (by omega) (wp_sub ?_)
    have c1 : ∀ k, setA γ1 2 (γ0 0 18) (γ1 0 7) 0 k = γ1 0 k := fun k => by rw [stA, if_neg (by omega)]
    rw [c1, c1, c1, e18]
    refine wp_chk (by omega) (wp_chk (by omega) (wp_sub ?_))
    have s : ∀ i k, setA (setA γ1 2 (γ0 0 18) (γ1 0 7)) 3 (γ0 0 18) (γ1 0 8 - γ1 0 7) i k = if i = 3 ∧ k = γ0 0 18 then γ1 0 8 - γ1 0 7 else if i = 2 ∧ k = γ0 0 18 then γ1 0 7 else γ1 i k := fun i k => by rw [stA, stA]
    generalize setA (setA γ1 2 (γ0 0 18) (γ1 0 7)) 3 (γ0 0 18) (γ1 0 8 - γ1 0 7) = γ2 at *
    have s0 : ∀ i k, (i = 2 ∨ i = 3 → k ≠ γ0 0 18) → γ2 i k = γ1 i k := fun i k q => by rw [s, if_neg (by omega), if_neg (by omega)]
    have lx2 : LX γ2 := ml.fr (funext fun k => s0 1 k (by omega)) (fun k q => s0 0 k (by omega))
    have m3 := Mv.tk0 lx2
    refine wp_bs (tkM_eq lx2) ?_
    have u0 : ∀ i k, (i = 0 → k < 5 ∨ 9 < k) → (i = 2 ∨ i = 3 → k ≠ γ0 0 18) → tkS γ2 i k = γ0 i k := fun i k q1 q2 => by rw [m3.2.1 i k (by omega), s0 i k q2, e i k (by omega)]
    have m35 := m3.2.2
    have v5 := s0 0 5 (by omega)
    have u2 : tkS γ2 2 (γ0 0 18) = γ1 0 7 := by rw [m3.2.1 2 _ (by omega), s, if_neg (by omega), if_pos ⟨rfl, rfl⟩]
    have u3 : tkS γ2 3 (γ0 0 18) = γ1 0 8 - γ1 0 7 := by rw [m3.2.1 3 _ (by omega), s, if_pos ⟨rfl, rfl⟩]
    have ml3 := m3.1
    generalize tkS γ2 = γ3 at *
    rw [u0 0 18 (by omega) (by omega), u0 0 19 (by omega) (by omega)]
    refine wp_chk (by omega) (wp_sub ?_)
    have w : ∀ i k, setA γ3 4 (γ0 0 18) (γ0 0 19) i k = if i = 4 ∧ k = γ0 0 18 then γ0 0 19 else γ3 i k := fun i k => by rw [stA]
    generalize setA γ3 4 (γ0 0 18) (γ0 0 19) = γ4 at *
    have w0 : ∀ i k, (i = 4 → k ≠ γ0 0 18) → γ4 i k = γ3 i k := fun i k q => by rw [w, if_neg (by omega)]
    have w1 : ∀ i k, (i = 0 → k < 5 ∨ 9 < k) → (2 ≤ i → i ≤ 4 → k ≠ γ0 0 18) → γ4 i k = γ0 i k := fun i k q1 q2 => by rw [w0 i k (by omega), u0 i k q1 (by omega)]
    have x18 : γ4 0 18 = γ0 0 18 := w1 0 18 (by omega) (by omega)
    have x19 : γ4 0 19 = γ0 0 19 := w1 0 19 (by omega) (by omega)
    have x4 : γ4 4 (γ0 0 18) = γ0 0 19 := by rw [w, if_pos ⟨rfl, rfl⟩]
    have x5 : γ4 0 5 = γ3 0 5 := w0 0 5 (by omega)
    have d : NdD γ0 γ4 := by
      refine ⟨⟨ml3.fr (funext fun k => w0 1 k (by omega)) (fun k q => w0 0 k (by omega)), by omega, by rw [x18, x4]; omega, by rw [x18, x4]; omega, fun v q1 q2 => ?_, fun v q1 q2 => ?_, fun v => by rw [w1 14 v (by omega) (by omega)]; exact t10.1 v⟩, fun i k q1 q2 q3 => w1 i k (by omega) (by omega), by omega, ⟨x4, by omega⟩, fun v q1 q2 => by omega, fun v q1 q2 => ?_⟩
      · rw [x18, x4] at q1; omega
      · rw [x18, x4] at q1; omega
      · by_cases q4 : v = γ0 0 18
        · rw [q4, w0 2 _ (by omega), w0 3 _ (by omega), u2, u3]; omega
        · rw [w1 2 v (by omega) (by omega), w1 3 v (by omega) (by omega)]; exact t3 v q1 (by omega)
    have lt4 : γ0 0 5 < γ4 0 5 := by omega
    refine wp_bndT (w_groups d.1) (fun e γ' z => HdO.er) (fun r γ5 z => ?_)
    have g : GrQ γ4 r γ5 := (z.2.1 r rfl).1
    have gn5 : GN γ4 γ5 := (z.2.1 r rfl).2 rfl
    have d5 := d.gi g.1
    have g19 := g.2.1
    have g5 := g.2.2
    have nd5 := d5.1.2.1
    have n4 := d5.1.2.2.2.1
    rw [d5.e18] at nd5
    rw [d5.e18, d5.2.2.2.1.1] at n4
    rw [d5.e18, d5.2.2.2.1.1]
    refine wp_chk (by omega) (wp_chk (by omega) (wp_chk (by omega) (wp_sub ?_)))
    have d6 := d5.set (A := 5) (w := γ5 0 19 - γ0 0 19) (by omega) rfl
    have f5 : setA γ5 5 (γ0 0 18) (γ5 0 19 - γ0 0 19) 5 (γ0 0 18) = γ5 0 19 - γ0 0 19 := by rw [stA, if_pos ⟨rfl, rfl⟩]
    have f12 : ∀ k, setA γ5 5 (γ0 0 18) (γ5 0 19 - γ0 0 19) 12 k = γ5 12 k := fun k => by rw [stA, if_neg (by omega)]
    have f0 : ∀ k, setA γ5 5 (γ0 0 18) (γ5 0 19 - γ0 0 19) 0 k = γ5 0 k := fun k => by rw [stA, if_neg (by omega)]
    generalize setA γ5 5 (γ0 0 18) (γ5 0 19 - γ0 0 19) = γ6 at *
    refine wp_mustBe d6.lx (fun q4 => ?_) (fun q4 => HdO.er)
    have m7 := Mv.tk0 d6.lx
    have d7 := d6.mv m7
    have i5 := m7.2.1 5 (γ0 0 18) (by omega)
    have i12 : ∀ k, tkS γ6 12 k = γ6 12 k := fun k => m7.2.1 12 k (by omega)
    have i19 := m7.2.1 0 19 (by omega)
    have j5 := m7.2.2
    generalize tkS γ6 = γ7 at *
    refine wp_bndT (w_groups d7.1) (fun e γ' z => HdO.er) (fun r γ8 z => ?_)
    have g : GrQ γ7 r γ8 := (z.2.1 r rfl).1
    have gn8 : GN γ7 γ8 := (z.2.1 r rfl).2 rfl
    have d8 := d7.gi g.1
    have g19' := g.2.1
    have g5' := g.2.2
    have k5 : γ8 5 (γ0 0 18) = γ5 0 19 - γ0 0 19 := by rw [g.1.2.1 5 _ (by omega) (by omega), i5, f5]
    have n4' := d8.1.2.2.2.1
    have f19 := f0 19
    have f05 := f0 5
    rw [d8.e18, d8.2.2.2.1.1] at n4'
    rw [d8.e18, d8.2.2.2.1.1, k5]
    refine wp_chk (by omega) (wp_chk (by omega) (wp_chk (by omega) (wp_chk (by omega) (wp_chk (by omega) (wp_sub ?_)))))
    have d9 := d8.set (A := 6) (w := γ8 0 19 - γ0 0 19 - (γ5 0 19 - γ0 0 19)) (by omega) rfl
    have p6 : setA γ8 6 (γ0 0 18) (γ8 0 19 - γ0 0 19 - (γ5 0 19 - γ0 0 19)) 6 (γ0 0 18) = γ8 0 19 - γ0 0 19 - (γ5 0 19 - γ0 0 19) := by rw [stA, if_pos ⟨rfl, rfl⟩]
    have p0 : ∀ i k, i ≠ 6 → setA γ8 6 (γ0 0 18) (γ8 0 19 - γ0 0 19 - (γ5 0 19 - γ0 0 19)) i k = γ8 i k := fun i k q => by rw [stA, if_neg (by omega)]
    generalize setA γ8 6 (γ0 0 18) (γ8 0 19 - γ0 0 19 - (γ5 0 19 - γ0 0 19)) = γ9 at *
    have p5 := p0 5 (γ0 0 18) (by omega)
    have p19 := p0 0 19 (by omega)
    have p05 := p0 0 5 (by omega)
    have h56 : F56 γ0 γ9 := by
      unfold F56
      rw [p5, p6, k5, p19]
      refine ⟨by omega, fun v q1 q2 => ?_⟩
      rw [p0 12 v (by omega)]
      by_cases q8 : v < γ5 0 19
      · rw [g.1.2.1 12 v (by omega) (by omega), i12, f12]
        exact gn5 v (by omega) q8
      · exact gn8 v (by omega) (by omega)
    refine wp_must d9.lx (fun q5 => ?_) (fun q5 => HdO.er)
    have m10 := Mv.tk0 d9.lx
    have m11 := m10.pk
    have o5 := m11.2.2
    refine wp_yn (w_is m10.1 2) (fun q6 => ?_) (fun q6 => ?_)
    · rw [if_neg (by decide)]
      have m12 := m11.tk
      have o5' := m12.2.2
      have da := d9.mv m12
      refine wp_bs (tkM_eq m11.1) ?_
      refine wp_bndT (w_group da.1) (fun e γ' z => HdO.er) (fun r γb z => ?_)
      have g : GrQ _ r γb := (z.2.1 r rfl).1
      have db := da.gi g.1
      have gb := g.2.2
      refine wp_must db.lx (fun q2 => ?_) (fun q2 => HdO.er)
      have mc := Mv.tk0 db.lx
      have mc5 := mc.2.2
      have lb := mc.1.1
      have lb5 := mc.1.2.1
      exact h_L221 FU _ (db.mv mc) (((h56.mv m12).gi g.1).mv mc) (by omega) (by omega)
    · rw [if_pos rfl]
      unfold x0
      exact wp_some (fun r q => ⟨d9.mv m11, h56.mv m11, by show γ0 0 5 < pkS (tkS γ9) 0 5; omega⟩)
  · rw [if_neg (by decide)]
    exact wp_cant m2.1 (HdO.er)
theorem h_node {γ : St} (t : TpW γ) : wp (bndT (ndF γ) fun _ δ1 => vrs δ1) (HdO γ) := by
  have lx := t.1.1
  have m := Mv.pk0 lx
  have nd := t.1.2.1
  unfold ndF
  rw [bT_N]
  refine wp_yn (w_is lx 0) (fun q => ?_) (fun q => ?_)
  · rw [if_neg (by decide), m.2.1 0 18 (by omega), bT_I]
    refine wp_ite (fun q2 => h_b32 t m (fun _ => by omega)) (fun q2 => wp_some HdO.er)
  · rw [if_pos rfl]
    exact h_b32 t m (fun q2 => absurd ((pk_kw lx 0).1 q2) q)
