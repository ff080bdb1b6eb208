/-! the reference: the clocks fit -/
def ClP (δ : St) (v0 e : Int) (ms : List Int) : Prop := (δ 20 e = 2 → δ 24 e = δ 12 (v0 + δ 21 e)) ∧ (δ 20 e = 26 → (δ 24 (δ 22 e) = -2 ∨ δ 24 (δ 22 e) = δ 12 (v0 + δ 21 e / 2)) ∧ δ 24 e = δ 21 e) ∧ (δ 20 e = 25 → 0 ≤ δ 24 (δ 22 e) ∧ δ 24 e = δ 12 (v0 + δ 24 (δ 22 e) / 2)) ∧ (δ 20 e ≠ 2 → δ 20 e ≠ 26 → δ 20 e ≠ 25 → ∀ y ∈ ms, δ 24 y = -2 ∨ δ 24 y = δ 24 e)
/-- the clocks of an equation fit -/
def ClE (δ : St) (v0 k : Int) : Prop := (∀ e, δ 19 k ≤ e → e ≤ δ 17 k → ∃ ms, Ch (δ 23) (δ 22 e) ms ∧ (∀ y ∈ ms, δ 19 k ≤ y ∧ y < e) ∧ ((δ 20 e = 25 ∨ δ 20 e = 26) → δ 22 e ∈ ms) ∧ ClP δ v0 e ms) ∧ ∀ i, δ 16 k ≤ i → i < δ 16 (k + 1) → (δ 24 (δ 17 k) = -2 ∨ δ 24 (δ 17 k) = δ 12 (v0 + δ 18 i)) ∧ δ 12 (v0 + δ 18 i) = δ 12 (v0 + δ 18 (δ 16 k))
theorem ClE.fj {γ γ' : St} {v0 k : Int} (h : ClE γ v0 k) (f : FJ γ γ' k) (le : γ 19 k ≤ γ 17 k) : ClE γ' v0 k := by
  obtain ⟨f1, f2⟩ := f
  have e : ∀ j : Nat, j ≠ 0 → j ≠ 24 → j ≠ 28 → γ' j = γ j := fun j q1 q2 q3 => funext fun q => f1 j q q1 q2 q3
  unfold ClE
  rw [e 16 (by omega) (by omega) (by omega), e 17 (by omega) (by omega) (by omega), e 18 (by omega) (by omega) (by omega), e 19 (by omega) (by omega) (by omega), e 22 (by omega) (by omega) (by omega), e 23 (by omega) (by omega) (by omega), e 20 (by omega) (by omega) (by omega), e 12 (by omega) (by omega) (by omega)]
  refine ⟨fun x q1 q2 => ?_, fun i q1 q2 => by rw [f2 (γ 17 k) le (Int.le_refl _)]; exact h.2 i q1 q2⟩
  obtain ⟨ms, c1, c2, c4, c3⟩ := h.1 x q1 q2
  refine ⟨ms, c1, c2, c4, ?_⟩
  unfold ClP at c3 ⊢
  rw [e 12 (by omega) (by omega) (by omega), e 20 (by omega) (by omega) (by omega), e 21 (by omega) (by omega) (by omega), e 22 (by omega) (by omega) (by omega), f2 x q1 q2]
  have m22 : (γ 20 x = 25 ∨ γ 20 x = 26) → γ' 24 (γ 22 x) = γ 24 (γ 22 x) := fun q => by
    have := c2 _ (c4 q)
    exact f2 _ (by omega) (by omega)
  refine ⟨c3.1, fun q => by rw [m22 (Or.inr q)]; exact c3.2.1 q, fun q => by rw [m22 (Or.inl q)]; exact c3.2.2.1 q, fun w1 w2 w3 y hy => ?_⟩
  have := c2 y hy
  rw [f2 y (by omega) (by omega)]
  exact c3.2.2.2 w1 w2 w3 y hy
theorem jc_b223 {δ0 : St} {k : Int} (j0 : JI δ0 k) {δ : St} (f : Fk (δ0 19 k) (δ0 17 k) δ0 δ) (hv : ∀ x, 0 ≤ x → x < δ0 0 19 - δ0 4 (δ0 0 18) → δ0 12 (δ0 4 (δ0 0 18) + x) ≠ -2) (hP : ∀ e, δ0 19 k ≤ e → e ≤ δ0 17 k → ∃ ms, Ch (δ0 23) (δ0 22 e) ms ∧ (∀ y ∈ ms, δ0 19 k ≤ y ∧ y < e) ∧ ((δ0 20 e = 25 ∨ δ0 20 e = 26) → δ0 22 e ∈ ms) ∧ ClP δ (δ0 4 (δ0 0 18)) e ms) : pc (f_M_judge_b223 δ k (δ0 17 k) (δ0 16 (k + 1) - δ0 16 k)) (fun z => ∀ r, z.1 = .inr r → ClE z.2 (δ0 4 (δ0 0 18)) k) := by
  have er := j0.2.2.2.1
  have r2 := er.2.1
  have h5 := j0.2.2.2.2.1
  have g : ∀ j : Nat, j ≠ 0 → j ≠ 24 → j ≠ 28 → δ j = δ0 j := fun j q1 q2 q3 => funext fun t => f j t (by omega) (by omega) q3
  have e18 := f 0 18 (by omega) (by omega) (by omega)
  have lf : ∀ i, 0 ≤ i → i < δ0 16 (k + 1) - δ0 16 k → δ0 12 (δ0 4 (δ0 0 18) + δ0 18 (δ0 16 k + i)) ≠ -2 := fun i q1 q2 => by
    have := er.2.2.1 (δ0 16 k + i) (by omega) (by omega)
    exact hv _ (by omega) (by omega)
  have fin : ∀ c, (δ 24 (δ0 17 k) = -2 ∨ δ 24 (δ0 17 k) = c) → (∀ j, 0 ≤ j → j < δ0 16 (k + 1) - δ0 16 k → δ0 12 (δ0 4 (δ0 0 18) + δ0 18 (δ0 16 k + j)) = c) → ClE δ (δ0 4 (δ0 0 18)) k := fun c h1 h2 => by
    unfold ClE
    rw [g 16 (by omega) (by omega) (by omega), g 17 (by omega) (by omega) (by omega), g 18 (by omega) (by omega) (by omega), g 19 (by omega) (by omega) (by omega), g 20 (by omega) (by omega) (by omega), g 22 (by omega) (by omega) (by omega), g 23 (by omega) (by omega) (by omega), g 12 (by omega) (by omega) (by omega)]
    refine ⟨hP, fun i q1 q2 => ?_⟩
    have a := h2 (i - δ0 16 k) (by omega) (by omega)
    have b := h2 0 (by omega) (by omega)
    rw [show δ0 16 k + (i - δ0 16 k) = i by omega] at a
    rw [show δ0 16 k + 0 = δ0 16 k by omega] at b
    rw [a, b]
    exact ⟨h1, rfl⟩
  have hL : ∀ i, 0 ≤ i → i < δ0 16 (k + 1) - δ0 16 k → δ 12 (δ 4 (δ 0 18) + δ 18 (δ 16 k + i)) = (fun i => δ0 12 (δ0 4 (δ0 0 18) + δ0 18 (δ0 16 k + i)) : Int → Int) i := fun i _ _ => by
    rw [g 12 (by omega) (by omega) (by omega), g 4 (by omega) (by omega) (by omega), g 18 (by omega) (by omega) (by omega), g 16 (by omega) (by omega) (by omega), e18]
  unfold f_M_judge_b223
  refine pc_c (fun _ => pc_a ?_)
  by_cases q : δ 24 (δ0 17 k) = -2
  · show pc (f_M_judge_L234 (999999 + 1) δ k _ _ 0) _
    unfold f_M_judge_L234
    rw [if_neg (by omega), q]
    refine pc_c (fun _ => pc_c (fun _ => pc_c (fun _ => pc_b cOf_pc (fun r γ w => ?_))))
    cases w
    have e0 := hL 0 (Int.le_refl _) (by omega)
    rw [e0]
    refine pc_bT (tog_v (lf 0 (Int.le_refl _) (by omega))) (fun e γ' w => fun r w2 => by cases w2) (fun r γ' w => ?_)
    have w : r = (fun i => δ0 12 (δ0 4 (δ0 0 18) + δ0 18 (δ0 16 k + i)) : Int → Int) 0 ∧ γ' = δ := by
      rcases w with ⟨⟨w1, _⟩, _⟩ | ⟨_, w⟩
      · exact absurd rfl w1
      · cases w; exact ⟨rfl, rfl⟩
    rw [w.1, w.2]
    refine pc_c (fun _ => pc_m (L234_pc hL (fun i q1 q2 => lf i q1 q2) _ _ (0 + 1) (by omega) (lf 0 (Int.le_refl _) (by omega))) (fun z hz r hr => ?_))
    rcases hz with ⟨h1, h2⟩ | ⟨_, h2⟩
    · rw [h2]
      refine fin (δ0 12 (δ0 4 (δ0 0 18) + δ0 18 (δ0 16 k + 0))) (Or.inl q) (fun j q1 q2 => ?_)
      by_cases q3 : j = 0
      · rw [q3]
      · exact h1 j (by omega) q2
    · rw [h2] at hr; cases hr
  · refine pc_m (L234_pc hL (fun i q1 q2 => lf i q1 q2) FU _ 0 (Int.le_refl _) q) (fun z hz r hr => ?_)
    rcases hz with ⟨h1, h2⟩ | ⟨_, h2⟩
    · rw [h2]
      exact fin _ (Or.inr rfl) (fun j q1 q2 => h1 j q1 q2)
    · rw [h2] at hr; cases hr
theorem jc_L205 {δ0 : St} {k : Int} (j0 : JI δ0 k) (hv : ∀ x, 0 ≤ x → x < δ0 0 19 - δ0 4 (δ0 0 18) → δ0 12 (δ0 4 (δ0 0 18) + x) ≠ -2) : ∀ (n : Nat) (δ : St) (e : Int), Fk (δ0 19 k) (δ0 17 k) δ0 δ → (∀ v, δ 28 v = 0 ∨ δ 28 v = 1) → δ0 19 k ≤ e → (∀ y, δ0 19 k ≤ y → y < e → CkV (δ0 0 19 - δ0 4 (δ0 0 18)) (δ 24 y)) → (∀ y, δ0 19 k ≤ y → y < e → ∃ ms, Ch (δ0 23) (δ0 22 y) ms ∧ (∀ z ∈ ms, δ0 19 k ≤ z ∧ z < y) ∧ ((δ0 20 y = 25 ∨ δ0 20 y = 26) → δ0 22 y ∈ ms) ∧ ClP δ (δ0 4 (δ0 0 18)) y ms) → pc (f_M_judge_L205 f_M_judge_b223 n δ k (δ0 17 k) (δ0 16 (k + 1) - δ0 16 k) e) (fun z => ∀ r, z.1 = .inr r → ClE z.2 (δ0 4 (δ0 0 18)) k) := by
  intro n
  induction n with
  | zero => intro δ e _ _ _ _ _; exact pc_n
  | succ n ih =>
    intro δ e f b h1 h2 h3
    have ⟨a1, a2, a3, a4, a5, a6, a7, a8⟩ := j0.fk f b
    have ⟨b1, b2, b3, b4, b5, b6, b7, b8⟩ := j0
    have g : ∀ j : Nat, j ≠ 0 → j ≠ 24 → j ≠ 28 → δ j = δ0 j := fun j q1 q2 q3 => funext fun t => f j t (by omega) (by omega) q3
    have e18 := f 0 18 (by omega) (by omega) (by omega)
    have e19 := f 0 19 (by omega) (by omega) (by omega)
    have g4 := g 4 (by omega) (by omega) (by omega)
    have g12 := g 12 (by omega) (by omega) (by omega)
    unfold f_M_judge_L205
    refine pc_i (fun q => jc_b223 j0 f hv (fun y q1 q2 => h3 y q1 (by omega))) (fun q => ?_)
    have r4 := b4.2.2.2.1
    obtain ⟨ms, c1, c2, c3, c4, c5, c6⟩ := b4.2.2.2.2.1 e h1 (by omega)
    have gn := a4.2.2.2.2.1 e (by rw [g 19 (by omega) (by omega) (by omega)]; exact h1) (by rw [g 17 (by omega) (by omega) (by omega)]; omega)
    have mm := c2.mem
    have nv99 := b1.2.2.2.1
    have ck3 : ∀ y ∈ ms, δ 24 y ≠ -3 ∧ δ 24 y < 2 * (δ0 0 19 - δ0 4 (δ0 0 18)) := fun y hy => by
      have m := mm y hy
      have := h2 y (by omega) (by omega)
      have nn : 0 ≤ δ0 0 19 - δ0 4 (δ0 0 18) := by have := b1.2.2.1; omega
      unfold CkV at this
      omega
    have wl := (w_lookAtClock (lo := δ0 19 k) (e := e) a1 (by omega) (by omega) (by rw [g 19 (by omega) (by omega) (by omega)] at gn; exact gn) (fun y q1 q2 => by rw [e19, e18, g4]; exact h2 y q1 q2)).pc
    have lc := lookC_pc (δ := δ) (e := e) (nv := δ0 0 19 - δ0 4 (δ0 0 18)) (nn := δ0 0 18) (lo := δ0 19 k) (ms := ms) (by rw [g 23 (by omega) (by omega) (by omega), g 22 (by omega) (by omega) (by omega)]; exact c1) (by rw [g 20 (by omega) (by omega) (by omega)]; exact c4) (by rw [g 20 (by omega) (by omega) (by omega), g 21 (by omega) (by omega) (by omega)]; exact c5) (fun y hy => (ck3 y hy).1) (fun a q1 q2 => by rw [e18, g4, g12]; exact hv a q1 q2) (by omega) (fun y hy => (ck3 y hy).2)
    refine pc_bT (P := fun z => LcR (δ 0 19 - δ 4 (δ 0 18)) e δ z ∧ LcF e δ (clK δ e ms) z) (fun y hy => ⟨wl y hy, lc y hy⟩) (fun er γ' w => fun r w2 => by cases w2) (fun r γ' w => ?_)
    obtain ⟨w1, w2⟩ := w
    rw [e19, e18, g4] at w1
    rcases w1 with w1 | ⟨v, w3, w1⟩
    · cases w1
    have eg : γ' = setA δ 24 e v := by cases w1; rfl
    have ev : clK δ e ms = some v := by
      cases hk : clK δ e ms with
      | none => rw [hk] at w2; cases w2
      | some u =>
        rw [hk] at w2
        have w2 : ((.inr r, γ') : Res) = (.inr 0, setA δ 24 e u) := w2
        have : γ' = setA δ 24 e u := by cases w2; rfl
        have e1 : γ' 24 e = u := by rw [this, stA, if_pos ⟨rfl, rfl⟩]
        have e2 : γ' 24 e = v := by rw [eg, stA, if_pos ⟨rfl, rfl⟩]
        rw [← e1, e2]
    clear w1 w2
    have s : ∀ j t, γ' j t = if j = 24 ∧ t = e then v else δ j t := fun j t => by rw [eg, stA]
    have s0 : ∀ j t, (j ≠ 24 ∨ t ≠ e) → γ' j t = δ j t := fun j t q => by rw [s, if_neg (by omega)]
    have sv : γ' 24 e = v := by rw [s, if_pos ⟨rfl, rfl⟩]
    have f1 : Fk (δ0 19 k) (δ0 17 k) δ γ' := fun j t q1 q2 q3 => s0 j t (by omega)
    have h22 : (δ0 20 e = 25 ∨ δ0 20 e = 26) → δ0 22 e ∈ ms := fun w => by
      have l1 : ms.length = 1 := c4.2.2.2.2 (by omega)
      match ms, c1, l1 with
      | [y], c1, _ => have ey : δ0 22 e = y := c1.1; rw [ey]; exact List.mem_cons_self
    refine pc_c (fun _ => ih γ' (e + 1) (f.tr f1) (fun t => by rw [s0 28 t (by omega)]; exact b t) (by omega) (fun y q1 q2 => ?_) (fun y q1 q2 => ?_))
    · by_cases q3 : y = e
      · rw [q3, sv]; exact w3
      · rw [s0 24 y (by omega)]; exact h2 y q1 (by omega)
    · by_cases q3 : y = e
      · subst q3
        refine ⟨ms, c1, fun z hz => by have := mm z hz; omega, h22, ?_⟩
        have n24 : ∀ z ∈ ms, γ' 24 z = δ 24 z := fun z hz => s0 24 z (by have := mm z hz; omega)
        have r20 : δ 20 y = δ0 20 y := by rw [g 20 (by omega) (by omega) (by omega)]
        have r21 : δ 21 y = δ0 21 y := by rw [g 21 (by omega) (by omega) (by omega)]
        have r22 : δ 22 y = δ0 22 y := by rw [g 22 (by omega) (by omega) (by omega)]
        unfold ClP
        rw [sv, s0 20 y (by omega), s0 21 y (by omega), s0 22 y (by omega), show γ' 12 = δ0 12 from funext fun t => by rw [s0 12 t (by omega), g12]]
        unfold clK at ev
        rw [e18, g4, g12] at ev
        by_cases k2 : δ 20 y = 2
        · rw [if_pos k2] at ev
          cases ev
          exact ⟨fun _ => rfl, fun q => by omega, fun q => by omega, fun q => absurd k2 q⟩
        · rw [if_neg k2] at ev
          by_cases k26 : δ 20 y = 26
          · rw [if_pos k26] at ev
            by_cases c : δ 24 (δ 22 y) ≠ -2 ∧ δ 24 (δ 22 y) ≠ δ0 12 (δ0 4 (δ0 0 18) + δ 21 y / 2)
            · rw [if_pos c] at ev; cases ev
            · rw [if_neg c] at ev
              cases ev
              refine ⟨fun q => by omega, fun _ => ⟨?_, rfl⟩, fun q => by omega, fun _ q => absurd k26 q⟩
              rw [r22, n24 _ (h22 (by omega)), ← r22]
              omega
          · rw [if_neg k26] at ev
            by_cases k25 : δ 20 y = 25
            · rw [if_pos k25] at ev
              by_cases c : δ 24 (δ 22 y) < 0
              · rw [if_pos c] at ev; cases ev
              · rw [if_neg c] at ev
                cases ev
                refine ⟨fun q => by omega, fun q => by omega, fun _ => ?_, fun _ _ q => absurd k25 q⟩
                rw [r22, n24 _ (h22 (by omega)), ← r22]
                exact ⟨by omega, rfl⟩
            · rw [if_neg k25] at ev
              by_cases c : jnL (δ 24) (-2) ms = -3
              · rw [if_pos c] at ev; cases ev
              · rw [if_neg c] at ev
                cases ev
                refine ⟨fun q => by omega, fun q => by omega, fun q => by omega, fun _ _ _ z hz => ?_⟩
                rw [n24 z hz]
                exact (jnL_mem (fun z hz => (ck3 z hz).1) c).1 z hz
      · obtain ⟨ms', d1, d2, d4, d3⟩ := h3 y q1 (by omega)
        refine ⟨ms', d1, d2, d4, ?_⟩
        have r20 : δ 20 y = δ0 20 y := by rw [g 20 (by omega) (by omega) (by omega)]
        have r22 : δ 22 y = δ0 22 y := by rw [g 22 (by omega) (by omega) (by omega)]
        unfold ClP at d3 ⊢
        rw [s0 20 y (by omega), s0 21 y (by omega), s0 22 y (by omega), s0 24 y (by omega), show γ' 12 = δ 12 from funext fun t => s0 12 t (by omega)]
        have m22 : (δ 20 y = 25 ∨ δ 20 y = 26) → γ' 24 (δ 22 y) = δ 24 (δ 22 y) := fun w => by
          have := d2 _ (d4 (by rw [← r20]; exact w))
          exact s0 24 _ (by rw [r22]; omega)
        refine ⟨d3.1, fun w => by rw [m22 (Or.inr w)]; exact d3.2.1 w, fun w => by rw [m22 (Or.inl w)]; exact d3.2.2.1 w, fun w1 w2 w3 z hz => ?_⟩
        have := d2 z hz
        rw [s0 24 z (by omega)]
        exact d3.2.2.2 w1 w2 w3 z hz
theorem jc_L99 {δ0 : St} {k m : Int} (j0 : JI δ0 k) (hv : ∀ x, 0 ≤ x → x < δ0 0 19 - δ0 4 (δ0 0 18) → δ0 12 (δ0 4 (δ0 0 18) + x) ≠ -2) {δ : St} (f : Fk (δ0 19 k) (δ0 17 k) δ0 δ) (b : ∀ v, δ 28 v = 0 ∨ δ 28 v = 1) : ∀ (n : Nat) (i : Int), pc (f_M_judge_L99 f_M_judge_b197 n δ k (δ0 17 k) (δ0 16 (k + 1) - δ0 16 k) m i) (fun z => ∀ r, z.1 = .inr r → ClE z.2 (δ0 4 (δ0 0 18)) k) := by
  have e19 := f 19 k (by omega) (by omega) (by omega)
  intro n
  induction n with
  | zero => intro i; exact pc_n
  | succ n ih =>
    intro i
    have nx : ∀ t, pc (f_M_judge_b188 (f_M_judge_L99 f_M_judge_b197 n) f_M_judge_b197 δ k (δ0 17 k) (δ0 16 (k + 1) - δ0 16 k) m i t) (fun z => ∀ r, z.1 = .inr r → ClE z.2 (δ0 4 (δ0 0 18)) k) := fun t => by
      unfold f_M_judge_b188
      refine pc_bT (P := fun z => z.2 = δ) ?_ (fun e γ' w r w2 => by cases w2) (fun r γ' w => ?_)
      · unfold f_M_type
        exact pc_i (fun _ => pc_s rfl) (fun _ => pc_s rfl)
      · have w : γ' = δ := w
        rw [w]
        exact pc_c (fun _ => ih (i + 1))
    have nx2 : ∀ a c, pc (f_M_judge_b180 (f_M_judge_L99 f_M_judge_b197 n) f_M_judge_b197 δ k (δ0 17 k) (δ0 16 (k + 1) - δ0 16 k) m i a c) (fun z => ∀ r, z.1 = .inr r → ClE z.2 (δ0 4 (δ0 0 18)) k) := fun a c => by
      unfold f_M_judge_b180
      exact pc_i (fun _ => nx _) (fun _ => nx _)
    unfold f_M_judge_L99
    refine pc_i (fun q => ?_) (fun q => pc_c (fun _ => pc_c (fun _ => pc_c (fun _ => pc_c (fun _ => pc_c (fun _ => pc_c (fun _ => pc_i (fun _ => pc_c (fun _ => nx2 _ _)) (fun _ => pc_c (fun _ => pc_c (fun _ => pc_c (fun _ => pc_c (fun _ => pc_c (fun _ => pc_c (fun _ => pc_c (fun _ => nx2 _ _)))))))))))))))
    unfold f_M_judge_b197
    rw [e19]
    have r4 := j0.2.2.2.1.2.2.2.1
    exact pc_c (fun _ => pc_a (jc_L205 j0 hv FU δ (δ0 19 k) f b (Int.le_refl _) (fun y q1 q2 => by omega) (fun y q1 q2 => by omega)))
theorem jc_L62 {δ0 : St} {k m : Int} (j0 : JI δ0 k) (hv : ∀ x, 0 ≤ x → x < δ0 0 19 - δ0 4 (δ0 0 18) → δ0 12 (δ0 4 (δ0 0 18) + x) ≠ -2) : ∀ (n : Nat) (δ : St) (e : Int), Fk (δ0 19 k) (δ0 17 k) δ0 δ → (∀ v, δ 28 v = 0 ∨ δ 28 v = 1) → δ0 19 k ≤ e → pc (f_M_judge_L62 f_M_judge_b96 n δ k (δ0 17 k) (δ0 16 (k + 1) - δ0 16 k) m e) (fun z => ∀ r, z.1 = .inr r → ClE z.2 (δ0 4 (δ0 0 18)) k) := by
  intro n
  induction n with
  | zero => intro δ e _ _ _; exact pc_n
  | succ n ih =>
    intro δ e f b h1
    have ⟨a1, a2, a3, a4, a5, a6, a7, a8⟩ := j0.fk f b
    have ⟨c1, c2, c3, c4, c5, c6, c7, c8⟩ := j0
    have r4 := c4.2.2.2.1
    have g : ∀ j : Nat, j ≠ 0 → j ≠ 24 → j ≠ 28 → ∀ t, δ j t = δ0 j t := fun j q1 q2 q3 t => f j t (by omega) (by omega) q3
    unfold f_M_judge_L62
    refine pc_i (fun q => ?_) (fun q => ?_)
    · unfold f_M_judge_b96
      exact jc_L99 j0 hv f b FU 0
    · have gn := a4.2.2.2.2.1 e (by rw [g 19 (by omega) (by omega) (by omega)]; omega) (by rw [g 17 (by omega) (by omega) (by omega)]; omega)
      have nx : ∀ o, pc (f_M_judge_b87 (f_M_judge_L62 f_M_judge_b96 n) f_M_judge_b96 δ k (δ0 17 k) (δ0 16 (k + 1) - δ0 16 k) m e o e) (fun z => ∀ r, z.1 = .inr r → ClE z.2 (δ0 4 (δ0 0 18)) k) := fun o => by
        unfold f_M_judge_b87
        refine pc_bT (w_look2 (o := o) a1 (by rw [g 19 (by omega) (by omega) (by omega)]; omega) (by omega) gn b (fun x q1 q2 => by have := a3 x q1 q2; omega)).pc (fun er γ' z r w2 => by cases w2) (fun r γ' z => ?_)
        rcases z.1 with ⟨_, z⟩ | ⟨v, hv', z⟩
        · cases z
        · have eg : γ' = setA δ 28 e v := by cases z; rfl
          have s : ∀ j t, γ' j t = if j = 28 ∧ t = e then v else δ j t := fun j t => by rw [eg, stA]
          have f1 : Fk (δ0 19 k) (δ0 17 k) δ γ' := fun j t q1 q2 q3 => by rw [s, if_neg (by omega)]
          refine pc_c (fun _ => ih γ' (e + 1) (f.tr f1) (fun t => ?_) (by omega))
          rw [s]
          by_cases q3 : t = e
          · rw [if_pos ⟨rfl, q3⟩]; exact hv'
          · rw [if_neg (by omega)]; exact b t
      unfold f_M_judge_b86
      exact pc_i (fun _ => nx _) (fun _ => pc_i (fun _ => nx _) (fun _ => nx _))
theorem hj_cl : HJ (fun γ v0 k => (γ 19 k ≤ γ 17 k) ∧ ClE γ v0 k) := by
  refine ⟨fun γ k ji => ?_, fun γ γ' v0 k h f => ⟨by rw [f.1 19 k (by omega) (by omega) (by omega), f.1 17 k (by omega) (by omega) (by omega)]; exact h.1, h.2.fj f h.1⟩⟩
  have ⟨c1, c2, c3, c4, c5, c6, c7, c8⟩ := ji
  have r4 := c4.2.2.2.1
  have hv : ∀ x, 0 ≤ x → x < γ 0 19 - γ 4 (γ 0 18) → γ 12 (γ 4 (γ 0 18) + x) ≠ -2 := fun x q1 q2 => by
    have := c1.2.2.2.2.2.1 (γ 4 (γ 0 18) + x) (by omega) (by omega)
    unfold ClO at this
    omega
  have wj := (w_judge ji).pc
  have main : pc (f_M_judge γ k) (fun z => ∀ r, z.1 = .inr r → ClE z.2 (γ 4 (γ 0 18)) k) := by
    unfold f_M_judge
    refine pc_c (fun _ => pc_a ?_)
    have s : ∀ i t, setA γ 0 42 (γ 15 k) i t = if i = 0 ∧ t = 42 then γ 15 k else γ i t := fun i t => by rw [stA]
    generalize setA γ 0 42 (γ 15 k) = γ1 at *
    have s0 : ∀ i t, i ≠ 0 → γ1 i t = γ i t := fun i t q => by rw [s, if_neg (by omega)]
    have f : Fk (γ 19 k) (γ 17 k) γ γ1 := fun i t q1 q2 q3 => by rw [s, if_neg (by omega)]
    have b : ∀ v, γ1 28 v = 0 ∨ γ1 28 v = 1 := fun v => by rw [s0 28 v (by omega)]; exact c2 v
    rw [s0 17 k (by omega), s0 16 _ (by omega), s0 16 _ (by omega)]
    have k52 : ∀ m : Int, pc (f_M_judge_b52 γ1 k (γ 17 k) (γ 16 (k + 1) - γ 16 k) m) (fun z => ∀ r, z.1 = .inr r → ClE z.2 (γ 4 (γ 0 18)) k) := fun m => by
      unfold f_M_judge_b52
      refine pc_c (fun _ => pc_a ?_)
      rw [s0 19 k (by omega)]
      exact jc_L62 ji hv FU γ1 _ f b (Int.le_refl _)
    exact pc_c (fun _ => pc_a (pc_c (fun _ => pc_c (fun _ => pc_c (fun _ => pc_c (fun _ => pc_a (pc_c (fun _ => pc_i (fun _ => k52 _) (fun _ => k52 _)))))))))
  intro y hy r hr
  have fk := (wj y hy).1
  refine ⟨?_, main y hy r hr⟩
  rw [fk 19 k (by omega) (by omega) (by omega), fk 17 k (by omega) (by omega) (by omega)]
  omega
