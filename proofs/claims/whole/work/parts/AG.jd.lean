/-! the reference's checks: judge -/
/-- a call's arguments and results are as many as the node's -/
def LoC (e o : Int) (γ : St) : Prop := γ 20 e = 3 → ∃ ks, Ch (γ 23) (γ 22 e) ks ∧ (ks.length : Int) = γ 5 (γ 21 e) ∧ o = γ 6 (γ 21 e)
theorem LoC.fr {e o : Int} {γ γ' : St} (h : LoC e o γ) (f : ∀ j : Nat, j = 5 ∨ j = 6 ∨ 20 ≤ j ∧ j ≤ 23 → ∀ k, γ' j k = γ j k) : LoC e o γ' := by
  intro q
  rw [f 20 (by omega)] at q
  obtain ⟨ks, a, b, c⟩ := h q
  refine ⟨ks, ?_, ?_, ?_⟩
  · rw [f 22 (by omega)]; exact a.agree (fun y _ => f 23 (by omega) y)
  · rw [f 21 (by omega), f 5 (by omega)]; exact b
  · rw [f 21 (by omega), f 6 (by omega)]; exact c
theorem w_look2 {γ : St} {lo e o : Int} (p : DcI γ) (h0 : 0 ≤ lo) (he : e < 66000) (g : Gn (γ 0 19 - γ 4 (γ 0 18)) (γ 0 18) γ lo e) (hb : ∀ v, γ 28 v = 0 ∨ γ 28 v = 1) (hn : ∀ f, 0 ≤ f → f < γ 0 18 → 0 ≤ γ 4 f ∧ 0 ≤ γ 5 f ∧ γ 4 f + γ 5 f < 6000) : wp (f_M_look γ e o) (fun z => LoR e γ z ∧ ∀ r, z.1 = .inr r → LoC e o γ) := by
  by_cases q3 : γ 20 e = 3
  · have := FU_v
    have ⟨a1, a2, a3, a4, a5, a6, a7⟩ := p
    obtain ⟨ks, g1, g2, g3, g4, g5, g6, g7⟩ := g
    have le := g2.le
    have mm := g2.mem
    have ln := g2.len
    have he' : 0 ≤ e ∧ e < 66000 := by omega
    have my : ∀ y ∈ ks, y < 66000 := fun y hy => by have := mm y hy; omega
    unfold f_M_look
    refine wp_chk he' (wp_sub (w_look_L10 FU ks 0 _ ?_ g1 my (by omega) (by omega) (by omega)))
    unfold f_M_look_b30
    refine wp_chk he' (wp_sub ?_)
    have w := g5.2.2.1 q3
    have nf := hn _ w.1 w.2
    have k : ∀ b, wp (f_M_look_b54 γ e o (0 + ks.length) (γ 22 e) b) (fun z => LoR e γ z ∧ ∀ r, z.1 = .inr r → LoC e o γ) := fun b => by
      unfold f_M_look_b54
      refine wp_chk he' ?_
      rw [if_neg (fun r => r q3)]
      refine wp_chk he' (wp_sub (wp_chk (by omega) (wp_ite (fun q => wp_some ⟨Or.inl ⟨5, rfl⟩, fun r e => by cases e⟩) (fun q => wp_chk (by omega) (wp_ite (fun q4 => ?_) (fun q4 => wp_some ⟨Or.inl ⟨5, rfl⟩, fun r e => by cases e⟩))))))
      exact wp_chk (by omega) (wp_sub (wp_mono (w_look_L122 (w_look_b168 he' (by omega) (by omega) a7) FU ks _ _ g1 my (by omega) (by omega) (by omega)) (fun z hz => ⟨hz, fun _ _ _ => ⟨ks, g1, by omega, q4⟩⟩)))
    refine wp_ite (fun q => wp_chk ?_ (k _)) (fun q => k _)
    match ks, g1, my, q with
    | [], g1, my, q => have e1 : γ 22 e = -1 := g1; exfalso; omega
    | y :: t, g1, my, q => have e1 : γ 22 e = y := g1.1; have := my y List.mem_cons_self; omega
  · exact wp_mono (w_look p h0 he g hb hn) (fun z hz => ⟨hz, fun _ _ q => absurd q q3⟩)
/-- what looks leave as it was -/
def Fk (lo hi : Int) (γ γ' : St) : Prop := ∀ j k, (j = 0 → k ≠ 42) → (j = 24 → k < lo ∨ hi < k) → j ≠ 28 → γ' j k = γ j k
theorem Fk.tr {lo hi : Int} {γ γ' γ'' : St} (h : Fk lo hi γ γ') (g : Fk lo hi γ' γ'') : Fk lo hi γ γ'' := fun j k q1 q2 q3 => (g j k q1 q2 q3).trans (h j k q1 q2 q3)
theorem DcI.fk {lo hi : Int} {γ γ' : St} (h : DcI γ) (f : Fk lo hi γ γ') : DcI γ' := by
  have ⟨y1, y2, y3, y4, y5, y6, y7⟩ := h
  have g : ∀ j k, j ≠ 0 → j ≠ 24 → j ≠ 28 → γ' j k = γ j k := fun j k q1 q2 q3 => f j k (by omega) (by omega) q3
  have g18 := f 0 18 (by omega) (by omega) (by omega)
  have g19 := f 0 19 (by omega) (by omega) (by omega)
  have g4 : ∀ k, γ' 4 k = γ 4 k := fun k => g 4 k (by omega) (by omega) (by omega)
  refine ⟨y1.fr (funext fun k => g 1 k (by omega) (by omega) (by omega)) (fun k q => f 0 k (by omega) (by omega) (by omega)), by rw [g18]; exact y2, by rw [g18, g4]; exact y3, by rw [g18, g4, g19]; exact y4, ?_, ?_, fun v => by rw [g 14 v (by omega) (by omega) (by omega)]; exact y7 v⟩
  · rw [g18, g4, g19]
    intro v q1 q2
    rw [g 10 v (by omega) (by omega) (by omega), g 11 v (by omega) (by omega) (by omega)]
    exact y5 v q1 q2
  · rw [g18, g4, g19]
    intro v q1 q2
    unfold ClO
    rw [g 12 v (by omega) (by omega) (by omega)]
    exact y6 v q1 q2
/-- as the equation k is judged -/
def JI (γ : St) (k : Int) : Prop := DcI γ ∧ (∀ v, γ 28 v = 0 ∨ γ 28 v = 1) ∧ (∀ f, 0 ≤ f → f < γ 0 18 → 0 ≤ γ 4 f ∧ 0 ≤ γ 5 f ∧ 1 ≤ γ 6 f ∧ γ 4 f + γ 5 f + γ 6 f ≤ 6000) ∧ EqR (γ 0 19 - γ 4 (γ 0 18)) (γ 0 18) (γ 5 (γ 0 18)) γ k ∧ 0 ≤ γ 5 (γ 0 18) ∧ γ 17 k < 65000 ∧ (0 ≤ k ∧ k < 16000) ∧ γ 16 (k + 1) ≤ 65000
theorem EqR.rw {nv nn l5 k : Int} {γ γ' : St} (h : EqR nv nn l5 γ k) (f : ∀ j : Nat, j ≠ 0 → j ≠ 24 → j ≠ 28 → ∀ k, γ' j k = γ j k) : EqR nv nn l5 γ' k := by
  refine h.fr (b := k + 1) (l := γ 16 (k + 1)) (P := γ 17 k + 1) ⟨f 1 (by omega) (by omega) (by omega), fun _ _ => ⟨f 15 (by omega) (by omega) (by omega) _, f 17 (by omega) (by omega) (by omega) _, f 19 (by omega) (by omega) (by omega) _⟩, fun _ _ => f 16 (by omega) (by omega) (by omega) _, fun _ _ => f 18 (by omega) (by omega) (by omega) _, fun j q1 q2 q3 e _ => f j (by omega) q3 (by omega) e⟩ (by omega) (Int.le_refl _) (by omega)
theorem JI.fk {lo hi k : Int} {γ γ' : St} (h : JI γ k) (f : Fk lo hi γ γ') (b : ∀ v, γ' 28 v = 0 ∨ γ' 28 v = 1) : JI γ' k := by
  have ⟨a1, a2, a3, a4, a5, a6, a7, a8⟩ := h
  have g : ∀ j : Nat, j ≠ 0 → j ≠ 24 → j ≠ 28 → ∀ k, γ' j k = γ j k := fun j q1 q2 q3 k => f j k (by omega) (by omega) q3
  have g18 := f 0 18 (by omega) (by omega) (by omega)
  have g19 := f 0 19 (by omega) (by omega) (by omega)
  have g4 := g 4 (by omega) (by omega) (by omega)
  have g5 := g 5 (by omega) (by omega) (by omega)
  have g6 := g 6 (by omega) (by omega) (by omega)
  unfold JI
  rw [g18, g19, g4, g5, g 17 (by omega) (by omega) (by omega), g 16 (by omega) (by omega) (by omega)]
  refine ⟨a1.fk f, b, fun f q1 q2 => ?_, a4.rw g, a5, a6, a7, a8⟩
  rw [g4, g5, g6]
  exact a3 f q1 q2
/-- what judge answers -/
def JdO (γ0 : St) (k : Int) (z : Res) : Prop := Fk (γ0 19 k) (γ0 17 k) γ0 z.2 ∧ (∀ v, z.2 28 v = 0 ∨ z.2 28 v = 1) ∧ ∀ r, z.1 = .inr r → ∀ e, γ0 19 k ≤ e → e ≤ γ0 17 k → CkV (γ0 0 19 - γ0 4 (γ0 0 18)) (z.2 24 e) ∧ LoC e (if e = γ0 17 k then γ0 16 (k + 1) - γ0 16 k else 1) γ0
theorem JdO.er {γ0 γ : St} {k : Int} {e : Int × Int} (f : Fk (γ0 19 k) (γ0 17 k) γ0 γ) (b : ∀ v, γ 28 v = 0 ∨ γ 28 v = 1) : JdO γ0 k (.inl e, γ) := ⟨f, b, fun r q => by cases q⟩
theorem w_judge_L234 {γ0 : St} {k : Int} (j0 : JI γ0 k) (hl : ∀ e, γ0 19 k ≤ e → e ≤ γ0 17 k → LoC e (if e = γ0 17 k then γ0 16 (k + 1) - γ0 16 k else 1) γ0) : ∀ (n : Nat) (γ : St) (c i : Int), Fk (γ0 19 k) (γ0 17 k) γ0 γ → (∀ v, γ 28 v = 0 ∨ γ 28 v = 1) → (∀ e, γ0 19 k ≤ e → e ≤ γ0 17 k → CkV (γ0 0 19 - γ0 4 (γ0 0 18)) (γ 24 e)) → 0 ≤ i → i ≤ γ0 16 (k + 1) - γ0 16 k → γ0 16 (k + 1) - γ0 16 k - i < n → wp (f_M_judge_L234 n γ k (γ0 16 (k + 1) - γ0 16 k) c i) (JdO γ0 k) := by
  intro n
  induction n with
  | zero => intro γ c i f b cv h1 h2 h3; exfalso; omega
  | succ n ih =>
    intro γ c i f b cv h1 h2 h3
    have ⟨a1, a2, a3, a4, a5, a6, a7, a8⟩ := j0.fk f b
    have e16 : ∀ t, γ 16 t = γ0 16 t := fun t => f 16 t (by omega) (by omega) (by omega)
    have r16 := a4.2.1
    rw [e16, e16] at r16
    rw [e16] at a8
    unfold f_M_judge_L234
    refine wp_ite (fun q => wp_some ⟨f, b, fun _ _ e q1 q2 => ⟨cv e q1 q2, hl e q1 q2⟩⟩) (fun q => ?_)
    rw [e16]
    have lf := a4.2.2.1 (γ0 16 k + i) (by rw [e16]; omega) (by rw [e16]; omega)
    have cl := clockOf_eq (a := γ 18 (γ0 16 k + i)) a1 (by omega)
    refine wp_chk (by omega) (wp_chk (by omega) (wp_chk (by omega) (wp_bs cl.1 (wp_bndT w_together (fun e γ' z => ?_) (fun r γ' z => ?_)))))
    · rcases z with z | z | z
      · cases z; exact JdO.er f b
      · cases z
      · cases z
    · have e' : γ' = γ := by
        rcases z with z | z | z
        · cases z
        · cases z; rfl
        · cases z; rfl
      subst e'
      exact wp_chk (by omega) (ih γ' r (i + 1) f b cv (by omega) (by omega) (by omega))
theorem w_judge_L205 {γ0 : St} {k : Int} (j0 : JI γ0 k) (hl : ∀ e, γ0 19 k ≤ e → e ≤ γ0 17 k → LoC e (if e = γ0 17 k then γ0 16 (k + 1) - γ0 16 k else 1) γ0) : ∀ (n : Nat) (γ : St) (e : Int), Fk (γ0 19 k) (γ0 17 k) γ0 γ → (∀ v, γ 28 v = 0 ∨ γ 28 v = 1) → (∀ y, γ0 19 k ≤ y → y < e → CkV (γ0 0 19 - γ0 4 (γ0 0 18)) (γ 24 y)) → γ0 19 k ≤ e → e ≤ γ0 17 k + 1 → γ0 17 k + 1 - e < n → wp (f_M_judge_L205 f_M_judge_b223 n γ k (γ0 17 k) (γ0 16 (k + 1) - γ0 16 k) e) (JdO γ0 k) := by
  have := FU_v
  intro n
  induction n with
  | zero => intro γ e f b cv h1 h2 h3; exfalso; omega
  | succ n ih =>
    intro γ e f b cv h1 h2 h3
    have ⟨a1, a2, a3, a4, a5, a6, a7, a8⟩ := j0.fk f b
    have ⟨c1, c2, c3, c4, c5, c6, c7, c8⟩ := j0
    have r4 := c4.2.2.2.1
    have r2 := c4.2.1
    have e18 := f 0 18 (by omega) (by omega) (by omega)
    have e19 := f 0 19 (by omega) (by omega) (by omega)
    have e4 := f 4 (γ0 0 18) (by omega) (by omega) (by omega)
    unfold f_M_judge_L205
    refine wp_ite (fun q => ?_) (fun q => ?_)
    · unfold f_M_judge_b223
      refine wp_chk (by omega) (wp_sub ?_)
      exact w_judge_L234 j0 hl FU γ _ 0 f b (fun y q1 q2 => cv y q1 (by omega)) (by omega) (by omega) (by omega)
    · have g := a4.2.2.2.2.1 e (by rw [f 19 k (by omega) (by omega) (by omega)]; omega) (by rw [f 17 k (by omega) (by omega) (by omega)]; omega)
      have w := w_lookAtClock a1 (by rw [f 19 k (by omega) (by omega) (by omega)]; omega) (by omega) g (fun y q1 q2 => by
        rw [f 19 k (by omega) (by omega) (by omega)] at q1
        rw [e18, e19, e4]; exact cv y q1 q2)
      rw [e18, e19, e4] at w
      refine wp_bndT w (fun er γ' z => ?_) (fun r γ' z => ?_)
      · rcases z with z | ⟨c, _, z⟩
        · cases z; exact JdO.er f b
        · cases z
      · rcases z with z | ⟨c, hc, z⟩
        · cases z
        · cases z
          have s : ∀ j t, setA γ 24 e c j t = if j = 24 ∧ t = e then c else γ j t := fun j t => by rw [stA]
          generalize setA γ 24 e c = γ1 at *
          have f1 : Fk (γ0 19 k) (γ0 17 k) γ γ1 := fun j t q1 q2 q3 => by rw [s, if_neg (by omega)]
          refine wp_chk (by omega) (ih γ1 (e + 1) (f.tr f1) (fun v => by rw [s, if_neg (by omega)]; exact b v) (fun y q1 q2 => ?_) (by omega) (by omega) (by omega))
          rw [s]
          by_cases q3 : y = e
          · rw [if_pos ⟨rfl, q3⟩]; exact hc
          · rw [if_neg (by omega)]; exact cv y q1 (by omega)
theorem w_judge_b197 {γ0 : St} {k : Int} (j0 : JI γ0 k) {γ : St} (hl : ∀ e, γ0 19 k ≤ e → e ≤ γ0 17 k → LoC e (if e = γ0 17 k then γ0 16 (k + 1) - γ0 16 k else 1) γ0) (f : Fk (γ0 19 k) (γ0 17 k) γ0 γ) (b : ∀ v, γ 28 v = 0 ∨ γ 28 v = 1) : wp (f_M_judge_b197 γ k (γ0 17 k) (γ0 16 (k + 1) - γ0 16 k)) (JdO γ0 k) := by
  have := FU_v
  have ⟨c1, c2, c3, c4, c5, c6, c7, c8⟩ := j0
  have r4 := c4.2.2.2.1
  unfold f_M_judge_b197
  refine wp_chk (by omega) (wp_sub ?_)
  rw [f 19 k (by omega) (by omega) (by omega)]
  exact w_judge_L205 j0 hl FU γ _ f b (fun y q1 q2 => by omega) (by omega) (by omega) (by omega)
theorem w_judge_L99 {γ0 : St} {k : Int} (j0 : JI γ0 k) {m : Int} (hm : m ≠ 0 → γ0 20 (γ0 17 k) = 3) (hl : ∀ e, γ0 19 k ≤ e → e ≤ γ0 17 k → LoC e (if e = γ0 17 k then γ0 16 (k + 1) - γ0 16 k else 1) γ0) : ∀ (n : Nat) (γ : St) (i : Int), Fk (γ0 19 k) (γ0 17 k) γ0 γ → (∀ v, γ 28 v = 0 ∨ γ 28 v = 1) → 0 ≤ i → i ≤ γ0 16 (k + 1) - γ0 16 k → γ0 16 (k + 1) - γ0 16 k - i < n → wp (f_M_judge_L99 f_M_judge_b197 n γ k (γ0 17 k) (γ0 16 (k + 1) - γ0 16 k) m i) (JdO γ0 k) := by
  intro n
  induction n with
  | zero => intro γ i f b h1 h2 h3; exfalso; omega
  | succ n ih =>
    intro γ i f b h1 h2 h3
    have ⟨a1, a2, a3, a4, a5, a6, a7, a8⟩ := j0.fk f b
    have ⟨c1, c2, c3, c4, c5, c6, c7, c8⟩ := j0
    have nd := c1.2.1
    have n3 := c1.2.2.1
    have n4 := c1.2.2.2.1
    have g : ∀ j : Nat, j ≠ 0 → j ≠ 24 → j ≠ 28 → ∀ t, γ j t = γ0 j t := fun j q1 q2 q3 t => f j t (by omega) (by omega) q3
    have r4 := c4.2.2.2.1
    have r2 := c4.2.1
    unfold f_M_judge_L99
    refine wp_ite (fun q => w_judge_b197 j0 hl f b) (fun q => ?_)
    rw [f 0 18 (by omega) (by omega) (by omega), g 16 (by omega) (by omega) (by omega), g 18 (by omega) (by omega) (by omega), g 4 (by omega) (by omega) (by omega), g 21 (by omega) (by omega) (by omega), g 4 (by omega) (by omega) (by omega), g 5 (by omega) (by omega) (by omega)]
    have lf := c4.2.2.1 (γ0 16 k + i) (by omega) (by omega)
    have nx : ∀ u w, wp (f_M_judge_b180 (f_M_judge_L99 f_M_judge_b197 n) f_M_judge_b197 γ k (γ0 17 k) (γ0 16 (k + 1) - γ0 16 k) m i u w) (JdO γ0 k) := fun u w => by
      unfold f_M_judge_b180 f_M_judge_b188
      exact wp_ite (fun _ => wp_type (JdO.er f b) (wp_chk (by omega) (ih γ (i + 1) f b (by omega) (by omega) (by omega)))) (fun _ => wp_type (JdO.er f b) (wp_chk (by omega) (ih γ (i + 1) f b (by omega) (by omega) (by omega))))
    refine wp_chk (by omega) (wp_chk (by omega) (wp_chk (by omega) (wp_chk (by omega) (wp_chk (by omega) (wp_chk (by omega) (wp_ite (fun q2 => wp_chk (by omega) (nx _ _)) (fun q2 => ?_)))))))
    obtain ⟨ks, _, _, hc⟩ := hl _ r4.2.1 (Int.le_refl _) (hm q2)
    rw [if_pos rfl] at hc
    obtain ⟨_, _, _, _, _, w, _⟩ := c4.2.2.2.2.1 (γ0 17 k) r4.2.1 (Int.le_refl _)
    have w3 := w.2.2.1 (hm q2)
    have nf := c3 _ w3.1 w3.2
    exact wp_chk (by omega) (wp_chk (by omega) (wp_chk (by omega) (wp_chk (by omega) (wp_chk (by omega) (wp_chk (by omega) (wp_chk (by omega) (nx _ _)))))))
theorem w_judge_L62 {γ0 : St} {k : Int} (j0 : JI γ0 k) {m : Int} (hm : m ≠ 0 → γ0 20 (γ0 17 k) = 3) (h1 : m = 0 → γ0 16 (k + 1) = γ0 16 k + 1) : ∀ (n : Nat) (γ : St) (e : Int), Fk (γ0 19 k) (γ0 17 k) γ0 γ → (∀ v, γ 28 v = 0 ∨ γ 28 v = 1) → γ0 19 k ≤ e → e ≤ γ0 17 k + 1 → (∀ y, γ0 19 k ≤ y → y < e → LoC y (if y = γ0 17 k then γ0 16 (k + 1) - γ0 16 k else 1) γ0) → γ0 17 k + 1 - e < n → wp (f_M_judge_L62 f_M_judge_b96 n γ k (γ0 17 k) (γ0 16 (k + 1) - γ0 16 k) m e) (JdO γ0 k) := by
  have := FU_v
  intro n
  induction n with
  | zero => intro γ e f b h2 h3 h4 h5; exfalso; omega
  | succ n ih =>
    intro γ e f b h2 h3 h4 h5
    have ⟨a1, a2, a3, a4, a5, a6, a7, a8⟩ := j0.fk f b
    have ⟨c1, c2, c3, c4, c5, c6, c7, c8⟩ := j0
    have r4 := c4.2.2.2.1
    have r2 := c4.2.1
    have g : ∀ j : Nat, j ≠ 0 → j ≠ 24 → j ≠ 28 → ∀ t, γ j t = γ0 j t := fun j q1 q2 q3 t => f j t (by omega) (by omega) q3
    unfold f_M_judge_L62
    refine wp_ite (fun q => ?_) (fun q => ?_)
    · unfold f_M_judge_b96
      exact w_judge_L99 j0 hm (fun y q1 q2 => h4 y q1 (by omega)) FU γ 0 f b (by omega) (by omega) (by omega)
    · have gn := a4.2.2.2.2.1 e (by rw [g 19 (by omega) (by omega) (by omega)]; omega) (by rw [g 17 (by omega) (by omega) (by omega)]; omega)
      have nx : ∀ o, o = (if e = γ0 17 k then γ0 16 (k + 1) - γ0 16 k else 1) → wp (f_M_judge_b87 (f_M_judge_L62 f_M_judge_b96 n) f_M_judge_b96 γ k (γ0 17 k) (γ0 16 (k + 1) - γ0 16 k) m e o e) (JdO γ0 k) := fun o ho => by
        unfold f_M_judge_b87
        refine wp_bndT (w_look2 (o := o) a1 (by rw [g 19 (by omega) (by omega) (by omega)]; omega) (by omega) gn b (fun x q1 q2 => by have := a3 x q1 q2; omega)) (fun er γ' z => ?_) (fun r γ' z => ?_)
        · rcases z.1 with ⟨_, z⟩ | ⟨v, _, z⟩
          · cases z; exact JdO.er f b
          · cases z
        · have lc := z.2 r rfl
          rcases z.1 with ⟨_, z⟩ | ⟨v, hv, z⟩
          · cases z
          · cases z
            have s : ∀ j t, setA γ 28 e v j t = if j = 28 ∧ t = e then v else γ j t := fun j t => by rw [stA]
            generalize setA γ 28 e v = γ1 at *
            have f1 : Fk (γ0 19 k) (γ0 17 k) γ γ1 := fun j t q1 q2 q3 => by rw [s, if_neg (by omega)]
            refine wp_chk (by omega) (ih γ1 (e + 1) (f.tr f1) (fun t => ?_) (by omega) (by omega) (fun y q1 q2 => ?_) (by omega))
            · rw [s]
              by_cases q3 : t = e
              · rw [if_pos ⟨rfl, q3⟩]; exact hv
              · rw [if_neg (by omega)]; exact b t
            · by_cases q3 : y = e
              · rw [q3, ← ho]; exact lc.fr (fun j q4 t => (g j (by omega) (by omega) (by omega) t).symm)
              · exact h4 y q1 (by omega)
      refine wp_ite (fun q2 => ?_) (fun q2 => wp_ite (fun q3 => ?_) (fun q3 => ?_))
      · exact nx 1 (by rw [if_neg q2])
      · exact nx 1 (by rw [if_pos (by omega), h1 q3]; omega)
      · exact nx _ (by rw [if_pos (by omega)])
theorem w_judge {γ : St} {k : Int} (j : JI γ k) : wp (f_M_judge γ k) (JdO γ k) := by
  have := FU_v
  have ⟨c1, c2, c3, c4, c5, c6, c7, c8⟩ := j
  have r1 := c4.1
  have r2 := c4.2.1
  have r4 := c4.2.2.2.1
  unfold f_M_judge
  refine wp_chk (by omega) (wp_sub ?_)
  have s : ∀ i t, setA γ 0 42 (γ 15 k) i t = if i = 0 ∧ t = 42 then γ 15 k else γ i t := fun i t => by rw [stA]
  generalize setA γ 0 42 (γ 15 k) = γ1 at *
  have s0 : ∀ i t, i ≠ 0 → γ1 i t = γ i t := fun i t q => by rw [s, if_neg (by omega)]
  have f : Fk (γ 19 k) (γ 17 k) γ γ1 := fun i t q1 q2 q3 => by rw [s, if_neg (by omega)]
  have b : ∀ v, γ1 28 v = 0 ∨ γ1 28 v = 1 := fun v => by rw [s0 28 v (by omega)]; exact c2 v
  rw [s0 17 k (by omega), s0 16 _ (by omega), s0 16 _ (by omega), show γ1 0 42 = γ 15 k by rw [s, if_pos ⟨rfl, rfl⟩], s0 1 _ (by omega)]
  have k52 : ∀ m : Int, (m ≠ 0 → γ 20 (γ 17 k) = 3) → (m = 0 → γ 16 (k + 1) = γ 16 k + 1) → wp (f_M_judge_b52 γ1 k (γ 17 k) (γ 16 (k + 1) - γ 16 k) m) (JdO γ k) := fun m q1 q2 => by
    unfold f_M_judge_b52
    refine wp_chk (by omega) (wp_sub ?_)
    rw [s0 19 k (by omega)]
    exact w_judge_L62 j q1 q2 FU γ1 _ f b (by omega) (by omega) (fun y q3 q4 => by omega) (by omega)
  refine wp_chk (by omega) (wp_sub (wp_chk (by omega) (wp_chk (by omega) (wp_chk (by omega) (wp_chk (by omega) (wp_sub (wp_chk (by omega) (wp_ite (fun q => ?_) (fun q => ?_)))))))))
  · exact k52 0 (fun q => absurd rfl q) (fun _ => c4.2.2.2.2.2.2 q)
  · exact k52 1 (fun _ => c4.2.2.2.2.2.1 (by omega)) (fun q => absurd q (by decide))
