/-! the class's checker: clocks fit -/
/-- what settle has done: the parts from i on -/
def SeI (γ0 : St) (e : Int) (γ : St) (i : Int) : Prop := FrQ γ0 e γ ∧ γ 7 4 = Pf γ0 (i + 1) - e ∧ (∀ s, 0 ≤ s → s < γ 7 4 → -1 ≤ γ 53 s ∧ γ 53 s < 2 * γ0 28 (γ0 3 9)) ∧ (∀ k, i < k → k < γ0 44 e → -1 ≤ γ 41 k ∧ γ 41 k < 2 * γ0 28 (γ0 3 9)) ∧ ∀ k, γ0 43 e ≤ k → k ≤ i → (-2 ≤ γ 41 k ∧ γ 41 k < 2 * γ0 28 (γ0 3 9)) ∧ (γ0 38 k = 36 → γ0 43 e < k ∧ 0 ≤ γ 41 (k - 1))
theorem w_se_L152 {k37 : St → Int → Int → Option (Int × St)} {Q : Int × St → Prop} {γ0 : St} {e i x8 : Int} (hx : CkX γ0 e) (h1 : γ0 43 e ≤ i) (h2 : i < γ0 44 e) (h8 : -1 ≤ x8 ∧ x8 < 2 * γ0 28 (γ0 3 9)) (hQ : ∀ γ, SeI γ0 e γ (i - 1) → wp (k37 γ e (i + -1)) Q) : ∀ (n : Nat) (γ : St) (x9 : Int), FrQ γ0 e γ → 0 ≤ x9 → x9 ≤ γ0 40 i → γ 7 4 = Pf γ0 (i + 1) - e - 1 + x9 → (∀ s, 0 ≤ s → s < γ 7 4 → -1 ≤ γ 53 s ∧ γ 53 s < 2 * γ0 28 (γ0 3 9)) → (∀ k, i ≤ k → k < γ0 44 e → -1 ≤ γ 41 k ∧ γ 41 k < 2 * γ0 28 (γ0 3 9)) → (∀ k, γ0 43 e ≤ k → k < i → (-2 ≤ γ 41 k ∧ γ 41 k < 2 * γ0 28 (γ0 3 9)) ∧ (γ0 38 k = 36 → γ0 43 e < k ∧ 0 ≤ γ 41 (k - 1))) → γ0 40 i - x9 < n → wp (f_Ck_settle_L152 (f_Ck_settle_b193 k37) n γ e i x8 x9) Q := by
  have b := hx.b
  have p := hx.p h1 h2
  have D := hx.D h1 (by omega)
  have pn := sdK_nn p.1
  have pl := p.2.2.2.2
  have ps := Pf_succ (γ := γ0) (k := i) (by omega)
  intro n
  induction n with
  | zero => intro γ x9 hF q1 q2 q3 q4 q5 q6 q7; exfalso; omega
  | succ n ih =>
    intro γ x9 hF q1 q2 q3 q4 q5 q6 q7
    have e40 := hF 40 i (by omega) (by omega) (by omega)
    unfold f_Ck_settle_L152
    rw [e40]
    refine wp_chk (by omega) (wp_ite (fun c => ?_) (fun c => ?_))
    · unfold f_Ck_settle_b193
      refine wp_chk (by omega) (hQ γ ⟨hF, ?_, q4, fun k r1 r2 => q5 k (by omega) r2, fun k r1 r2 => q6 k r1 (by omega)⟩)
      rw [show i - 1 + 1 = i by omega]; omega
    · refine wp_chk (by omega) (wp_sub (wp_chk (by simp [stA]; omega) (wp_sub (wp_chk (by omega) ?_))))
      generalize hh : setA _ 7 4 _ = γs
      have s0 : ∀ j k, γs j k = if j = 7 ∧ k = 4 then γ 7 4 + 1 else if j = 53 ∧ k = γ 7 4 then x8 else γ j k := fun j k => by rw [← hh]; simp [stA]
      have b74 : γs 7 4 = γ 7 4 + 1 := by rw [s0]; simp
      have b41 : ∀ k, γs 41 k = γ 41 k := fun k => by rw [s0]; simp
      refine ih γs (x9 + 1) (fun j k r1 r2 r3 => ?_) (by omega) (by omega) (by omega) (fun s r1 r2 => ?_) (fun k r1 r2 => by rw [b41]; exact q5 k r1 r2) (fun k r1 r2 => by rw [b41, b41]; exact q6 k r1 r2) (by omega)
      · rw [s0, if_neg (by omega), if_neg (by omega)]; exact hF j k r1 r2 r3
      · by_cases q : s = γ 7 4
        · rw [s0, q]; simp; exact h8
        · rw [s0, if_neg (by omega), if_neg (by omega)]; exact q4 s r1 (by omega)
set_option maxHeartbeats 1000000 in
theorem w_se_L37 {γ0 : St} {e : Int} (hx : CkX γ0 e) : ∀ (n : Nat) (γ : St) (i : Int), SeI γ0 e γ i → γ0 43 e - 1 ≤ i → i < γ0 44 e → i - γ0 43 e + 1 < n → wp (f_Ck_settle_L37 n γ e i) (fun z => z.1 = 0 ∧ FrQ γ0 e z.2 ∧ ∀ k, γ0 43 e ≤ k → k < γ0 44 e → -1 ≤ z.2 41 k ∧ z.2 41 k < 2 * γ0 28 (γ0 3 9)) := by
  have b := hx.b
  have v := hx.v
  have := FU_v
  intro n
  induction n with
  | zero => intro γ i h h1 h2 h3; exfalso; omega
  | succ n ih =>
    intro γ i h h1 h2 h3
    have ⟨hF, ht, hs, hp, hq⟩ := h
    have e43 := hF 43 e (by omega) (by omega) (by omega)
    unfold f_Ck_settle_L37
    rw [e43]
    refine wp_chk (by omega) (wp_ite (fun c => wp_some ⟨rfl, hF, fun k r1 r2 => hp k (by omega) r2⟩) (fun c => ?_))
    have g1 : γ0 43 e ≤ i := by omega
    have p := hx.p g1 h2
    have D := hx.D g1 (by omega)
    have pn := sdK_nn p.1
    have pl := p.2.2.2.2
    have ps := Pf_succ (γ := γ0) (k := i) (by omega)
    refine wp_chk (by omega) (wp_sub (wp_chk (by simp [stA]; omega) (wp_sub ?_)))
    have hF1 : FrQ γ0 e (setA γ 7 4 (γ 7 4 - 1)) := hF.s4
    have t1 : setA γ 7 4 (γ 7 4 - 1) 7 4 = γ 7 4 - 1 := by rw [stA, if_pos ⟨rfl, rfl⟩]
    have r1 : ∀ j k, j ≠ 7 → setA γ 7 4 (γ 7 4 - 1) j k = γ j k := fun j k q => by rw [stA, if_neg (by omega)]
    generalize setA γ 7 4 (γ 7 4 - 1) = γ1 at *
    have f38 := hF1 38 i (by omega) (by omega) (by omega)
    have f39 := hF1 39 i (by omega) (by omega) (by omega)
    have sx := hs (γ 7 4 - 1) (by omega) (by omega)
    rw [f38, t1, r1 53 _ (by omega)]
    have key : ∀ a w, (-1 ≤ a ∧ a < 2 * γ0 28 (γ0 3 9)) → (-1 ≤ w ∧ w < 2 * γ0 28 (γ0 3 9)) → wp (f_Ck_settle_b138 (f_Ck_settle_L37 n) γ1 e i a w) (fun z => z.1 = 0 ∧ FrQ γ0 e z.2 ∧ ∀ k, γ0 43 e ≤ k → k < γ0 44 e → -1 ≤ z.2 41 k ∧ z.2 41 k < 2 * γ0 28 (γ0 3 9)) := by
      intro a w ha hw
      unfold f_Ck_settle_b138
      refine wp_chk (by omega) (wp_sub ?_)
      have k41 : ∀ k, setA γ1 41 i a 41 k = if k = i then a else γ 41 k := fun k => by
        rw [stA]
        by_cases q : k = i
        · rw [if_pos ⟨rfl, q⟩, if_pos q]
        · rw [if_neg (fun y => q y.2), if_neg q, r1 41 k (by omega)]
      have k74 : setA γ1 41 i a 7 4 = γ 7 4 - 1 := by rw [stA, if_neg (by omega)]; exact t1
      have k53 : ∀ s, setA γ1 41 i a 53 s = γ 53 s := fun s => by rw [stA, if_neg (by omega)]; exact r1 53 s (by omega)
      refine w_se_L152 hx g1 h2 hw (fun γ2 h2' => ?_) FU _ 0 (hF1.s41 g1 h2) (by omega) pn (by omega) (fun s q1 q2 => by rw [k53]; exact hs s q1 (by omega)) (fun k q1 q2 => ?_) (fun k q1 q2 => ?_) (by have := p.2.2.2.2; omega)
      · exact ih γ2 (i + -1) h2' (by omega) (by omega) (by omega)
      · rw [k41]
        by_cases q : k = i
        · rw [if_pos q]; exact ha
        · rw [if_neg q]; exact hp k (by omega) q2
      · rw [k41, k41, if_neg (by omega), if_neg (by omega)]
        exact hq k q1 (by omega)
    refine wp_chk (by omega) (wp_ite (fun c2 => wp_chk (by omega) (wp_ite (fun c3 => key _ _ sx sx) (fun c3 => ?_))) (fun c2 => wp_chk (by omega) ?_))
    · have y := (hq i g1 (by omega)).2 (by omega)
      have z := (hq (i - 1) (by omega) (by omega)).1
      rw [r1 41 _ (by omega)]
      exact wp_chk (by omega) (wp_chk (by omega) (wp_sub (key _ _ (by omega) (by omega))))
    · have pw := p.2.2.2.1 (by omega)
      rw [f39]
      refine wp_bnd (w_clockOfC hx hF1 pw) (fun r γ2 q => ?_)
      obtain ⟨q0, q1, q2⟩ := q
      have q0 : γ2 = γ1 := q0
      subst q0
      exact key _ _ sx ⟨q1, q2⟩
theorem w_settle {γ0 γ : St} {e c : Int} (hx : CkX γ0 e) (hF : FrQ γ0 e γ) (hc : -1 ≤ c ∧ c < 2 * γ0 28 (γ0 3 9)) (hq : ∀ k, γ0 43 e ≤ k → k < γ0 44 e → (-2 ≤ γ 41 k ∧ γ 41 k < 2 * γ0 28 (γ0 3 9)) ∧ (γ0 38 k = 36 → γ0 43 e < k ∧ 0 ≤ γ 41 (k - 1))) : wp (f_Ck_settle γ e c) (fun z => z.1 = 0 ∧ FrQ γ0 e z.2 ∧ ∀ k, γ0 43 e ≤ k → k < γ0 44 e → -1 ≤ z.2 41 k ∧ z.2 41 k < 2 * γ0 28 (γ0 3 9)) := by
  have b := hx.b
  have := FU_v
  have eP := (hx.1.2.2.2.2.2.2.2.2 e hx.2.2.1 hx.2.2.2).2.2.1
  have e44 := hF 44 e (by omega) (by omega) (by omega)
  unfold f_Ck_settle
  refine wp_sub (wp_chk (by simp [stA]; omega) (wp_sub (wp_chk (by simp [stA]; omega) (wp_sub (wp_chk (by omega) (wp_chk (by simp [stA]; omega) (wp_sub ?_)))))))
  generalize hh : setA _ 7 4 _ = γs
  have s0 : ∀ j k, γs j k = if j = 7 ∧ k = 4 then 1 else if j = 53 ∧ k = 0 then c else γ j k := fun j k => by
    rw [← hh]
    simp only [stA]
    simp
    grind
  have b74 : γs 7 4 = 1 := by rw [s0]; simp
  have b41 : ∀ k, γs 41 k = γ 41 k := fun k => by rw [s0]; simp
  have b44 : γs 44 e = γ0 44 e := by rw [s0]; simpa using e44
  rw [b44]
  refine w_se_L37 hx FU γs (γ0 44 e - 1) ⟨fun j k r1 r2 r3 => ?_, ?_, fun s r1 r2 => ?_, fun k r1 r2 => by omega, fun k r1 r2 => by rw [b41, b41]; exact hq k r1 (by omega)⟩ (by omega) (by omega) (by omega)
  · rw [s0, if_neg (by omega), if_neg (by omega)]; exact hF j k r1 r2 r3
  · rw [b74, show γ0 44 e - 1 + 1 = γ0 44 e by omega, eP]; omega
  · have : s = 0 := by omega
    rw [s0, this]; simp; exact hc
/-- clocks fit -/
def CfP (γ0 : St) (e : Int) (z : Int × St) : Prop := FlP γ0 z ∨ z.1 = 1 ∧ FrQ γ0 e z.2 ∧ ∀ k, γ0 43 e ≤ k → k < γ0 44 e → -1 ≤ z.2 41 k ∧ z.2 41 k < 2 * γ0 28 (γ0 3 9)
theorem w_cf_b169 {γ0 γ : St} {e : Int} (hx : CkX γ0 e) (hF : FrQ γ0 e γ) : wp (f_Ck_clocksFit_b169 γ e) (CfP γ0 e) := by
  have b := hx.b
  unfold f_Ck_clocksFit_b169
  exact wp_chk (by omega) (wp_id (wp_mono (w_failAt hF.X (hF.T hx.1.1) (by omega)) (fun z hz => Or.inl hz)))
/-- the left sides' clocks -/
theorem w_cf_L83 {γ0 γ : St} {e c : Int} (hx : CkX γ0 e) (hF : FrQ γ0 e γ) (hE : ∀ g, (g = 0 ∨ g = 1) → wp (f_Ck_clocksFit_b143 γ e g c) (CfP γ0 e)) : ∀ (n : Nat) (g x49 : Int), (g = 0 ∨ g = 1) → 0 ≤ x49 → x49 ≤ γ0 46 e → γ0 46 e - x49 < n → wp (f_Ck_clocksFit_L83 f_Ck_clocksFit_b143 n γ e g (γ0 45 e) c x49) (CfP γ0 e) := by
  have b := hx.b
  have v := hx.v
  have e46 := hF 46 e (by omega) (by omega) (by omega)
  have e5 := hF 7 5 (by omega) (by omega) (by omega)
  intro n
  induction n with
  | zero => intro g x49 h1 h2 h3 h4; exfalso; omega
  | succ n ih =>
    intro g x49 h1 h2 h3 h4
    unfold f_Ck_clocksFit_L83
    rw [e46, e5]
    refine wp_chk (by omega) (wp_ite (fun _ => hE g h1) (fun c1 => ?_))
    have b136 : ∀ y, (y = 0 ∨ y = 1) → wp (f_Ck_clocksFit_b136 (f_Ck_clocksFit_L83 f_Ck_clocksFit_b143 n) f_Ck_clocksFit_b143 γ e (γ0 45 e) c x49 y) (CfP γ0 e) := fun y hy => by
      unfold f_Ck_clocksFit_b136
      exact wp_chk (by omega) (ih y _ hy (by omega) (by omega) (by omega))
    have b135 : wp (f_Ck_clocksFit_b135 (f_Ck_clocksFit_L83 f_Ck_clocksFit_b143 n) f_Ck_clocksFit_b143 γ e (γ0 45 e) c x49) (CfP γ0 e) := b136 0 (by omega)
    have e47 := hF 47 (γ0 45 e + x49) (by omega) (by omega) (by omega)
    have l := (hx.1.2.2.2.2.2.2.2.2 e hx.2.2.1 hx.2.2.2).2.2.2.2.1 (γ0 45 e + x49) (by omega) (by omega)
    rw [e47]
    exact wp_ite (fun _ => b135) (fun _ => wp_chk (by omega) (wp_chk (by omega) (wp_chk (by omega) (wp_chk (by omega) (wp_ite (fun _ => b135) (fun _ => b136 1 (by omega)))))))
theorem w_cf_b46 {γ0 γ : St} {e g : Int} (hx : CkX γ0 e) (hF : FrQ γ0 e γ) (hg : g = 0 ∨ g = 1 ∧ ∀ k, γ0 43 e ≤ k → k < γ0 44 e → (-2 ≤ γ 41 k ∧ γ 41 k < 2 * γ0 28 (γ0 3 9)) ∧ (γ0 38 k = 36 → γ0 43 e < k ∧ 0 ≤ γ 41 (k - 1))) : wp (f_Ck_clocksFit_b46 γ e g) (CfP γ0 e) := by
  have b := hx.b
  have v := hx.v
  have := FU_v
  have e45 := hF 45 e (by omega) (by omega) (by omega)
  have e5 := hF 7 5 (by omega) (by omega) (by omega)
  have e47 := hF 47 (γ0 45 e) (by omega) (by omega) (by omega)
  have l := (hx.1.2.2.2.2.2.2.2.2 e hx.2.2.1 hx.2.2.2).2.2.2.2.1 (γ0 45 e) (by omega) (by omega)
  have cl := hx.cl l.1 l.2
  unfold f_Ck_clocksFit_b46
  rw [e45, e5]
  refine wp_chk (by omega) (wp_sub ?_)
  rw [e47]
  refine wp_chk (by omega) (wp_chk (by omega) (wp_chk (by omega) (wp_sub ?_)))
  rw [hF 34 _ (by omega) (by omega) (by omega)]
  have b169 := w_cf_b169 hx hF
  rcases hg with hg | hg
  · subst hg
    -- not good: every way ends in the fault
    have hz : ∀ y, (y = 0) → wp (f_Ck_clocksFit_b143 γ e y (γ0 34 (γ0 7 5 + γ0 47 (γ0 45 e)))) (CfP γ0 e) := fun y hy => by
      unfold f_Ck_clocksFit_b143
      exact wp_ite (fun _ => b169) (fun c => absurd hy c)
    have L : ∀ (n : Nat) (x49 : Int), 0 ≤ x49 → x49 ≤ γ0 46 e → γ0 46 e - x49 < n → wp (f_Ck_clocksFit_L83 f_Ck_clocksFit_b143 n γ e 0 (γ0 45 e) (γ0 34 (γ0 7 5 + γ0 47 (γ0 45 e))) x49) (CfP γ0 e) := by
      intro n
      induction n with
      | zero => intro x49 h1 h2 h3; exfalso; omega
      | succ n ih =>
        intro x49 h1 h2 h3
        have e46 := hF 46 e (by omega) (by omega) (by omega)
        unfold f_Ck_clocksFit_L83
        rw [e46]
        refine wp_chk (by omega) (wp_ite (fun _ => hz 0 rfl) (fun c1 => wp_ite (fun _ => ?_) (fun c => absurd rfl c)))
        unfold f_Ck_clocksFit_b135 f_Ck_clocksFit_b136
        exact wp_chk (by omega) (ih _ (by omega) (by omega) (by omega))
    exact L FU 1 (by omega) (by omega) (by omega)
  · obtain ⟨hg, hq⟩ := hg
    subst hg
    have b188 : wp (f_Ck_clocksFit_b188 γ e (γ0 34 (γ0 7 5 + γ0 47 (γ0 45 e)))) (CfP γ0 e) := by
      unfold f_Ck_clocksFit_b188
      exact wp_bnd (w_settle hx hF cl hq) (fun r γ1 q => wp_some (Or.inr ⟨rfl, q.2.1, q.2.2⟩))
    refine w_cf_L83 hx hF (fun y hy => ?_) FU 1 1 (by omega) (by omega) (by omega) (by omega)
    unfold f_Ck_clocksFit_b143
    exact wp_ite (fun _ => b169) (fun _ => wp_chk (by omega) (wp_ite (fun _ => b188) (fun _ => wp_chk (by omega) (wp_ite (fun _ => b188) (fun _ => b169)))))
theorem w_cf_L17 {γ0 : St} {e : Int} (hx : CkX γ0 e) : ∀ (n : Nat) (γ : St) (i : Int), CsI γ0 e γ i → γ0 43 e ≤ i → i ≤ γ0 44 e → γ0 44 e - i < n → wp (f_Ck_clocksFit_L17 f_Ck_clocksFit_b46 n γ e 1 i) (CfP γ0 e) := by
  have b := hx.b
  intro n
  induction n with
  | zero => intro γ i h h1 h2 h3; exfalso; omega
  | succ n ih =>
    intro γ i h h1 h2 h3
    have hF := h.1
    have e44 := hF 44 e (by omega) (by omega) (by omega)
    unfold f_Ck_clocksFit_L17
    rw [e44]
    refine wp_ite (fun c => absurd c (by decide)) (fun _ => wp_chk (by omega) (wp_ite (fun c => ?_) (fun c => ?_)))
    · exact w_cf_b46 hx hF (Or.inr ⟨rfl, fun k q1 q2 => h.2.2.2.2 k q1 (by omega)⟩)
    · refine wp_bnd (w_checkClock hx h h1 (by omega)) (fun r γ1 q => wp_chk (by omega) ?_)
      rcases q with q | q
      · have e0 : r = 0 := q.1
        rw [e0]
        cases n with
        | zero => exfalso; omega
        | succ n =>
          unfold f_Ck_clocksFit_L17
          exact wp_ite (fun _ => w_cf_b46 hx q.2 (Or.inl rfl)) (fun c => absurd rfl c)
      · have e1 : r = 1 := q.1
        rw [e1]
        exact ih γ1 (i + 1) q.2 (by omega) (by omega) (by omega)
theorem w_clocksFit {γ : St} {e : Int} (hx : CkX γ e) : wp (f_Ck_clocksFit γ e) (CfP γ e) := by
  have b := hx.b
  have := FU_v
  have eP := (hx.1.2.2.2.2.2.2.2.2 e hx.2.2.1 hx.2.2.2).2.1
  unfold f_Ck_clocksFit
  refine wp_sub (wp_chk (by omega) (wp_sub ?_))
  have s74 : setA γ 7 4 0 7 4 = 0 := by rw [stA, if_pos ⟨rfl, rfl⟩]
  have s43 : setA γ 7 4 0 43 e = γ 43 e := by rw [stA, if_neg (by omega)]
  rw [s43]
  refine w_cf_L17 hx FU _ _ ⟨FrQ.s4 (fun _ _ _ _ _ => rfl), by omega, fun s q1 q2 => by omega, fun q => by omega, fun k q1 q2 => by omega⟩ (by omega) (by omega) (by omega)
