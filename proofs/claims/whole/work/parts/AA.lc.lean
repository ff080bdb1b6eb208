/-! the reference's checks: lookAtClock -/
def CkV (nv c : Int) : Prop := c = -2 ∨ c = -1 ∨ 0 ≤ c ∧ c < 2 * nv
theorem clockOf_eq {γ : St} {a : Int} (p : DcI γ) (h : 0 ≤ a ∧ a < γ 0 19 - γ 4 (γ 0 18)) : f_M_clockOfVariable γ a = some (γ 12 (γ 4 (γ 0 18) + a), γ) ∧ CkV (γ 0 19 - γ 4 (γ 0 18)) (γ 12 (γ 4 (γ 0 18) + a)) := by
  have ⟨a1, a2, a3, a4, a5, a6, a7⟩ := p
  constructor
  · unfold f_M_clockOfVariable
    rw [chk_t (by omega), chk_t (by omega), chk_t (by omega)]
  · rcases a6 (γ 4 (γ 0 18) + a) (by omega) (by omega) with c | c
    · exact Or.inr (Or.inl c)
    · exact Or.inr (Or.inr (by omega))
/-- together: one of both, or thrown -/
theorem w_together {γ : St} {a b : Int} : wp (f_M_together γ a b) (fun z => z = (.inl (6, γ 0 42), γ) ∨ z = (.inr a, γ) ∨ z = (.inr b, γ)) := by
  unfold f_M_together
  exact wp_ite (fun _ => wp_ite (fun _ => wp_some (Or.inr (Or.inl rfl))) (fun _ => wp_ite (fun _ => wp_some (Or.inr (Or.inl rfl))) (fun _ => wp_some (Or.inl rfl)))) (fun _ => wp_some (Or.inr (Or.inr rfl)))
/-- what lookAtClock answers -/
def LcR (nv e : Int) (γ : St) (z : Res) : Prop := z = (.inl (6, γ 0 42), γ) ∨ ∃ c, CkV nv c ∧ z = (.inr 0, setA γ 24 e c)
theorem w_lookAtClock_L131 {γ : St} {nv e : Int} (he : 0 ≤ e ∧ e < 66000) : ∀ (n : Nat) (ks : List Int) (c x : Int), Ch (γ 23) x ks → (∀ y ∈ ks, y < 66000 ∧ CkV nv (γ 24 y)) → CkV nv c → ks.length < n → wp (f_M_lookAtClock_L131 f_M_lookAtClock_b161 n γ e c x) (LcR nv e γ) := by
  intro n
  induction n with
  | zero => intro ks c x h1 h2 h3 h4; exact absurd h4 (by omega)
  | succ n ih =>
    intro ks c x h1 h2 h3 h4
    unfold f_M_lookAtClock_L131
    match ks, h1, h2, h4 with
    | [], h1, h2, h4 =>
      have e1 : x = -1 := h1
      rw [if_pos (by omega)]
      unfold f_M_lookAtClock_b161
      exact wp_chk (by omega) (wp_sub (wp_some (Or.inr ⟨c, h3, rfl⟩)))
    | y :: t, h1, h2, h4 =>
      have e1 : x = y := h1.1
      have e0 := h1.2.1
      have hy := h2 y List.mem_cons_self
      subst e1
      rw [if_neg (by omega)]
      have nx : ∀ r, CkV nv r → wp (f_M_lookAtClock_L131 f_M_lookAtClock_b161 n γ e r (γ 23 x)) (LcR nv e γ) := fun r hr => ih t r _ h1.2.2 (fun z hz => h2 z (List.mem_cons_of_mem _ hz)) hr (by simp only [List.length_cons] at h4; omega)
      refine wp_chk (by omega) (wp_bndT w_together (fun e γ' z => ?_) (fun r γ' z => ?_))
      · rcases z with z | z | z
        · cases z; exact Or.inl rfl
        · cases z
        · cases z
      · rcases z with z | z | z
        · cases z
        · cases z; exact wp_chk (by omega) (wp_sub (nx _ h3))
        · cases z; exact wp_chk (by omega) (wp_sub (nx _ hy.2))
theorem w_lookAtClock {γ : St} {lo e nn : Int} (p : DcI γ) (h0 : 0 ≤ lo) (he : e < 66000) (g : Gn (γ 0 19 - γ 4 (γ 0 18)) nn γ lo e) (hc : ∀ y, lo ≤ y → y < e → CkV (γ 0 19 - γ 4 (γ 0 18)) (γ 24 y)) : wp (f_M_lookAtClock γ e) (LcR (γ 0 19 - γ 4 (γ 0 18)) e γ) := by
  have := FU_v
  have ⟨a1, a2, a3, a4, a5, a6, a7⟩ := p
  obtain ⟨ks, g1, g2, g3, g4, g5, g6, g7⟩ := g
  have le := g2.le
  have mm := g2.mem
  have ln := g2.len
  have b161 : ∀ c, CkV (γ 0 19 - γ 4 (γ 0 18)) c → wp (f_M_lookAtClock_b161 γ e c) (LcR (γ 0 19 - γ 4 (γ 0 18)) e γ) := fun c hv => by
    unfold f_M_lookAtClock_b161
    exact wp_chk (by omega) (wp_sub (wp_some (Or.inr ⟨c, hv, rfl⟩)))
  have one : 22 ≤ γ 20 e → 0 ≤ γ 22 e ∧ lo ≤ γ 22 e ∧ γ 22 e < e := fun q => by
    have l1 := g4.2.2.2.2 q
    match ks, l1, g1, mm with
    | [y], _, g1, mm =>
      have m := mm y List.mem_cons_self
      have e1 := g1.1
      have e2 := g1.2.1
      omega
  unfold f_M_lookAtClock
  refine wp_chk (by omega) (wp_sub (wp_chk (by omega) (wp_ite (fun q1 => wp_chk (by omega) (wp_ite (fun q2 => wp_chk (by omega) (wp_ite (fun q3 => ?_) (fun q3 => ?_))) (fun q2 => ?_))) (fun q1 => ?_))))
  · exact w_lookAtClock_L131 (by omega) FU ks (-2) _ g1 (fun y hy => ⟨by have := mm y hy; omega, hc y (by have := mm y hy; omega) (by have := mm y hy; omega)⟩) (Or.inl rfl) (by omega)
  · have o := one (by omega)
    refine wp_chk (by omega) (wp_ite (fun q4 => ?_) (fun q4 => wp_some (Or.inl rfl)))
    have v := hc _ o.2.1 o.2.2
    unfold CkV at v
    have cl := clockOf_eq (a := γ 24 (γ 22 e) / 2) p (by omega)
    rw [idiv_2 q4 (by omega)]
    exact wp_chk (by omega) (wp_chk (by decide) (wp_bs cl.1 (b161 _ cl.2)))
  · have o := one (by omega)
    have w := g5.2.2.2 (by omega)
    have cl := clockOf_eq (a := γ 21 e / 2) p (by omega)
    rw [idiv_2 w.1 (by omega)]
    refine wp_chk (by omega) (wp_chk (by omega) (wp_chk (by decide) (wp_bs cl.1 (wp_bndT w_together (fun e γ' z => ?_) (fun r γ' z => ?_)))))
    · rcases z with z | z | z
      · cases z; exact Or.inl rfl
      · cases z
      · cases z
    · have k := b161 (γ 21 e) (Or.inr (Or.inr w))
      rcases z with z | z | z
      · cases z
      · cases z; exact wp_chk (by omega) (wp_sub k)
      · cases z; exact wp_chk (by omega) (wp_sub k)
  · have w := g5.2.1 (by omega)
    have cl := clockOf_eq (a := γ 21 e) p w
    exact wp_chk (by omega) (wp_bs cl.1 (b161 _ cl.2))
