/-! the reference's checks: look -/
theorem w_look_b168 {γ : St} {e f : Int} (he : 0 ≤ e ∧ e < 66000) (hf : 0 ≤ f ∧ f < 60) (h4 : 0 ≤ γ 4 f + γ 5 f ∧ γ 4 f + γ 5 f < 6000) (h14 : ∀ v, γ 14 v = 0 ∨ γ 14 v = 1) : wp (f_M_look_b168 γ e f) (LoR e γ) := by
  unfold f_M_look_b168
  exact wp_chk (by omega) (wp_chk hf (wp_chk (by omega) (wp_chk h4 (wp_chk (h14 _) (lo_v he (h14 _))))))
theorem w_look_L122 {γ : St} {e f : Int} (hk : wp (f_M_look_b168 γ e f) (LoR e γ)) : ∀ (n : Nat) (ks : List Int) (i x : Int), Ch (γ 23) x ks → (∀ y ∈ ks, y < 66000) → 0 ≤ i → i + ks.length < 6000 → ks.length < n → wp (f_M_look_L122 f_M_look_b168 n γ e f i x) (LoR e γ) := by
  intro n
  induction n with
  | zero => intro ks i x h1 h2 h3 h4 h5; exact absurd h5 (by omega)
  | succ n ih =>
    intro ks i x h1 h2 h3 h4 h5
    unfold f_M_look_L122
    match ks, h1, h2, h4, h5 with
    | [], h1, h2, h4, h5 =>
      have e1 : x = -1 := h1
      rw [if_pos (by omega)]
      exact hk
    | y :: t, h1, h2, h4, h5 =>
      have e1 : x = y := h1.1
      have e0 := h1.2.1
      have hy := h2 y List.mem_cons_self
      simp only [List.length_cons] at h4 h5
      subst e1
      rw [if_neg (by omega)]
      have nx : ∀ w, wp (f_M_look_b153 (f_M_look_L122 f_M_look_b168 n) f_M_look_b168 γ e f (i + 1) x w) (LoR e γ) := fun w => by
        unfold f_M_look_b153
        exact wp_type (Or.inl ⟨4, rfl⟩) (wp_chk (by omega) (wp_sub (ih t (i + 1) _ h1.2.2 (fun z hz => h2 z (List.mem_cons_of_mem _ hz)) (by omega) (by omega) (by omega))))
      exact wp_chk (by omega) (wp_chk (by omega) (wp_chk (by omega) (wp_ite (fun _ => nx 0) (fun _ => nx 1))))
theorem w_look_L10 {γ : St} {e o : Int} {x30 : St → Int → Int → Int → Option Res} {Q : Res → Prop} : ∀ (n : Nat) (ks : List Int) (c x : Int), wp (x30 γ e o (c + ks.length)) Q → Ch (γ 23) x ks → (∀ y ∈ ks, y < 66000) → 0 ≤ c → c + ks.length < 100000 → ks.length < n → wp (f_M_look_L10 x30 n γ e o c x) Q := by
  intro n
  induction n with
  | zero => intro ks c x h0 h1 h2 h3 h4 h5; exact absurd h5 (by omega)
  | succ n ih =>
    intro ks c x h0 h1 h2 h3 h4 h5
    unfold f_M_look_L10
    match ks, h0, h1, h2, h4, h5 with
    | [], h0, h1, h2, h4, h5 =>
      have e1 : x = -1 := h1
      rw [if_pos (by omega)]
      have e2 : c + (([] : List Int).length : Int) = c := by simp
      rw [e2] at h0
      exact h0
    | y :: t, h0, h1, h2, h4, h5 =>
      have e1 : x = y := h1.1
      have e0 := h1.2.1
      have hy := h2 y List.mem_cons_self
      simp only [List.length_cons] at h4 h5
      subst e1
      rw [if_neg (by omega)]
      have e2 : c + ((x :: t).length : Int) = c + 1 + (t.length : Int) := by simp only [List.length_cons]; omega
      rw [e2] at h0
      exact wp_chk (by omega) (wp_chk (by omega) (wp_sub (ih t (c + 1) _ h0 h1.2.2 (fun z hz => h2 z (List.mem_cons_of_mem _ hz)) (by omega) (by omega) (by omega))))
theorem w_look {γ : St} {lo e o : Int} (p : DcI γ) (h0 : 0 ≤ lo) (he : e < 66000) (g : Gn (γ 0 19 - γ 4 (γ 0 18)) (γ 0 18) γ lo e) (hb : ∀ v, γ 28 v = 0 ∨ γ 28 v = 1) (hn : ∀ f, 0 ≤ f → f < γ 0 18 → 0 ≤ γ 4 f ∧ 0 ≤ γ 5 f ∧ γ 4 f + γ 5 f < 6000) : wp (f_M_look γ e o) (LoR e γ) := by
  have := FU_v
  have ⟨a1, a2, a3, a4, a5, a6, a7⟩ := p
  obtain ⟨ks, g1, g2, g3, g4, g5, g6, g7⟩ := g
  have le := g2.le
  have mm := g2.mem
  have ln := g2.len
  have he' : 0 ≤ e ∧ e < 66000 := by omega
  have my : ∀ y ∈ ks, y < 66000 := fun y hy => by have := mm y hy; omega
  unfold f_M_look
  refine wp_chk he' (wp_sub (w_look_L10 FU ks 0 _ ?_ g1 my (by omega) (by omega) (by omega)))
  unfold f_M_look_b30
  refine wp_chk he' (wp_sub ?_)
  by_cases q3 : γ 20 e = 3
  · have w := g5.2.2.1 q3
    have nf := hn _ w.1 w.2
    have k : ∀ b, wp (f_M_look_b54 γ e o (0 + ks.length) (γ 22 e) b) (LoR e γ) := fun b => by
      unfold f_M_look_b54
      refine wp_chk he' ?_
      rw [if_neg (fun r => r q3)]
      refine wp_chk he' (wp_sub (wp_chk (by omega) (wp_ite (fun q => wp_some (Or.inl ⟨5, rfl⟩)) (fun q => wp_chk (by omega) (wp_ite (fun q4 => ?_) (fun q4 => wp_some (Or.inl ⟨5, rfl⟩)))))))
      exact wp_chk (by omega) (wp_sub (w_look_L122 (w_look_b168 he' (by omega) (by omega) a7) FU ks _ _ g1 my (by omega) (by omega) (by omega)))
    refine wp_ite (fun q => wp_chk ?_ (k _)) (fun q => k _)
    match ks, g1, my, q with
    | [], g1, my, q => have e1 : γ 22 e = -1 := g1; exfalso; omega
    | y :: t, g1, my, q => have e1 : γ 22 e = y := g1.1; have := my y List.mem_cons_self; omega
  · have h2 : γ 20 e = 2 → (0 ≤ γ 0 18 ∧ γ 0 18 < 61) ∧ 0 ≤ γ 4 (γ 0 18) + γ 21 e ∧ γ 4 (γ 0 18) + γ 21 e < 6000 := fun q => by have := g5.2.1 q; omega
    have s := g5.1
    match ks, g1, my, g4 with
    | [], g1, my, g4 =>
      have e1 : γ 22 e = -1 := g1
      have z : γ 20 e ≤ 2 := by
        have b3 := g4.2.2.1
        have b4 := g4.2.2.2.1
        have b5 := g4.2.2.2.2
        simp only [List.length_nil] at b3 b4 b5
        by_cases r1 : γ 20 e = 4
        · exact absurd (b3 r1) (by decide)
        · by_cases r2 : 5 ≤ γ 20 e ∧ γ 20 e ≤ 21
          · exact absurd (b4 r2) (by decide)
          · by_cases r3 : 22 ≤ γ 20 e
            · exact absurd (b5 r3) (by decide)
            · omega
      rw [if_neg (by omega)]
      exact w_look_b54 he' hb a7 s h2 q3 (fun r => by omega) (fun r r' => by omega) (fun r => by omega)
    | y :: t, g1, my, g4 =>
      have e1 : γ 22 e = y := g1.1
      have e0 := g1.2.1
      have m1 := my y List.mem_cons_self
      rw [e1, if_pos e0]
      refine wp_chk ⟨e0, m1⟩ (w_look_b54 he' hb a7 s h2 q3 (fun r => ⟨e0, m1⟩) (fun r r' => ?_) (fun r => ?_))
      · match t, g1, my, g4 with
        | [], g1, my, g4 =>
          exfalso
          by_cases r1 : γ 20 e = 4
          · exact absurd (g4.2.2.1 r1) (by simp)
          · exact absurd (g4.2.2.2.1 (by omega)) (by simp)
        | u :: t, g1, my, g4 =>
          have e2 : γ 23 y = u := g1.2.2.1
          have m2 := my u (List.mem_cons_of_mem _ List.mem_cons_self)
          have e3 := g1.2.2.2.1
          omega
      · match t, g1, my, g4 with
        | [], g1, my, g4 => exact absurd (g4.2.2.1 r) (by simp)
        | [u], g1, my, g4 => exact absurd (g4.2.2.1 r) (by simp)
        | u :: v :: t, g1, my, g4 =>
          have e2 : γ 23 y = u := g1.2.2.1
          have e3 : γ 23 u = v := g1.2.2.2.2.1
          have m3 := my v (List.mem_cons_of_mem _ (List.mem_cons_of_mem _ List.mem_cons_self))
          have e4 := g1.2.2.2.2.2.1
          rw [e2, e3]
          exact ⟨e4, m3⟩
