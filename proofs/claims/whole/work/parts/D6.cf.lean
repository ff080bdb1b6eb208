/-! equality: the clocks of an equation -/
theorem cfail_pc {γ : St} {a : Int} (h7 : γ 1 7 = 0) : pc (f_Ck_clocksFit_b169 γ a) (fun z => z = (0, faS γ 6 (γ 42 a))) := by
  unfold f_Ck_clocksFit_b169
  refine pc_c (fun _ => pc_b (failAt_pc h7) (fun r γ' e => ?_))
  cases e
  exact pc_s rfl
/-- the other left sides are on the first's clock, or not -/
theorem L83_pc {e143 : St → Int → Int → Int → Option (Int × St)} {γ : St} {a x47 c nl : Int} {P : Int × St → Prop} {L : Int → Int} (h46 : γ 46 a = nl) (hL : ∀ i, 1 ≤ i → i < nl → γ 34 (γ 7 5 + γ 47 (x47 + i)) = L i) : ∀ (n : Nat) (g i : Int), 1 ≤ i → ((g ≠ 0 ∧ ∀ j, i ≤ j → j < nl → L j = c) → ∀ g', g' ≠ 0 → pc (e143 γ a g' c) P) → (¬ (g ≠ 0 ∧ ∀ j, i ≤ j → j < nl → L j = c) → pc (e143 γ a 0 c) P) → pc (f_Ck_clocksFit_L83 e143 n γ a g x47 c i) P := by
  intro n
  induction n with
  | zero => intro g i _ _ _; exact pc_n
  | succ n ih =>
    intro g i h1 hy hn
    unfold f_Ck_clocksFit_L83 f_Ck_clocksFit_b135 f_Ck_clocksFit_b136
    rw [h46]
    refine pc_c (fun _ => pc_i (fun q => ?_) (fun q => ?_))
    · by_cases q0 : g = 0
      · rw [q0]
        exact hn (fun r => r.1 q0)
      · exact hy ⟨q0, fun j a b => by exfalso; omega⟩ g q0
    · have step : ∀ g' : Int, ((g' ≠ 0 ∧ ∀ j, i + 1 ≤ j → j < nl → L j = c) ↔ (g ≠ 0 ∧ ∀ j, i ≤ j → j < nl → L j = c)) → pc (f_Ck_clocksFit_L83 e143 n γ a g' x47 c (i + 1)) P := fun g' hh => by
        refine ih g' (i + 1) (by omega) (fun r => hy (hh.1 r)) (fun r => hn (fun r2 => r (hh.2 r2)))
      refine pc_i (fun q0 => ?_) (fun q0 => pc_c (fun _ => pc_c (fun _ => pc_c (fun _ => pc_c (fun _ => ?_)))))
      · exact pc_c (fun _ => step 0 ⟨fun r => absurd rfl r.1, fun r => absurd q0 r.1⟩)
      · rw [hL i h1 (by omega)]
        refine pc_i (fun q2 => pc_c (fun _ => step 0 ⟨fun r => absurd rfl r.1, fun r => absurd (r.2 i (Int.le_refl _) (by omega)) q2⟩)) (fun q2 => pc_c (fun _ => step 1 ⟨fun r => ⟨q0, fun j a b => ?_⟩, fun r => ⟨by decide, fun j a b => r.2 j (by omega) b⟩⟩))
        by_cases qj : j = i
        · subst qj
          omega
        · exact r.2 j (by omega) b
theorem tog_v {γ : St} {a b : Int} (hb : b ≠ -2) : pc (f_M_together γ a b) (fun z => (a ≠ -2 ∧ a ≠ b) ∧ z = (.inl (6, γ 0 42), γ) ∨ ¬ (a ≠ -2 ∧ a ≠ b) ∧ z = (.inr b, γ)) := by
  unfold f_M_together
  refine pc_i (fun q => ?_) (fun q => pc_s (Or.inr ⟨fun r => q r.1, rfl⟩))
  rw [if_neg hb]
  exact pc_i (fun q2 => pc_s (Or.inr ⟨fun r => r.2 q2, by rw [q2]⟩)) (fun q2 => pc_s (Or.inl ⟨⟨q, q2⟩, rfl⟩))
theorem L234_pc {δ : St} {a nl : Int} {L : Int → Int} (hL : ∀ i, 0 ≤ i → i < nl → δ 12 (δ 4 (δ 0 18) + δ 18 (δ 16 a + i)) = L i) (h2 : ∀ i, 0 ≤ i → i < nl → L i ≠ -2) : ∀ (n : Nat) (c i : Int), 0 ≤ i → c ≠ -2 → pc (f_M_judge_L234 n δ a nl c i) (fun z => (∀ j, i ≤ j → j < nl → L j = c) ∧ z = (.inr 0, δ) ∨ (¬ ∀ j, i ≤ j → j < nl → L j = c) ∧ z.1 = .inl (6, δ 0 42)) := by
  intro n
  induction n with
  | zero => intro c i _ _; exact pc_n
  | succ n ih =>
    intro c i h0 hc
    unfold f_M_judge_L234
    refine pc_i (fun q => pc_s (Or.inl ⟨fun j a b => by exfalso; omega, rfl⟩)) (fun q => ?_)
    refine pc_c (fun _ => pc_c (fun _ => pc_c (fun _ => pc_b cOf_pc (fun r γ' e => ?_))))
    cases e
    rw [hL i h0 (by omega)]
    have l2 := h2 i h0 (by omega)
    refine pc_bT (tog_v l2) (fun er γ' z => ?_) (fun r γ' z => ?_)
    · rcases z with ⟨z1, z2⟩ | ⟨_, z2⟩
      · cases z2
        exact Or.inr ⟨fun r => z1.2 (r i (Int.le_refl _) (by omega)).symm, rfl⟩
      · cases z2
    · have rc : r = c ∧ γ' = δ ∧ c = L i := by
        rcases z with ⟨_, z2⟩ | ⟨z1, z2⟩
        · cases z2
        · have ec : c = L i := by
            by_cases q : c = L i
            · exact q
            · exact absurd ⟨hc, q⟩ z1
          cases z2
          exact ⟨ec.symm, rfl, ec⟩
      obtain ⟨rc, e2, e3⟩ := rc
      subst rc; subst e2
      refine pc_c (fun _ => pc_m (ih r (i + 1) (by omega) hc) (fun z hz => ?_))
      rcases hz with ⟨z1, z2⟩ | ⟨z1, z2⟩
      · refine Or.inl ⟨fun j a b => ?_, z2⟩
        by_cases qj : j = i
        · rw [qj]; exact e3.symm
        · exact z1 j (by omega) b
      · exact Or.inr ⟨fun r => z1 (fun j a b => r j (by omega) b), z2⟩
theorem jnL_mem {g : Int → Int} : ∀ {ks : List Int} {c : Int}, (∀ y ∈ ks, g y ≠ -3) → jnL g c ks ≠ -3 → (∀ y ∈ ks, g y = -2 ∨ g y = jnL g c ks) ∧ (c = -2 ∨ c = jnL g c ks)
  | [], c, _, h => ⟨fun y hy => (by cases hy), Or.inr rfl⟩
  | y :: t, c, h3, h => by
    have ht : ∀ z ∈ t, g z ≠ -3 := fun z hz => h3 z (List.mem_cons_of_mem _ hz)
    have h : jnL g (jnS c (g y)) t ≠ -3 := h
    obtain ⟨i1, i2⟩ := jnL_mem ht h
    have n3 : jnS c (g y) ≠ -3 := fun r => by rw [r] at h; exact h (jnL_3 ht)
    show (∀ z ∈ y :: t, g z = -2 ∨ g z = jnL g (jnS c (g y)) t) ∧ (c = -2 ∨ c = jnL g (jnS c (g y)) t)
    generalize hJ : jnL g (jnS c (g y)) t = J at *
    have hy : (g y = -2 ∨ g y = J) ∧ (c = -2 ∨ c = J) := by
      unfold jnS at i2 n3
      by_cases q : c = -2
      · rw [if_neg (fun r => r q)] at i2
        exact ⟨i2, Or.inl q⟩
      · rw [if_pos q] at i2 n3
        by_cases q2 : g y = -2
        · rw [if_pos q2] at i2
          exact ⟨Or.inl q2, i2⟩
        · rw [if_neg q2] at i2 n3
          by_cases q3 : g y = c
          · rw [if_pos q3] at i2
            rw [q3]
            exact ⟨i2, i2⟩
          · rw [if_neg q3] at n3
            exact absurd rfl n3
    refine ⟨fun z hz => ?_, hy.2⟩
    rcases List.mem_cons.1 hz with e | e
    · rw [e]; exact hy.1
    · exact i1 z e
theorem L152_pc {e193 : St → Int → Int → Option (Int × St)} {a i w : Int} {P : Int × St → Prop} : ∀ (n : Nat) (γ : St) (j : Int), 0 ≤ j → j ≤ γ 40 i → (∀ γ', Fck γ γ' → (∀ k, γ' 41 k = γ 41 k) → γ' 7 4 = γ 7 4 + (γ 40 i - j) → (∀ k, k < γ 7 4 → γ' 53 k = γ 53 k) → (∀ k, γ 7 4 ≤ k → k < γ 7 4 + (γ 40 i - j) → γ' 53 k = w) → pc (e193 γ' a i) P) → pc (f_Ck_settle_L152 e193 n γ a i w j) P := by
  intro n
  induction n with
  | zero => intro γ j _ _ _; exact pc_n
  | succ n ih =>
    intro γ j h0 h1 h
    unfold f_Ck_settle_L152
    refine pc_c (fun _ => pc_i (fun q => ?_) (fun q => ?_))
    · exact h γ Fck.rf (fun _ => rfl) (by omega) (fun _ _ => rfl) (fun k a b => by exfalso; omega)
    · refine pc_c (fun _ => pc_a ?_)
      have e4 : setA γ 53 (γ 7 4) w 7 4 = γ 7 4 := by rw [stA, if_neg (by omega)]
      rw [e4]
      refine pc_c (fun _ => pc_a (pc_c (fun _ => ?_)))
      generalize hg : setA (setA γ 53 (γ 7 4) w) 7 4 _ = γ2
      have s : ∀ j k, γ2 j k = if j = 7 ∧ k = 4 then γ 7 4 + 1 else if j = 53 ∧ k = γ 7 4 then w else γ j k := fun j k => by rw [← hg, stA, stA]
      have s4 : γ2 7 4 = γ 7 4 + 1 := by rw [s, if_pos ⟨rfl, rfl⟩]
      have s40 : γ2 40 i = γ 40 i := by rw [s, if_neg (by omega), if_neg (by omega)]
      refine ih γ2 (j + 1) (by omega) (by omega) (fun γ' f1 f2 f3 f4 f5 => ?_)
      rw [s4, s40] at f3
      rw [s4] at f4
      rw [s4, s40] at f5
      refine h γ' (fun j k a b c => ?_) (fun k => ?_) (by omega) (fun k hk => ?_) (fun k h1 h2 => ?_)
      · rw [f1 j k a b c, s, if_neg (by omega), if_neg (by omega)]
      · rw [f2, s, if_neg (by omega), if_neg (by omega)]
      · rw [f4 k (by omega), s, if_neg (by omega), if_neg (by omega)]
      · by_cases qk : k = γ 7 4
        · rw [f4 k (by omega), s, if_neg (by omega), if_pos ⟨rfl, qk⟩]
        · exact f5 k (by omega) (by omega)
/-- a settled part -/
def SeE (γ δ : St) (F : Int → Int) (e : Int) : Prop := (γ 41 e = if δ 20 e = 25 then F (δ 22 e) else F e) ∧ ∀ ms, Ch (δ 23) (δ 22 e) ms → ∀ x ∈ ms, F x = if δ 24 x = -2 then (if δ 20 e = 26 then δ 12 (δ 4 (δ 0 18) + δ 21 e / 2) else F e) else δ 24 x
theorem Arr.const {f g : Int → Int} {w : Int} : ∀ {ks : List Int} {b : Int}, (∀ n, b ≤ n → n < b + ks.length → f n = w) → (∀ y ∈ ks, g y = w) → Arr f g b ks
  | [], _, _, _ => trivial
  | y :: t, b, hf, hg => by
    have e : ((y :: t).length : Int) = 1 + (t.length : Int) := by simp only [List.length_cons]; omega
    rw [e] at hf
    exact ⟨by rw [hf b (by omega) (by omega), hg y List.mem_cons_self], Arr.const (fun n a b => hf n (by omega) (by omega)) (fun z hz => hg z (List.mem_cons_of_mem _ hz))⟩
/-- all below are looked at -/
def ClG (δ : St) (lo hi nv nn : Int) : Prop := ∀ e, lo ≤ e → e ≤ hi → ∃ ms, Ch (δ 23) (δ 22 e) ms ∧ Sg (δ 26) (e + 1 - δ 26 e) ms e ∧ lo ≤ e + 1 - δ 26 e ∧ aryK (δ 20 e) ms.length ∧ whK nv nn (δ 20 e) (δ 21 e) ∧ clK δ e ms = some (δ 24 e) ∧ (∀ y ∈ ms, δ 24 y ≠ -3 ∧ δ 24 y < 2 * nv)
theorem pc_settle {γ0 δ : St} {a lo hi nv nn L0 : Int} (c0 : CkC γ0 δ) (hnv : nv = δ 0 19 - δ 4 (δ 0 18)) (hn : nv ≤ 99) (h43 : γ0 43 a = lo) (h40 : hi < δ 0 40) (hlo : 0 ≤ lo) (cg : ClG δ lo hi nv nn) : ∀ (n : Nat) (γ : St) (i : Int) (ks : List Int) (F : Int → Int), Fck γ0 γ → i ≤ hi → lo ≤ i + 1 → (Sg (δ 26) lo ks (i + 1) ∧ γ 7 4 = ks.length ∧ Arr (γ 53) F 0 ks) → (∀ y, lo ≤ y → y ≤ i → γ 41 y = δ 24 y) → (∀ x ∈ ks, δ 24 x = -2 ∨ F x = δ 24 x) → (∀ k, k < lo ∨ hi < k → γ 41 k = γ0 41 k) → (∀ e, i < e → e ≤ hi → SeE γ δ F e ∧ ∀ ms, Ch (δ 23) (δ 22 e) ms → ∀ x ∈ ms, x ∈ ks ∨ i < x) → F hi = L0 → (i = hi → ks = [hi]) → pc (f_Ck_settle_L37 n γ a i) (fun z => Fck γ0 z.2 ∧ (∀ k, k < lo ∨ hi < k → z.2 41 k = γ0 41 k) ∧ ∃ F, F hi = L0 ∧ ∀ e, lo ≤ e → e ≤ hi → SeE z.2 δ F e) := by
  intro n
  induction n with
  | zero => intro γ i ks F _ _ _ _ _ _ _ _ _ _; exact pc_n
  | succ n ih =>
    intro γ i ks F fc hi' hl st h41 hr ho hp hF hb
    unfold f_Ck_settle_L37
    have f : ∀ (j : Nat) (k : Int), j ≠ 53 → j ≠ 41 → (j = 7 → k ≠ 4) → γ j k = γ0 j k := fc
    rw [f 43 a (by omega) (by omega) (by omega), h43]
    refine pc_c (fun _ => pc_i (fun q => pc_s ⟨fc, ho, F, hF, fun e a b => (hp e (by omega) b).1⟩) (fun q => ?_))
    have c := c0.fr fc (lo := 0) (hi := 0) (fun _ _ _ _ _ => rfl)
    obtain ⟨ms, ch, sg, hlo2, ar, wh, ck, h3⟩ := cg i (by omega) hi'
    obtain ⟨p1, p2, qs, p3, p4⟩ := c.2.2.2.1.2 i (by omega) (by omega)
    have eq : qs = ms := p3.uniq sg
    subst eq
    have le := sg.le
    have mm := sg.mem
    -- the root on top is i
    obtain ⟨ks', ek⟩ : ∃ ks', ks = ks' ++ [i] := by
      rcases List.eq_nil_or_concat ks with e | ⟨k0, b, e⟩
      · subst e
        have e2 : lo = i + 1 := st.1
        exfalso; omega
      · rw [List.concat_eq_append] at e
        subst e
        have h2 := st.1.unsnoc
        have eb : b = i := by omega
        subst eb
        exact ⟨k0, rfl⟩
    subst ek
    have st1 := st.1.unsnoc
    have st2 := st.2.1
    have ar3 := Arr.app.1 st.2.2
    rw [List.length_append] at st2
    have t0 : γ 53 (0 + ks'.length) = F i := ar3.2.1
    rw [show (0 : Int) + (ks'.length : Int) = ks'.length by omega] at t0
    have st2' : γ 7 4 = ks'.length + 1 := by rw [st2]; simp
    refine pc_c (fun _ => pc_a ?_)
    generalize hg : setA γ 7 4 (γ 7 4 - 1) = γ1
    have s0 : ∀ (j : Nat) (k : Int), j ≠ 7 ∨ k ≠ 4 → γ1 j k = γ j k := fun j k r => by rw [← hg, stA, if_neg (by omega)]
    have s4 : γ1 7 4 = ks'.length := by rw [← hg, stA, if_pos ⟨rfl, rfl⟩]; omega
    rw [s4, s0 53 _ (by omega), t0, s0 38 i (by omega)]
    have ri := hr i (by simp)
    have mem' := st1.1.mem
    -- the step
    have step : ∀ (ar w : Int), ar = (if δ 20 i = 25 then w else F i) → (∀ x ∈ qs, w = if δ 24 x = -2 then (if δ 20 i = 26 then δ 12 (δ 4 (δ 0 18) + δ 21 i / 2) else F i) else δ 24 x) → pc (f_Ck_settle_b138 (f_Ck_settle_L37 n) γ1 a i ar w) (fun z => Fck γ0 z.2 ∧ (∀ k, k < lo ∨ hi < k → z.2 41 k = γ0 41 k) ∧ ∃ F, F hi = L0 ∧ ∀ e, lo ≤ e → e ≤ hi → SeE z.2 δ F e) := fun aro w hao hw => by
      unfold f_Ck_settle_b138
      refine pc_c (fun _ => pc_a ?_)
      generalize hg2 : setA γ1 41 i aro = γ2
      have u0 : ∀ (j : Nat) (k : Int), j ≠ 41 ∨ k ≠ i → γ2 j k = γ1 j k := fun j k r => by rw [← hg2, stA, if_neg (by omega)]
      have u41 : γ2 41 i = aro := by rw [← hg2, stA, if_pos ⟨rfl, rfl⟩]
      have e40 : γ2 40 i = qs.length := by rw [u0 40 i (by omega), s0 40 i (by omega)]; exact p4.symm
      have e74 : γ2 7 4 = ks'.length := by rw [u0 7 4 (by omega), s4]
      refine L152_pc FU γ2 0 (Int.le_refl _) (by omega) (fun γ3 g1 g2 g3 g4 g5 => ?_)
      rw [e74, e40] at g3
      rw [e74] at g4
      rw [e74, e40] at g5
      unfold f_Ck_settle_b193
      refine pc_c (fun _ => ?_)
      rw [show i + -1 = i - 1 by omega]
      have fi : ∀ x, x ∈ qs → x < i := fun x hx => (mm x hx).2
      obtain ⟨F', hF1, hF2⟩ : ∃ F' : Int → Int, (∀ x, x ∈ qs → F' x = w) ∧ ∀ x, x ∉ qs → F' x = F x := ⟨fun x => if x ∈ qs then w else F x, fun x h => if_pos h, fun x h => if_neg h⟩
      refine ih γ3 (i - 1) (ks' ++ qs) F' ?_ (by omega) (by omega) ⟨?_, ?_, ?_⟩ (fun y r1 r2 => ?_) (fun x hx => ?_) (fun k r => ?_) (fun e r1 r2 => ?_) ?_ (fun r => by exfalso; omega)
      · refine fc.tr (fun j k r1 r2 r3 => ?_)
        rw [g1 j k r1 r2 r3, u0 j k (by omega), s0 j k (by omega)]
      · rw [show i - 1 + 1 = i by omega]
        exact st1.1.app sg
      · rw [g3, List.length_append]; omega
      · refine Arr.app.2 ⟨ar3.1.agree (fun k r1 r2 => ?_) (fun y hy => ?_), ?_⟩
        · rw [g4 k (by omega), u0 53 k (by omega), s0 53 k (by omega)]
        · have m1 := mem' y hy
          have : y ∉ qs := fun h => by have := mm y h; omega
          exact hF2 y this
        · rw [show (0 : Int) + (ks'.length : Int) = ks'.length by omega]
          exact Arr.const (w := w) (fun k r1 r2 => g5 k (by omega) (by omega)) (fun y hy => hF1 y hy)
      · rw [g2, u0 41 y (by omega), s0 41 y (by omega)]
        exact h41 y r1 (by omega)
      · rcases List.mem_append.1 hx with hx | hx
        · have m1 := mem' x hx
          have nx : x ∉ qs := fun h => by have := mm x h; omega
          rw [hF2 x nx]
          exact hr x (by simp [hx])
        · rw [hF1 x hx, hw x hx]
          by_cases r : δ 24 x = -2
          · exact Or.inl r
          · exact Or.inr (by rw [if_neg r])
      · rw [g2, u0 41 k (by omega), s0 41 k (by omega)]
        exact ho k r
      · by_cases qe : e = i
        · subst qe
          have ne : e ∉ qs := fun h => by have := fi e h; omega
          refine ⟨⟨?_, fun ms hm x hx => ?_⟩, fun ms hm x hx => ?_⟩
          · rw [g2, u41, hao]
            by_cases r : δ 20 e = 25
            · rw [if_pos r, if_pos r]
              match qs, ch, ar with
              | [y], ch, ar =>
                have e1 : δ 22 e = y := ch.1
                rw [e1, hF1 y (by simp)]
              | [], ch, ar => exact absurd (ar.2.2.2.2 (by omega)) (by simp)
              | _ :: _ :: _, ch, ar => exact absurd (ar.2.2.2.2 (by omega)) (by simp)
            · rw [if_neg r, if_neg r, hF2 e ne]
          · have em := hm.uniq ch
            subst em
            rw [hF1 x hx, hF2 e ne]
            exact hw x hx
          · have em := hm.uniq ch
            subst em
            exact Or.inl (by simp [hx])
        · obtain ⟨⟨k1, k2⟩, k3⟩ := hp e (by omega) r2
          have ne : e ∉ qs := fun h => by have := fi e h; omega
          have nk : ∀ ms, Ch (δ 23) (δ 22 e) ms → ∀ x ∈ ms, x ∉ qs := fun ms hm x hx h => by
            have h1 := fi x h
            have h2 := mm x h
            rcases k3 ms hm x hx with r | r
            · rcases List.mem_append.1 r with r | r
              · have := mem' x r; omega
              · have : x = i := by simpa using r
                omega
            · omega
          refine ⟨⟨?_, fun ms hm x hx => ?_⟩, fun ms hm x hx => ?_⟩
          · rw [g2, u0 41 e (by omega), s0 41 e (by omega), k1]
            by_cases r : δ 20 e = 25
            · rw [if_pos r, if_pos r]
              obtain ⟨me, che, _, _, are, _⟩ := cg e (by omega) r2
              match me, che, are, nk me che with
              | [y], che, are, nk =>
                have e1 : δ 22 e = y := che.1
                rw [e1, hF2 y (nk y (by simp))]
              | [], che, are, _ => exact absurd (are.2.2.2.2 (by omega)) (by simp)
              | _ :: _ :: _, che, are, _ => exact absurd (are.2.2.2.2 (by omega)) (by simp)
            · rw [if_neg r, if_neg r, hF2 e ne]
          · rw [hF2 x (nk ms hm x hx), hF2 e ne]
            exact k2 ms hm x hx
          · rcases k3 ms hm x hx with r | r
            · rcases List.mem_append.1 r with r | r
              · exact Or.inl (by simp [r])
              · have : x = i := by simpa using r
                exact Or.inr (by omega)
            · exact Or.inr (by omega)
      · have nh : hi ∉ qs := fun h => by have := fi hi h; omega
        rw [hF2 hi nh]; exact hF
    -- the kinds
    have kind : (δ 20 i = 26 → γ 38 i = 27) ∧ (γ 38 i = 27 → δ 20 i = 26) ∧ (δ 20 i = 25 → γ 38 i = 36) ∧ (γ 38 i = 36 → δ 20 i = 25) := by
      refine ⟨fun r => ?_, fun r => ?_, fun r => ?_, fun r => ?_⟩
      · have t := kd_c p1 (by omega); clear hp hr; omega
      · rw [r] at p1; exact p1.symm
      · have t := kd_c p1 (by omega); clear hp hr; omega
      · rw [r] at p1; exact p1.symm
    refine pc_c (fun _ => pc_c (fun _ => ?_))
    by_cases k26 : δ 20 i = 26
    · rw [if_neg (show ¬ (γ 38 i ≠ 27) from fun r => r (kind.1 k26)), s0 39 i (by omega), p2]
      have w := wh.2.2.2 k26
      refine pc_c (fun _ => pc_b (clkC_pc (by omega)) (fun r γ' e => ?_))
      cases e
      have e34 : γ1 34 (γ1 7 5 + δ 21 i / 2) = δ 12 (δ 4 (δ 0 18) + δ 21 i / 2) := by
        rw [s0 7 5 (by omega), s0 34 _ (by omega), c.2.1.1]
        exact (c.1 _ (by have := c.2.1.2.2; omega) (by omega)).1
      rw [e34]
      refine step (F i) _ (by rw [if_neg (by omega)]) (fun x hx => ?_)
      rw [if_pos k26]
      match qs, ch, ar, hx, ck with
      | [y], ch, ar, hx, ck =>
        have e1 : δ 22 i = y := ch.1
        have ex : x = y := by simpa using hx
        unfold clK at ck
        rw [if_neg (by omega), if_pos k26, e1] at ck
        rw [ex]
        by_cases r : δ 24 y = -2
        · rw [if_pos r]
        · rw [if_neg r]
          by_cases r2 : δ 24 y = δ 12 (δ 4 (δ 0 18) + δ 21 i / 2)
          · exact r2.symm
          · rw [if_pos ⟨r, r2⟩] at ck; cases ck
      | [], ch, ar, hx, ck => cases hx
      | _ :: _ :: _, ch, ar, hx, ck => exact absurd (ar.2.2.2.2 (by omega)) (by simp)
    · rw [if_pos (show γ 38 i ≠ 27 from fun r => k26 (kind.2.1 r))]
      refine pc_c (fun _ => ?_)
      by_cases k25 : δ 20 i = 25
      · rw [if_neg (show ¬ (γ 38 i ≠ 36) from fun r => r (kind.2.2.1 k25))]
        refine pc_c (fun _ => pc_c (fun _ => pc_a ?_))
        match qs, ch, ar, sg, ck, step with
        | [y], ch, ar, sg, ck, step =>
          have e1 : δ 22 i = y := ch.1
          have sg1 : i + 1 - δ 26 i ≤ y := sg.1
          have ey : y = i - 1 := by
            have := sg.2.2
            have : y + 1 = i := this
            omega
          have e41 : γ1 41 (i - 1) = δ 24 y := by
            rw [s0 41 _ (by omega), h41 (i - 1) (by omega) (by omega), ey]
          rw [e41]
          unfold clK at ck
          rw [if_neg (by omega), if_neg k26, if_pos k25, e1] at ck
          refine step (δ 24 y) (δ 24 y) (by rw [if_pos k25]) (fun x hx => ?_)
          have ex : x = y := by simpa using hx
          rw [ex]
          by_cases r : δ 24 y < 0
          · rw [if_pos r] at ck; cases ck
          · rw [if_neg (by omega)]
        | [], ch, ar, sg, ck, step => exact absurd (ar.2.2.2.2 (by omega)) (by simp)
        | _ :: _ :: _, ch, ar, sg, ck, step => exact absurd (ar.2.2.2.2 (by omega)) (by simp)
      · rw [if_pos (show γ 38 i ≠ 36 from fun r => k25 (kind.2.2.2 r))]
        refine step (F i) (F i) (by rw [if_neg k25]) (fun x hx => ?_)
        rw [if_neg k26]
        by_cases k2 : δ 20 i = 2
        · have := ar.1 (by omega)
          have e0 : qs = [] := List.length_eq_zero_iff.1 this
          subst e0
          cases hx
        · unfold clK at ck
          rw [if_neg k2, if_neg k26, if_neg k25] at ck
          by_cases r3 : jnL (δ 24) (-2) qs = -3
          · rw [if_pos r3] at ck; cases ck
          · rw [if_neg r3] at ck
            have ej : jnL (δ 24) (-2) qs = δ 24 i := by injection ck
            have jm := (jnL_mem (fun y hy => (h3 y hy).1) r3).1 x hx
            rw [ej] at jm
            by_cases r : δ 24 x = -2
            · rw [if_pos r]
            · rw [if_neg r]
              rcases jm with jm | jm
              · exact absurd jm r
              · rcases ri with ri | ri
                · exact absurd (jm.trans ri) r
                · rw [ri, jm]
