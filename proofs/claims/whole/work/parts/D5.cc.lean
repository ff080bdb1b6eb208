/-! equality: a part's clock -/
def jnS (c s : Int) : Int := if c ≠ -2 then (if s = -2 then c else if s = c then c else -3) else s
def jnL (g : Int → Int) : Int → List Int → Int
  | c, [] => c
  | c, y :: t => jnL g (jnS c (g y)) t
theorem jnL_3 {g : Int → Int} : ∀ {ks : List Int}, (∀ y ∈ ks, g y ≠ -3) → jnL g (-3) ks = -3
  | [], _ => rfl
  | y :: t, h => by
    have e : jnS (-3) (g y) = -3 := by
      unfold jnS
      rw [if_pos (by decide)]
      by_cases q : g y = -2
      · rw [if_pos q]
      · rw [if_neg q, if_neg (h y List.mem_cons_self)]
    show jnL g (jnS (-3) (g y)) t = -3
    rw [e]
    exact jnL_3 (fun z hz => h z (List.mem_cons_of_mem _ hz))
theorem joined_pc {γ : St} {g : Int → Int} {s : Int} : ∀ (rest : List Int) (n : Nat) (c i : Int), Arr (γ 53) g (γ 7 4 + i) rest → s = i + rest.length → pc (f_Ck_joined_L5 n γ s c i) (fun z => z = (jnL g c rest, γ)) := by
  intro rest
  induction rest with
  | nil =>
    intro n c i h1 h2
    have e : s = i := by simpa using h2
    cases n with
    | zero => exact pc_n
    | succ n =>
      unfold f_Ck_joined_L5
      rw [if_pos (by omega)]
      exact pc_s rfl
  | cons y t ih =>
    intro n c i h1 h2
    simp only [List.length_cons] at h2
    cases n with
    | zero => exact pc_n
    | succ n =>
      unfold f_Ck_joined_L5 f_Ck_joined_b51
      rw [if_neg (by omega)]
      refine pc_c (fun _ => pc_c (fun _ => pc_a ?_))
      rw [h1.1]
      have t2 := h1.2
      rw [show γ 7 4 + i + 1 = γ 7 4 + (i + 1) by omega] at t2
      have nx : ∀ c', jnS c (g y) = c' → pc (f_Ck_joined_L5 n γ s c' (i + 1)) (fun z => z = (jnL g c (y :: t), γ)) := fun c' e => by
        have k := ih n c' (i + 1) t2 (by omega)
        rw [← e] at k
        rw [← e]
        exact k
      unfold jnS at nx
      refine pc_i (fun q => pc_i (fun q2 => ?_) (fun q2 => pc_i (fun q3 => ?_) (fun q3 => ?_))) (fun q => ?_)
      · exact pc_c (fun _ => nx c (by rw [if_pos q, if_pos q2]))
      · exact pc_c (fun _ => nx c (by rw [if_pos q, if_neg q2, if_pos q3]))
      · exact pc_c (fun _ => nx (-3) (by rw [if_pos q, if_neg q2, if_neg q3]))
      · exact pc_c (fun _ => nx (g y) (by rw [if_neg q]))
/-- what is said of a part's clock; none: a fault -/
def clK (δ : St) (e : Int) (ms : List Int) : Option Int := if δ 20 e = 2 then some (δ 12 (δ 4 (δ 0 18) + δ 21 e)) else if δ 20 e = 26 then (if δ 24 (δ 22 e) ≠ -2 ∧ δ 24 (δ 22 e) ≠ δ 12 (δ 4 (δ 0 18) + δ 21 e / 2) then none else some (δ 21 e)) else if δ 20 e = 25 then (if δ 24 (δ 22 e) < 0 then none else some (δ 12 (δ 4 (δ 0 18) + δ 24 (δ 22 e) / 2))) else if jnL (δ 24) (-2) ms = -3 then none else some (jnL (δ 24) (-2) ms)
def LcF (e : Int) (δ : St) (r : Option Int) (z : Res) : Prop := match r with
  | none => z.1 = .inl (6, δ 0 42)
  | some v => z = (.inr 0, setA δ 24 e v)
theorem cOf_pc {γ : St} {a : Int} : pc (f_M_clockOfVariable γ a) (fun z => z = (γ 12 (γ 4 (γ 0 18) + a), γ)) := by
  unfold f_M_clockOfVariable
  exact pc_c (fun _ => pc_c (fun _ => pc_c (fun _ => pc_s rfl)))
theorem tog_pc {γ : St} {a b : Int} (hb : b ≠ -2) : pc (f_M_together γ a b) (fun z => (a ≠ -2 ∧ a ≠ b) ∧ z = (.inl (6, γ 0 42), γ) ∨ ¬ (a ≠ -2 ∧ a ≠ b) ∧ ∃ r, z = (.inr r, γ)) := by
  unfold f_M_together
  refine pc_i (fun q => ?_) (fun q => pc_s (Or.inr ⟨fun r => q r.1, b, rfl⟩))
  rw [if_neg hb]
  exact pc_i (fun q2 => pc_s (Or.inr ⟨fun r => r.2 q2, a, rfl⟩)) (fun q2 => pc_s (Or.inl ⟨⟨q, q2⟩, rfl⟩))
theorem L131_pc {δ : St} {e : Int} : ∀ (rest : List Int) (n : Nat) (c x : Int), Ch (δ 23) x rest → c ≠ -3 → (∀ y ∈ rest, δ 24 y ≠ -3) → pc (f_M_lookAtClock_L131 f_M_lookAtClock_b161 n δ e c x) (LcF e δ (if jnL (δ 24) c rest = -3 then none else some (jnL (δ 24) c rest))) := by
  intro rest
  induction rest with
  | nil =>
    intro n c x h1 hc h2
    have e1 : x = -1 := h1
    cases n with
    | zero => exact pc_n
    | succ n =>
      unfold f_M_lookAtClock_L131 f_M_lookAtClock_b161
      rw [if_pos (by omega)]
      show pc _ (LcF e δ (if c = -3 then none else some c))
      rw [if_neg hc]
      exact pc_c (fun _ => pc_a (pc_s rfl))
  | cons y t ih =>
    intro n c x h1 hc h2
    have e1 : x = y := h1.1
    have e0 := h1.2.1
    subst e1
    cases n with
    | zero => exact pc_n
    | succ n =>
      have hy := h2 x List.mem_cons_self
      have ht : ∀ y ∈ t, δ 24 y ≠ -3 := fun z hz => h2 z (List.mem_cons_of_mem _ hz)
      unfold f_M_lookAtClock_L131
      rw [if_neg (by omega)]
      refine pc_c (fun _ => ?_)
      have nx : ∀ c', jnS c (δ 24 x) = c' → c' ≠ -3 → pc (chk (inb x 66000) (ap (δ 23 x) fun x14 => f_M_lookAtClock_L131 f_M_lookAtClock_b161 n δ e c' x14)) (LcF e δ (if jnL (δ 24) c (x :: t) = -3 then none else some (jnL (δ 24) c (x :: t)))) := fun c' e1 h3 => by
        refine pc_c (fun _ => pc_a ?_)
        show pc _ (LcF e δ (if jnL (δ 24) (jnS c (δ 24 x)) t = -3 then none else some (jnL (δ 24) (jnS c (δ 24 x)) t)))
        rw [e1]
        exact ih n c' _ h1.2.2 h3 ht
      unfold f_M_together
      unfold jnS at nx
      by_cases q : c = -2
      · rw [if_neg (fun r => r q)]
        exact nx _ (by rw [if_neg (fun r => r q)]) hy
      · rw [if_pos q]
        by_cases q2 : δ 24 x = -2
        · rw [if_pos q2]
          exact nx c (by rw [if_pos q, if_pos q2]) hc
        · rw [if_neg q2]
          by_cases q3 : c = δ 24 x
          · rw [if_pos q3]
            exact nx c (by rw [if_pos q, if_neg q2, if_pos q3.symm]) hc
          · rw [if_neg q3]
            have e3 : jnL (δ 24) c (x :: t) = -3 := by
              show jnL (δ 24) (jnS c (δ 24 x)) t = -3
              unfold jnS
              rw [if_pos q, if_neg q2, if_neg (fun r => q3 r.symm)]
              exact jnL_3 ht
            rw [e3, if_pos rfl]
            show pc (some ((.inl (6, δ 0 42), δ) : Res)) _
            exact pc_s rfl
theorem lookC_pc {δ : St} {e nv nn lo : Int} {ms : List Int} (ch : Ch (δ 23) (δ 22 e) ms) (ar : aryK (δ 20 e) ms.length) (wh : whK nv nn (δ 20 e) (δ 21 e)) (n3 : ∀ y ∈ ms, δ 24 y ≠ -3) (hv : ∀ a, 0 ≤ a → a < nv → δ 12 (δ 4 (δ 0 18) + a) ≠ -2) (hn : nv ≤ 99) (hc : ∀ y ∈ ms, δ 24 y < 2 * nv) : pc (f_M_lookAtClock δ e) (LcF e δ (clK δ e ms)) := by
  have b161 : ∀ v, pc (f_M_lookAtClock_b161 δ e v) (LcF e δ (some v)) := fun v => by
    unfold f_M_lookAtClock_b161
    exact pc_c (fun _ => pc_a (pc_s rfl))
  unfold f_M_lookAtClock clK
  refine pc_c (fun _ => pc_a (pc_c (fun _ => pc_i (fun q1 => pc_c (fun _ => pc_i (fun q2 => pc_c (fun _ => pc_i (fun q3 => ?_) (fun q3 => ?_))) (fun q2 => ?_))) (fun q1 => ?_))))
  · rw [if_neg q1, if_neg q2, if_neg q3]
    exact L131_pc ms FU (-2) _ ch (by decide) n3
  · have q3 : δ 20 e = 25 := by omega
    rw [if_neg q1, if_neg q2, if_pos q3]
    match ms, ch, ar, hc with
    | [y], ch, ar, hc =>
      have e1 : δ 22 e = y := ch.1
      have hy := hc y List.mem_cons_self
      rw [e1]
      refine pc_c (fun _ => pc_i (fun q4 => ?_) (fun q4 => ?_))
      · rw [if_neg (by omega), idiv_2 q4 (by omega)]
        refine pc_c (fun _ => pc_c (fun _ => pc_b cOf_pc (fun r γ' e => ?_)))
        cases e
        exact b161 _
      · rw [if_pos (by omega)]
        exact pc_s rfl
    | [], ch, ar, hc => exact absurd (ar.2.2.2.2 (by omega)) (by simp)
    | _ :: _ :: _, ch, ar, hc => exact absurd (ar.2.2.2.2 (by omega)) (by simp)
  · have q2 : δ 20 e = 26 := by omega
    have w := wh.2.2.2 q2
    rw [if_neg q1, if_pos q2, idiv_2 w.1 (by omega)]
    refine pc_c (fun _ => pc_c (fun _ => pc_c (fun _ => pc_b cOf_pc (fun r γ' e => ?_))))
    cases e
    refine pc_bT (tog_pc (hv _ (by omega) (by omega))) (fun er γ' z => ?_) (fun r γ' z => ?_)
    · rcases z with ⟨z1, z2⟩ | ⟨_, r, z2⟩
      · cases z2
        rw [if_pos z1]
        rfl
      · cases z2
    · rcases z with ⟨z1, z2⟩ | ⟨z1, r, z2⟩
      · cases z2
      · cases z2
        rw [if_neg z1]
        exact pc_c (fun _ => pc_a (b161 _))
  · have q1 : δ 20 e = 2 := by omega
    rw [if_pos q1]
    refine pc_c (fun _ => pc_b cOf_pc (fun r γ' e => ?_))
    cases e
    exact b161 _
/-- the class's part gets its clock -/
def ckW (γ : St) (s e v : Int) : St := fun j k => if j = 41 ∧ k = e then v else ctS γ s v j k
theorem clkC_pc {γ : St} {c : Int} (h : 0 ≤ c ∧ c ≤ 2147483647) : pc (f_Ck_clockOfC γ c) (fun z => z = (γ 34 (γ 7 5 + c / 2), γ)) := by
  unfold f_Ck_clockOfC
  rw [ishr_1 (by omega)]
  exact pc_c (fun _ => pc_c (fun _ => pc_s rfl))
theorem ckClock_pc {γ δ : St} {nv nn e : Int} {ms : List Int} {n0 : Int} (c : CkC γ δ) (he : 0 ≤ e ∧ e < δ 0 40) (ch : Ch (δ 23) (δ 22 e) ms) (ar : aryK (δ 20 e) ms.length) (wh : whK nv nn (δ 20 e) (δ 21 e)) (hs : γ 40 e = ms.length) (ht : γ 7 4 = n0 + ms.length) (aa : Arr (γ 53) (δ 24) n0 ms) (hnv : nv = δ 0 19 - δ 4 (δ 0 18)) (hn : nv ≤ 99) (hc : ∀ y ∈ ms, δ 24 y < 2 * nv) (n3 : ∀ y ∈ ms, δ 24 y ≠ -3) (hv : ∀ a, 0 ≤ a → a < nv → δ 12 (δ 4 (δ 0 18) + a) ≠ -3) : pc (f_Ck_checkClock γ e) (fun z => Fck γ z.2 ∧ match clK δ e ms with | none => z.1 = 0 | some v => z = (1, ckW γ ms.length e v)) := by
  obtain ⟨p1, p2, qs, p3, p4⟩ := c.2.2.2.1.2 e he.1 he.2
  have g4 := c.2.1.2.2
  have k34 : ∀ a, 0 ≤ a → a < nv → γ 34 (δ 4 (δ 0 18) + a) = δ 12 (δ 4 (δ 0 18) + a) := fun a h1 h2 => (c.1 _ (by omega) (by omega)).1
  have cs := kd_c p1 wh.1.1
  have kind : ∀ k c, kdM c = k → (k = 2 → c = 2) ∧ (c = 2 → k = 2) ∧ (k = 26 → c = 27) ∧ (c = 27 → k = 26) ∧ (k = 25 → c = 36) ∧ (c = 36 → k = 25) := fun k c h => by
    refine ⟨fun r => ?_, fun r => ?_, fun r => ?_, fun r => ?_, fun r => ?_, fun r => ?_⟩
    · have t := kd_c h (by omega); omega
    · subst r; exact h.symm
    · have t := kd_c h (by omega); omega
    · subst r; exact h.symm
    · have t := kd_c h (by omega); omega
    · subst r; exact h.symm
  obtain ⟨x1, x2, x3, x4, x5, x6⟩ := kind _ _ p1
  clear cs kind
  unfold f_Ck_checkClock
  refine pc_c (fun _ => pc_a (pc_c (fun _ => pc_a (pc_c (fun _ => pc_a ?_)))))
  rw [hs]
  generalize hg : setA γ 7 4 (γ 7 4 - ms.length) = γ1
  have s0 : ∀ (j : Nat) (k : Int), j ≠ 7 ∨ k ≠ 4 → γ1 j k = γ j k := fun j k q => by rw [← hg, stA, if_neg (by omega)]
  have s4 : γ1 7 4 = n0 := by rw [← hg, stA, if_pos ⟨rfl, rfl⟩]; omega
  have f1 : Fck γ γ1 := fun j k a b c => s0 j k (by omega)
  have r53 : γ1 53 = γ 53 := funext fun k => s0 53 k (by omega)
  have b141 : ∀ v, pc (f_Ck_checkClock_b141 γ1 e v) (fun z => z = (1, ckW γ ms.length e v)) := fun v => by
    unfold f_Ck_checkClock_b141
    refine pc_c (fun _ => pc_a ?_)
    have e4 : setA γ1 41 e v 7 4 = n0 := by rw [stA, if_neg (by omega)]; exact s4
    rw [e4]
    refine pc_c (fun _ => pc_a ?_)
    have e5 : setA (setA γ1 41 e v) 53 n0 v 7 4 = n0 := by rw [stA, if_neg (by omega)]; exact e4
    rw [e5]
    refine pc_c (fun _ => pc_a (pc_s ?_))
    refine congrArg (Prod.mk 1) (funext fun j => funext fun k => ?_)
    rw [stA, stA, stA]
    unfold ckW ctS
    have e6 : γ 7 4 - (ms.length : Int) = n0 := by omega
    have e7 : γ 7 4 - ((ms.length : Int) - 1) = n0 + 1 := by omega
    rw [e6, e7]
    by_cases r : j = 7 ∧ k = 4
    · rw [if_pos r, if_neg (by omega), if_neg (by omega), if_pos r]
    · rw [if_neg r, if_neg r, s0 j k (by omega)]
      by_cases r2 : j = 53 ∧ k = n0
      · rw [if_pos r2, if_neg (by omega), if_pos r2]
      · rw [if_neg r2, if_neg r2]
  have fw : ∀ v, Fck γ (ckW γ ms.length e v) := fun v j k a b d => by
    show (if _ then _ else _) = _
    rw [if_neg (by omega)]
    exact ctS_o γ _ _ (by omega) (by omega)
  have good : ∀ v, clK δ e ms = some v → pc (f_Ck_checkClock_b141 γ1 e v) (fun z => Fck γ z.2 ∧ match clK δ e ms with | none => z.1 = 0 | some v => z = (1, ckW γ ms.length e v)) := fun v h => by
    rw [h]
    refine pc_m (b141 v) (fun z hz => ?_)
    rw [hz]
    exact ⟨fw v, rfl⟩
  have bad : clK δ e ms = none → pc (some ((0 : Int), γ1)) (fun z => Fck γ z.2 ∧ match clK δ e ms with | none => z.1 = 0 | some v => z = (1, ckW γ ms.length e v)) := fun h => by
    rw [h]
    exact pc_s ⟨f1, rfl⟩
  have h75 : γ1 7 5 = δ 4 (δ 0 18) := by rw [s0 7 5 (by omega)]; exact c.2.1.1
  have joined : pc (f_Ck_joined γ1 ms.length) (fun z => z = (jnL (δ 24) (-2) ms, γ1)) := by
    unfold f_Ck_joined
    refine joined_pc ms FU (-2) 0 ?_ (by omega)
    rw [r53, s4, show n0 + 0 = n0 by omega]
    exact aa
  by_cases k2 : δ 20 e = 2
  · rw [if_neg (show ¬ (γ 38 e ≠ 2) from fun r => r (x1 k2))]
    have w := wh.2.1 k2
    refine pc_c (fun _ => pc_c (fun _ => pc_c (fun _ => ?_)))
    rw [h75, s0 39 e (by omega), p2, s0 34 _ (by omega), k34 _ w.1 w.2]
    unfold f_Ck_checkClock_b65 f_Ck_checkClock_b120
    rw [if_pos (hv _ w.1 w.2), if_pos (show γ 38 e ≠ 27 from fun r => by have := x4 r; omega), if_pos (show γ 38 e ≠ 36 from fun r => by have := x6 r; omega)]
    exact good _ (by unfold clK; rw [if_pos k2])
  · rw [if_pos (show γ 38 e ≠ 2 from fun r => k2 (x2 r))]
    refine pc_b joined (fun r γ' e' => ?_)
    cases e'
    unfold f_Ck_checkClock_b65
    by_cases k26 : δ 20 e = 26
    · have w := wh.2.2.2 k26
      match ms, ch, ar, hc, n3, good, bad with
      | [y], ch, ar, hc, n3, good, bad =>
        have e1 : δ 22 e = y := ch.1
        have ej : jnL (δ 24) (-2) [y] = δ 24 y := by
          show jnS (-2) (δ 24 y) = δ 24 y
          unfold jnS
          rw [if_neg (by decide)]
        have ck : clK δ e [y] = if δ 24 y ≠ -2 ∧ δ 24 y ≠ δ 12 (δ 4 (δ 0 18) + δ 21 e / 2) then none else some (δ 21 e) := by
          unfold clK
          rw [if_neg k2, if_pos k26, e1]
        rw [ej, if_pos (n3 y List.mem_cons_self), if_neg (show ¬ (γ 38 e ≠ 27) from fun r => r (x3 k26))]
        have b109 : clK δ e [y] = some (δ 21 e) → pc (f_Ck_checkClock_b109 γ1 e (γ 38 e)) (fun z => Fck γ z.2 ∧ match clK δ e [y] with | none => z.1 = 0 | some v => z = (1, ckW γ ([y] : List Int).length e v)) := fun h => by
          unfold f_Ck_checkClock_b109 f_Ck_checkClock_b120
          refine pc_c (fun _ => pc_a ?_)
          rw [if_pos (show γ 38 e ≠ 36 from fun r => by have := x6 r; omega), s0 39 e (by omega), p2]
          exact good _ h
        refine pc_i (fun q => ?_) (fun q => pc_c (fun _ => ?_))
        · exact b109 (by rw [ck, if_neg (fun r => r.1 q)])
        · rw [s0 39 e (by omega), p2]
          refine pc_b (clkC_pc (by omega)) (fun r γ' e' => ?_)
          cases e'
          rw [h75, s0 34 _ (by omega), k34 _ (by omega) (by omega)]
          refine pc_i (fun q2 => ?_) (fun q2 => ?_)
          · exact b109 (by rw [ck, if_neg (fun r => r.2 q2)])
          · exact bad (by rw [ck, if_pos ⟨q, q2⟩])
      | [], ch, ar, hc, n3, good, bad => exact absurd (ar.2.2.2.2 (by omega)) (by simp)
      | _ :: _ :: _, ch, ar, hc, n3, good, bad => exact absurd (ar.2.2.2.2 (by omega)) (by simp)
    · by_cases k25 : δ 20 e = 25
      · match ms, ch, ar, hc, n3, good, bad with
        | [y], ch, ar, hc, n3, good, bad =>
          have e1 : δ 22 e = y := ch.1
          have hy := hc y List.mem_cons_self
          have ej : jnL (δ 24) (-2) [y] = δ 24 y := by
            show jnS (-2) (δ 24 y) = δ 24 y
            unfold jnS
            rw [if_neg (by decide)]
          have ck : clK δ e [y] = if δ 24 y < 0 then none else some (δ 12 (δ 4 (δ 0 18) + δ 24 y / 2)) := by
            unfold clK
            rw [if_neg k2, if_neg k26, if_pos k25, e1]
          rw [ej, if_pos (n3 y List.mem_cons_self), if_pos (show γ 38 e ≠ 27 from fun r => k26 (x4 r))]
          unfold f_Ck_checkClock_b120
          rw [if_neg (show ¬ (γ 38 e ≠ 36) from fun r => r (x5 k25))]
          refine pc_i (fun q => ?_) (fun q => ?_)
          · refine pc_b (clkC_pc (by omega)) (fun r γ' e' => ?_)
            cases e'
            rw [h75, s0 34 _ (by omega), k34 _ (by omega) (by omega)]
            exact good _ (by rw [ck, if_neg (by omega)])
          · exact bad (by rw [ck, if_pos (by omega)])
        | [], ch, ar, hc, n3, good, bad => exact absurd (ar.2.2.2.2 (by omega)) (by simp)
        | _ :: _ :: _, ch, ar, hc, n3, good, bad => exact absurd (ar.2.2.2.2 (by omega)) (by simp)
      · have ck : clK δ e ms = if jnL (δ 24) (-2) ms = -3 then none else some (jnL (δ 24) (-2) ms) := by
          unfold clK
          rw [if_neg k2, if_neg k26, if_neg k25]
        refine pc_i (fun q => ?_) (fun q => ?_)
        · rw [if_pos (show γ 38 e ≠ 27 from fun r => k26 (x4 r))]
          unfold f_Ck_checkClock_b120
          rw [if_pos (show γ 38 e ≠ 36 from fun r => k25 (x6 r))]
          exact good _ (by rw [ck, if_neg q])
        · exact bad (by rw [ck, if_pos (by omega)])
