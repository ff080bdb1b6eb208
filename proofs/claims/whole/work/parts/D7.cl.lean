/-! equality: the clocks of an equation, both sides -/
theorem jnL_agree {g g' : Int → Int} : ∀ {ks : List Int} {c : Int}, (∀ y ∈ ks, g' y = g y) → jnL g' c ks = jnL g c ks
  | [], _, _ => rfl
  | y :: t, c, h => by
    show jnL g' (jnS c (g' y)) t = jnL g (jnS c (g y)) t
    rw [h y List.mem_cons_self]
    exact jnL_agree (fun z hz => h z (List.mem_cons_of_mem _ hz))
theorem clK_fr {δ δ' : St} {e : Int} {ms : List Int} (h : ∀ (j : Nat) (k : Int), j ≠ 24 → (j = 0 → k ≠ 42) → j ≠ 28 → δ' j k = δ j k) (hk : ∀ y ∈ ms, δ' 24 y = δ 24 y) (ch : Ch (δ 23) (δ 22 e) ms) (ar : aryK (δ 20 e) ms.length) : clK δ' e ms = clK δ e ms := by
  have e20 := h 20 e (by omega) (by omega) (by omega)
  have e21 := h 21 e (by omega) (by omega) (by omega)
  have e22 := h 22 e (by omega) (by omega) (by omega)
  have e18 := h 0 18 (by omega) (by omega) (by omega)
  unfold clK
  rw [e20, e21, e22, e18, h 4 _ (by omega) (by omega) (by omega), h 12 _ (by omega) (by omega) (by omega), h 12 _ (by omega) (by omega) (by omega), jnL_agree hk]
  by_cases k2 : δ 20 e = 2
  · rw [if_pos k2, if_pos k2]
  · rw [if_neg k2, if_neg k2]
    by_cases k25 : 25 ≤ δ 20 e
    · have l1 := ar.2.2.2.2 (by omega)
      match ms, ch, hk, l1 with
      | [y], ch, hk, l1 =>
        have e1 : δ 22 e = y := ch.1
        have e2 := hk y List.mem_cons_self
        rw [e1, e2, h 12 _ (by omega) (by omega) (by omega)]
    · have q26 : ¬ δ 20 e = 26 := by omega
      have q25 : ¬ δ 20 e = 25 := by omega
      rw [if_neg q26, if_neg q25, if_neg q26, if_neg q25]
theorem ClG.fr {δ δ' : St} {lo hi nv nn : Int} (g : ClG δ lo hi nv nn) (h : ∀ (j : Nat) (k : Int), j ≠ 24 → (j = 0 → k ≠ 42) → j ≠ 28 → δ' j k = δ j k) (h24 : ∀ y, lo ≤ y → y ≤ hi → δ' 24 y = δ 24 y) : ClG δ' lo hi nv nn := fun e q1 q2 => by
  obtain ⟨ms, ch, sg, l, ar, wh, ck, b⟩ := g e q1 q2
  have mm := sg.mem
  have m24 : ∀ y ∈ ms, δ' 24 y = δ 24 y := fun y hy => h24 y (by have := mm y hy; omega) (by have := mm y hy; omega)
  have e26 := h 26 e (by omega) (by omega) (by omega)
  have e20 := h 20 e (by omega) (by omega) (by omega)
  refine ⟨ms, ?_, ?_, by rw [e26]; exact l, by rw [e20]; exact ar, by rw [e20, h 21 e (by omega) (by omega) (by omega)]; exact wh, ?_, fun y hy => by rw [m24 y hy]; exact b y hy⟩
  · rw [h 22 e (by omega) (by omega) (by omega)]
    exact ch.agree (fun y _ => h 23 y (by omega) (by omega) (by omega))
  · rw [e26]
    exact sg.agree (fun y _ => h 26 y (by omega) (by omega) (by omega))
  · rw [clK_fr h m24 ch ar, h24 e q1 q2]; exact ck
/-- while clocks are looked at -/
def CfL (γ0 δ0 : St) (a : Int) (γ δ : St) (e : Int) (ks : List Int) : Prop := TfR γ0 δ0 a γ δ ∧ SkR 24 γ δ (δ0 19 a) ks e ∧ (∀ y, δ0 19 a ≤ y → y < e → γ 41 y = δ 24 y ∧ CkV (δ0 0 19 - δ0 4 (δ0 0 18)) (δ 24 y)) ∧ (∀ k, k < δ0 19 a ∨ e ≤ k → γ 41 k = γ0 41 k) ∧ ClG δ (δ0 19 a) (e - 1) (δ0 0 19 - δ0 4 (δ0 0 18)) (δ0 0 18)
/-- an equation's clocks are settled -/
def FlR (γ δ : St) (a : Int) : Prop := ∃ F : Int → Int, (F (δ 17 a) = if δ 24 (δ 17 a) = -2 then δ 12 (δ 4 (δ 0 18) + δ 18 (δ 16 a)) else δ 24 (δ 17 a)) ∧ ∀ e, δ 19 a ≤ e → e ≤ δ 17 a → SeE γ δ F e
def CfR (γ0 δ0 : St) (a : Int) (γ δ : St) : Prop := TfR γ0 δ0 a γ δ ∧ (∀ k, k < δ0 19 a ∨ δ0 17 a < k → γ 41 k = γ0 41 k) ∧ FlR γ δ a ∧ ClG δ (δ0 19 a) (δ0 17 a) (δ0 0 19 - δ0 4 (δ0 0 18)) (δ0 0 18)
section CKF
variable {γ0 δ0 : St} {a nl : Int}
theorem pq_ckF (c0 : CkC γ0 δ0) (j0 : JI δ0 a) (hE : a < δ0 0 30) (hnl : nl = δ0 16 (a + 1) - δ0 16 a) (hl31 : δ0 16 (a + 1) ≤ δ0 0 31) (h40 : δ0 17 a < δ0 0 40) (hv : ∀ x, 0 ≤ x → x < δ0 0 19 - δ0 4 (δ0 0 18) → δ0 12 (δ0 4 (δ0 0 18) + x) ≠ -2) {γ δ : St} {ks : List Int} (h : CfL γ0 δ0 a γ δ (δ0 17 a + 1) ks) : pq (f_Ck_clocksFit_b46 γ a 1) (f_M_judge_b223 δ a (δ0 17 a) nl) (OuR (CfR γ0 δ0 a)) := by
  have ⟨t, st, h41, ho, cg⟩ := h
  have ⟨t1, t2, t3, t42⟩ := t
  have c := c0.fr t1 t2
  have d : ∀ (j : Nat) (k : Int), (j = 0 → k ≠ 42) → j ≠ 24 → j ≠ 28 → δ j k = δ0 j k := fun j k q1 q2 q3 => t2 j k q1 (by omega) q3
  have ⟨dc, _, _, er, h5, _, ⟨k1, k2⟩, _⟩ := j0
  obtain ⟨q1, q2, q3, q4, q5⟩ := c0.2.2.2.2.2.1 a k1 hE
  have f : ∀ (j : Nat) (k : Int), j ≠ 53 → j ≠ 41 → (j = 7 → k ≠ 4) → γ j k = γ0 j k := t1
  have e46 : γ 46 a = nl := by rw [f 46 a (by omega) (by omega) (by omega), q5, hnl]
  have e45 : γ 45 a = δ0 16 a := by rw [f 45 a (by omega) (by omega) (by omega), q4]
  have e75 : γ 7 5 = δ0 4 (δ0 0 18) := by rw [f 7 5 (by omega) (by omega) (by omega)]; exact c0.2.1.1
  have g4 := c0.2.1.2.2
  have p16 := er.2.1
  have n1 : 1 ≤ nl := by omega
  have e18 := d 0 18 (by omega) (by omega) (by omega)
  have p19 := er.2.2.2.1
  -- the clock of a left side
  have lf : ∀ i, 0 ≤ i → i < nl → (0 ≤ δ0 18 (δ0 16 a + i) ∧ δ0 18 (δ0 16 a + i) < δ0 0 19 - δ0 4 (δ0 0 18)) ∧ γ 34 (γ 7 5 + γ 47 (δ0 16 a + i)) = δ0 12 (δ0 4 (δ0 0 18) + δ0 18 (δ0 16 a + i)) := fun i r1 r2 => by
    have l := er.2.2.1 (δ0 16 a + i) (by omega) (by omega)
    have e47 : γ 47 (δ0 16 a + i) = δ0 18 (δ0 16 a + i) := by
      rw [f 47 _ (by omega) (by omega) (by omega)]
      exact c0.2.2.2.2.2.2 _ (by omega) (by omega)
    refine ⟨by omega, ?_⟩
    rw [e47, e75, f 34 _ (by omega) (by omega) (by omega)]
    exact (c0.1 _ (by omega) (by omega)).1
  generalize hL : (fun i : Int => δ0 12 (δ0 4 (δ0 0 18) + δ0 18 (δ0 16 a + i))) = L at *
  have hLi : ∀ i, δ0 12 (δ0 4 (δ0 0 18) + δ0 18 (δ0 16 a + i)) = L i := fun i => by rw [← hL]
  have L2 : ∀ i, 0 ≤ i → i < nl → L i ≠ -2 := fun i r1 r2 => by rw [← hLi]; exact hv _ (lf i r1 r2).1.1 (lf i r1 r2).1.2
  -- the root
  have k1' : ks = [δ0 17 a] := by
    refine st.1.uniq ⟨p19.2.1, ?_, rfl⟩
    rw [d 26 _ (by omega) (by omega) (by omega)]; exact p19.2.2
  subst k1'
  have s0 : γ 53 0 = δ 24 (δ0 17 a) := st.2.2.1
  have s4 : γ 7 4 = 1 := st.2.1
  -- the class
  have cls : pc (f_Ck_clocksFit_b46 γ a 1) (fun y => ((δ 24 (δ0 17 a) = -2 ∨ δ 24 (δ0 17 a) = L 0) ∧ ∀ j, 1 ≤ j → j < nl → L j = L 0) ∧ y.1 = 1 ∧ CfR γ0 δ0 a y.2 δ ∨ ¬ ((δ 24 (δ0 17 a) = -2 ∨ δ 24 (δ0 17 a) = L 0) ∧ ∀ j, 1 ≤ j → j < nl → L j = L 0) ∧ y = (0, faS γ 6 (γ 42 a))) := by
    unfold f_Ck_clocksFit_b46
    rw [e45]
    have l0 := (lf 0 (Int.le_refl _) (by omega)).2
    rw [hLi, show δ0 16 a + 0 = δ0 16 a by omega] at l0
    refine pc_c (fun _ => pc_a (pc_c (fun _ => pc_c (fun _ => pc_c (fun _ => pc_a ?_)))))
    rw [l0]
    have bad : ¬ ((δ 24 (δ0 17 a) = -2 ∨ δ 24 (δ0 17 a) = L 0) ∧ ∀ j, 1 ≤ j → j < nl → L j = L 0) → pc (f_Ck_clocksFit_b169 γ a) (fun y => ((δ 24 (δ0 17 a) = -2 ∨ δ 24 (δ0 17 a) = L 0) ∧ ∀ j, 1 ≤ j → j < nl → L j = L 0) ∧ y.1 = 1 ∧ CfR γ0 δ0 a y.2 δ ∨ ¬ ((δ 24 (δ0 17 a) = -2 ∨ δ 24 (δ0 17 a) = L 0) ∧ ∀ j, 1 ≤ j → j < nl → L j = L 0) ∧ y = (0, faS γ 6 (γ 42 a))) := fun hn => pc_m (cfail_pc c.2.1.2.1) (fun z hz => Or.inr ⟨hn, hz⟩)
    have good : ((δ 24 (δ0 17 a) = -2 ∨ δ 24 (δ0 17 a) = L 0) ∧ ∀ j, 1 ≤ j → j < nl → L j = L 0) → pc (f_Ck_clocksFit_b188 γ a (L 0)) (fun y => ((δ 24 (δ0 17 a) = -2 ∨ δ 24 (δ0 17 a) = L 0) ∧ ∀ j, 1 ≤ j → j < nl → L j = L 0) ∧ y.1 = 1 ∧ CfR γ0 δ0 a y.2 δ ∨ ¬ ((δ 24 (δ0 17 a) = -2 ∨ δ 24 (δ0 17 a) = L 0) ∧ ∀ j, 1 ≤ j → j < nl → L j = L 0) ∧ y = (0, faS γ 6 (γ 42 a))) := fun hy => by
      unfold f_Ck_clocksFit_b188
      refine pc_b (P := fun z => Fck γ z.2 ∧ (∀ k, k < δ0 19 a ∨ δ0 17 a < k → z.2 41 k = γ 41 k) ∧ ∃ F, F (δ0 17 a) = L 0 ∧ ∀ e, δ0 19 a ≤ e → e ≤ δ0 17 a → SeE z.2 δ F e) ?_ (fun r γ' e => ?_)
      · unfold f_Ck_settle
        refine pc_a ?_
        have u4 : setA γ 7 4 0 7 4 = 0 := by rw [stA, if_pos ⟨rfl, rfl⟩]
        rw [u4]
        refine pc_c (fun _ => pc_a ?_)
        have u5 : setA (setA γ 7 4 0) 53 0 (L 0) 7 4 = 0 := by rw [stA, if_neg (by omega)]; exact u4
        rw [u5]
        refine pc_c (fun _ => pc_a ?_)
        generalize hg : setA (setA (setA γ 7 4 0) 53 0 (L 0)) 7 4 (0 + 1) = γ1
        have s : ∀ j k, γ1 j k = if j = 7 ∧ k = 4 then 1 else if j = 53 ∧ k = 0 then L 0 else γ j k := fun j k => by
          rw [← hg, stA, stA, stA]
          by_cases r : j = 7 ∧ k = 4
          · rw [if_pos r, if_pos r]; rfl
          · rw [if_neg r, if_neg r, if_neg r]
        have so : ∀ (j : Nat) (k : Int), (j ≠ 7 ∨ k ≠ 4) → j ≠ 53 → γ1 j k = γ j k := fun j k r1 r2 => by rw [s, if_neg (by omega), if_neg (by omega)]
        have e44 : γ1 44 a = δ0 17 a + 1 := by rw [so 44 a (by omega) (by omega), f 44 a (by omega) (by omega) (by omega), q3]
        rw [e44, show δ0 17 a + 1 - 1 = δ0 17 a by omega]
        refine pc_c (fun _ => pc_c (fun _ => pc_a ?_))
        have fc1 : Fck γ γ1 := fun j k r1 r2 r3 => so j k (by omega) r1
        have cg' : ClG δ (δ0 19 a) (δ0 17 a) (δ0 0 19 - δ0 4 (δ0 0 18)) (δ0 0 18) := by
          rw [show δ0 17 a + 1 - 1 = δ0 17 a by omega] at cg
          exact cg
        refine pc_settle (γ0 := γ) c (nv := δ0 0 19 - δ0 4 (δ0 0 18)) (by rw [d 0 19 (by omega) (by omega) (by omega), e18, d 4 _ (by omega) (by omega) (by omega)]) (by have := dc.2.2.2.1; omega) (by rw [f 43 a (by omega) (by omega) (by omega), q2]) (by rw [d 0 40 (by omega) (by omega) (by omega)]; exact h40) p19.1 cg' FU γ1 (δ0 17 a) [δ0 17 a] (fun _ => L 0) fc1 (Int.le_refl _) (by omega) ⟨st.1, ?_, ?_⟩ (fun y r1 r2 => ?_) (fun x hx => ?_) (fun k r => ?_) (fun e r1 r2 => by exfalso; omega) rfl (fun _ => rfl)
        · rw [s, if_pos ⟨rfl, rfl⟩]; rfl
        · refine ⟨?_, trivial⟩
          rw [s, if_neg (by omega), if_pos ⟨rfl, rfl⟩]
        · rw [so 41 y (by omega) (by omega)]
          exact (h41 y r1 (by omega)).1
        · have ex : x = δ0 17 a := by simpa using hx
          rw [ex]
          rcases hy.1 with r | r
          · exact Or.inl r
          · exact Or.inr r.symm
        · rw [so 41 k (by omega) (by omega)]
      · obtain ⟨e1, e2, F, e3, e4⟩ := e
        refine pc_s (Or.inl ⟨hy, rfl, ⟨t1.tr e1, t2, t3, t42⟩, fun k r => ?_, ⟨F, ?_, fun e r1 r2 => ?_⟩, ?_⟩)
        · rw [e2 k r]
          exact ho k (by omega)
        · rw [d 17 a (by omega) (by omega) (by omega), e3, e18, d 4 _ (by omega) (by omega) (by omega), d 16 a (by omega) (by omega) (by omega), d 18 _ (by omega) (by omega) (by omega), d 12 _ (by omega) (by omega) (by omega)]
          have hl0 := hLi 0
          rw [show δ0 16 a + 0 = δ0 16 a by omega] at hl0
          rw [hl0]
          rcases hy.1 with r | r
          · rw [if_pos r]
          · by_cases r2 : δ 24 (δ0 17 a) = -2
            · rw [if_pos r2]
            · rw [if_neg r2, r]
        · rw [d 19 a (by omega) (by omega) (by omega)] at r1
          rw [d 17 a (by omega) (by omega) (by omega)] at r2
          exact e4 e r1 r2
        · rw [show δ0 17 a + 1 - 1 = δ0 17 a by omega] at cg
          exact cg
    refine L83_pc (L := L) e46 (fun i r1 r2 => by rw [(lf i (by omega) r2).2, hLi]) FU 1 1 (Int.le_refl _) (fun hh g' hg' => ?_) (fun hh => ?_)
    · unfold f_Ck_clocksFit_b143
      rw [if_neg hg', s0]
      refine pc_c (fun _ => pc_i (fun r => good ⟨Or.inl r, hh.2⟩) (fun r => pc_c (fun _ => pc_i (fun r2 => good ⟨Or.inr r2, hh.2⟩) (fun r2 => bad (fun w => ?_)))))
      rcases w.1 with w | w
      · exact r w
      · exact r2 w
    · unfold f_Ck_clocksFit_b143
      rw [if_pos rfl]
      exact bad (fun w => hh ⟨by decide, w.2⟩)
  -- the reference
  have rf : pc (f_M_judge_b223 δ a (δ0 17 a) nl) (fun z => ((δ 24 (δ0 17 a) = -2 ∨ δ 24 (δ0 17 a) = L 0) ∧ ∀ j, 1 ≤ j → j < nl → L j = L 0) ∧ z = (.inr 0, δ) ∨ ¬ ((δ 24 (δ0 17 a) = -2 ∨ δ 24 (δ0 17 a) = L 0) ∧ ∀ j, 1 ≤ j → j < nl → L j = L 0) ∧ z.1 = .inl (6, δ 0 42)) := by
    have hLd : ∀ i, 0 ≤ i → i < nl → δ 12 (δ 4 (δ 0 18) + δ 18 (δ 16 a + i)) = L i := fun i _ _ => by
      rw [e18, d 4 _ (by omega) (by omega) (by omega), d 16 a (by omega) (by omega) (by omega), d 18 _ (by omega) (by omega) (by omega), d 12 _ (by omega) (by omega) (by omega)]
      exact hLi i
    unfold f_M_judge_b223
    refine pc_c (fun _ => pc_a ?_)
    show pc (f_M_judge_L234 (999999 + 1) δ a nl (δ 24 (δ0 17 a)) 0) _
    unfold f_M_judge_L234
    rw [if_neg (by omega)]
    refine pc_c (fun _ => pc_c (fun _ => pc_c (fun _ => pc_b cOf_pc (fun r γ' e => ?_))))
    cases e
    rw [hLd 0 (Int.le_refl _) (by omega)]
    refine pc_bT (tog_v (L2 0 (Int.le_refl _) (by omega))) (fun er γ' z => ?_) (fun r γ' z => ?_)
    · rcases z with ⟨z1, z2⟩ | ⟨_, z2⟩
      · cases z2
        refine Or.inr ⟨fun w => ?_, rfl⟩
        rcases w.1 with w | w
        · exact z1.1 w
        · exact z1.2 w
      · cases z2
    · rcases z with ⟨_, z2⟩ | ⟨z1, z2⟩
      · cases z2
      · cases z2
        refine pc_c (fun _ => pc_m (L234_pc hLd L2 999999 (L 0) (0 + 1) (by omega) (L2 0 (Int.le_refl _) (by omega))) (fun z hz => ?_))
        have w1 : δ 24 (δ0 17 a) = -2 ∨ δ 24 (δ0 17 a) = L 0 := by
          by_cases r : δ 24 (δ0 17 a) = -2
          · exact Or.inl r
          · by_cases r2 : δ 24 (δ0 17 a) = L 0
            · exact Or.inr r2
            · exact absurd ⟨r, r2⟩ z1
        rcases hz with ⟨y1, y2⟩ | ⟨y1, y2⟩
        · exact Or.inl ⟨⟨w1, fun j r1 r2 => y1 j (by omega) r2⟩, y2⟩
        · exact Or.inr ⟨fun w => y1 (fun j r1 r2 => w.2 j (by omega) r2), y2⟩
  refine pq_pp cls rf (fun y z hy hz => ?_)
  rcases hy with ⟨y1, y2, y3⟩ | ⟨y1, y2⟩
  · rcases hz with ⟨_, z2⟩ | ⟨z1, _⟩
    · rw [z2]
      exact Or.inr ⟨⟨0, rfl⟩, y2, y3⟩
    · exact absurd y1 z1
  · rcases hz with ⟨z1, _⟩ | ⟨_, z2⟩
    · exact absurd z1 y1
    · rw [y2]
      refine Or.inl ⟨6, δ 0 42, z2, rfl, faS_7 γ 6 (γ 42 a), ?_, by decide⟩
      show faS γ 6 (γ 42 a) 1 8 = _
      rw [faS_8, t42, f 42 a (by omega) (by omega) (by omega), q1]
theorem b46_no {γ : St} (h7 : γ 1 7 = 0) : pc (f_Ck_clocksFit_b46 γ a 0) (fun z => z = (0, faS γ 6 (γ 42 a))) := by
  unfold f_Ck_clocksFit_b46
  refine pc_c (fun _ => pc_a (pc_c (fun _ => pc_c (fun _ => pc_c (fun _ => pc_a ?_)))))
  refine L83_pc (L := fun i => γ 34 (γ 7 5 + γ 47 (γ 45 a + i))) rfl (fun i _ _ => rfl) FU 0 1 (Int.le_refl _) (fun hh => absurd rfl hh.1) (fun _ => ?_)
  unfold f_Ck_clocksFit_b143
  rw [if_pos rfl]
  exact cfail_pc h7
theorem pq_ckL (c0 : CkC γ0 δ0) (j0 : JI δ0 a) (hE : a < δ0 0 30) (hnl : nl = δ0 16 (a + 1) - δ0 16 a) (hl31 : δ0 16 (a + 1) ≤ δ0 0 31) (h40 : δ0 17 a < δ0 0 40) (hv : ∀ x, 0 ≤ x → x < δ0 0 19 - δ0 4 (δ0 0 18) → -1 ≤ δ0 12 (δ0 4 (δ0 0 18) + x)) : ∀ (n n2 : Nat) (γ δ : St) (e : Int) (ks : List Int), CfL γ0 δ0 a γ δ e ks → δ0 19 a ≤ e → e ≤ δ0 17 a + 1 → pq (f_Ck_clocksFit_L17 f_Ck_clocksFit_b46 n γ a 1 e) (f_M_judge_L205 f_M_judge_b223 n2 δ a (δ0 17 a) nl e) (OuR (CfR γ0 δ0 a)) := by
  intro n
  induction n with
  | zero => intro n2 γ δ e ks _ _ _; exact pq_nl
  | succ n ih =>
    intro n2 γ δ e ks h h1 h2
    cases n2 with
    | zero => exact pq_nr
    | succ n2 =>
      have ⟨t, st, h41, ho, cg⟩ := h
      have ⟨t1, t2, t3, t42⟩ := t
      have c := c0.fr t1 t2
      have d : ∀ (j : Nat) (k : Int), (j = 0 → k ≠ 42) → j ≠ 24 → j ≠ 28 → δ j k = δ0 j k := fun j k q1 q2 q3 => t2 j k q1 (by omega) q3
      have ⟨dc, _, _, er, h5, l65, ⟨k1, k2⟩, _⟩ := j0
      obtain ⟨q1, q2, q3, q4, q5⟩ := c0.2.2.2.2.2.1 a k1 hE
      have f : ∀ (j : Nat) (k : Int), j ≠ 53 → j ≠ 41 → (j = 7 → k ≠ 4) → γ j k = γ0 j k := t1
      have e18 := d 0 18 (by omega) (by omega) (by omega)
      have e19 := d 0 19 (by omega) (by omega) (by omega)
      have e4 : δ 4 (δ 0 18) = δ0 4 (δ0 0 18) := by rw [e18, d 4 _ (by omega) (by omega) (by omega)]
      unfold f_Ck_clocksFit_L17 f_M_judge_L205
      rw [if_neg (show ¬ (1 : Int) = 0 by decide)]
      refine pq_cl (fun _ => ?_)
      rw [f 44 a (by omega) (by omega) (by omega), q3]
      by_cases q : e = δ0 17 a + 1
      · subst q
        rw [if_pos (Int.le_refl _), if_pos (show δ0 17 a < δ0 17 a + 1 by omega)]
        exact pq_ckF c0 j0 hE hnl hl31 h40 (fun x r1 r2 r3 => by have := hv x r1 r2; omega) h
      · rw [if_neg (show ¬ δ0 17 a + 1 ≤ e by omega), if_neg (show ¬ δ0 17 a < e by omega)]
        have g0 := er.2.2.2.2.1 e h1 (by omega)
        have p19 := er.2.2.2.1
        have gd : Gn (δ0 0 19 - δ0 4 (δ0 0 18)) (δ0 0 18) δ (δ0 19 a) e := g0.fr (Int.le_refl _) (fun k _ _ => d 23 k (by omega) (by omega) (by omega)) (fun j r1 r2 r3 r4 r5 k _ _ => d j k (by omega) (by omega) (by omega))
        have gd2 := gd
        obtain ⟨ms, ch, sg, hlo, ar, wh, _, _⟩ := gd
        obtain ⟨ks', ek, sk'⟩ := Sg.split _ rfl st.1 sg hlo
        have he : 0 ≤ e ∧ e < δ 0 40 := by rw [d 0 40 (by omega) (by omega) (by omega)]; omega
        obtain ⟨p1, p2, qs, p3, p4⟩ := c.2.2.2.1.2 e he.1 he.2
        have eq : qs = ms := p3.uniq sg
        subst eq
        have st2 := st.2.1
        have ar2 := st.2.2
        rw [ek] at st2 ar2
        have ar3 := Arr.app.1 ar2
        rw [List.length_append] at st2
        rw [show (0 : Int) + (ks'.length : Int) = ks'.length by omega] at ar3
        have mm := sg.mem
        have hk : ∀ y ∈ qs, CkV (δ0 0 19 - δ0 4 (δ0 0 18)) (δ 24 y) := fun y hy => (h41 y (by have := mm y hy; omega) (by have := mm y hy; omega)).2
        have dd4 := dc.2.2.2.1
        have n3 : ∀ y ∈ qs, δ 24 y ≠ -3 := fun y hy => by have := hk y hy; unfold CkV at this; omega
        have hc : ∀ y ∈ qs, δ 24 y < 2 * (δ0 0 19 - δ0 4 (δ0 0 18)) := fun y hy => by have := hk y hy; unfold CkV at this; omega
        have hv12 : ∀ x, 0 ≤ x → x < δ0 0 19 - δ0 4 (δ0 0 18) → -1 ≤ δ 12 (δ 4 (δ 0 18) + x) := fun x r1 r2 => by rw [e4, d 12 _ (by omega) (by omega) (by omega)]; exact hv x r1 r2
        have cls := ckClock_pc (n0 := ks'.length) c he ch ar wh p4.symm (by rw [st2]; omega) ar3.2 (by rw [e19, e4]) (by omega) hc n3 (fun x r1 r2 r3 => by have := hv12 x r1 r2; omega)
        have rf := lookC_pc (lo := 0) ch ar wh n3 (fun x r1 r2 r3 => by have := hv12 x r1 r2; omega) (by omega) hc
        have dcd : DcI δ := dc.fk t2
        have wl : pc (f_M_lookAtClock δ e) (LcR (δ0 0 19 - δ0 4 (δ0 0 18)) e δ) := by
          have w := w_lookAtClock (e := e) (lo := δ0 19 a) (nn := δ0 0 18) dcd p19.1 (by omega) (by rw [e19, e4]; exact gd2) (fun y r1 r2 => by rw [e19, e4]; exact (h41 y r1 r2).2)
          rw [e19, e4] at w
          exact w.pc
        refine pq_bb (R := fun y z => Fck γ y.2 ∧ (y.1 = 0 ∧ z.1 = .inl (6, δ 0 42) ∨ ∃ v, CkV (δ0 0 19 - δ0 4 (δ0 0 18)) v ∧ clK δ e qs = some v ∧ y = (1, ckW γ qs.length e v) ∧ z = (.inr 0, setA δ 24 e v))) ?_ (fun r γ' er' δ' hh => ?_) (fun r γ' x δ' hh => ?_)
        · refine pq_pp cls (fun z ez => ⟨rf z ez, wl z ez⟩ : pc _ (fun z => LcF e δ (clK δ e qs) z ∧ LcR (δ0 0 19 - δ0 4 (δ0 0 18)) e δ z)) (fun y z hy hz => ?_)
          refine ⟨hy.1, ?_⟩
          match hcl : clK δ e qs, hy.2, hz.1 with
          | none, y2, z1 => exact Or.inl ⟨y2, z1⟩
          | some v, y2, z1 =>
            have z1 : z = (.inr 0, setA δ 24 e v) := z1
            refine Or.inr ⟨v, ?_, rfl, y2, z1⟩
            rcases hz.2 with z3 | ⟨w, z3, z4⟩
            · rw [z1] at z3; cases z3
            · rw [z1] at z4
              have e5 : setA δ 24 e v = setA δ 24 e w := (congrArg Prod.snd z4)
              have e6 := congrFun (congrFun e5 24) e
              rw [stA, stA, if_pos ⟨rfl, rfl⟩, if_pos ⟨rfl, rfl⟩] at e6
              rw [e6]; exact z3
        · rcases hh.2 with ⟨y1, z1⟩ | ⟨v, _, _, _, z1⟩
          · have z1 : (Sum.inl er' : (Int × Int) ⊕ Int) = .inl (6, δ 0 42) := z1
            cases z1
            have y1 : r = 0 := y1
            subst y1
            refine pq_cl (fun _ => ?_)
            cases n with
            | zero => exact pq_nl
            | succ n =>
              unfold f_Ck_clocksFit_L17
              rw [if_pos rfl]
              have hf : Fck γ γ' := hh.1
              have c7 : γ' 1 7 = 0 := by rw [hf 1 7 (by omega) (by omega) (by omega)]; exact c.2.1.2.1
              refine pq_pp (b46_no c7) (pc_s (P := fun z => z = (.inl (6, δ 0 42), δ')) rfl) (fun y z hy hz => ?_)
              subst hy; subst hz
              refine OuR.no (faS_7 _ _ _) ?_ (by decide)
              rw [faS_8, t42, hf 42 a (by omega) (by omega) (by omega), f 42 a (by omega) (by omega) (by omega), q1]
          · cases z1
        · rcases hh.2 with ⟨y1, z1⟩ | ⟨v, cv, hcl, y1, z1⟩
          · cases z1
          · cases z1
            cases y1
            refine pq_cl (fun _ => pq_cr (fun _ => ih n2 _ _ (e + 1) (ks' ++ [e]) ?_ (by omega) (by omega)))
            have s0 : ∀ (j : Nat) (k : Int), j ≠ 24 ∨ k ≠ e → setA δ 24 e v j k = δ j k := fun j k r => by rw [stA, if_neg (by omega)]
            have s24 : setA δ 24 e v 24 e = v := by rw [stA, if_pos ⟨rfl, rfl⟩]
            have w41 : ∀ k, ckW γ qs.length e v 41 k = if k = e then v else γ 41 k := fun k => by
              show (if _ then _ else _) = _
              by_cases r : k = e
              · rw [if_pos ⟨rfl, r⟩, if_pos r]
              · rw [if_neg (fun r2 => r r2.2), if_neg r]
                exact ctS_o γ _ _ (by omega) (by omega)
            have w53 : ∀ k, ckW γ qs.length e v 53 k = ctS γ qs.length v 53 k := fun k => by
              show (if _ then _ else _) = _
              rw [if_neg (by omega)]
            have w74 : ckW γ qs.length e v 7 4 = ks'.length + 1 := by
              show (if _ then _ else _) = _
              rw [if_neg (by omega), ctS_4, st2]; omega
            have i0 : γ 7 4 - (qs.length : Int) = ks'.length := by rw [st2]; omega
            have le := sg.le
            refine ⟨⟨t1.tr hh.1, fun j k r1 r2 r3 => by rw [s0 j k (by omega)]; exact t2 j k r1 r2 r3, fun w => by rw [s0 28 w (by omega)]; exact t3 w, by rw [s0 0 42 (by omega)]; exact t42⟩, ⟨?_, ?_, ?_⟩, fun y r1 r2 => ?_, fun k r => ?_, ?_⟩
            · have r26 : setA δ 24 e v 26 = δ 26 := funext fun k => s0 26 k (by omega)
              rw [r26]
              exact sk'.app ⟨by omega, by omega, rfl⟩
            · rw [w74]; simp
            · refine Arr.app.2 ⟨ar3.1.agree (fun k r1 r2 => ?_) (fun y hy => ?_), ?_, trivial⟩
              · rw [w53, ctS_o γ _ _ (by omega) (by omega)]
              · have := sk'.mem y hy
                exact s0 24 y (by omega)
              · rw [show (0 : Int) + (ks'.length : Int) = ks'.length by omega, s24, w53, ← i0, ctS_v]
            · rw [w41]
              by_cases r : y = e
              · rw [if_pos r, r, s24]; exact ⟨rfl, cv⟩
              · rw [if_neg r, s0 24 y (by omega)]; exact h41 y r1 (by omega)
            · rw [w41, if_neg (by omega)]
              exact ho k (by omega)
            · rw [show e + 1 - 1 = e by omega]
              have hfr : ∀ (j : Nat) (k : Int), j ≠ 24 → (j = 0 → k ≠ 42) → j ≠ 28 → setA δ 24 e v j k = δ j k := fun j k r _ _ => s0 j k (by omega)
              have old : ClG (setA δ 24 e v) (δ0 19 a) (e - 1) (δ0 0 19 - δ0 4 (δ0 0 18)) (δ0 0 18) := cg.fr hfr (fun y r1 r2 => s0 24 y (by omega))
              intro y r1 r2
              by_cases r : y = e
              · subst r
                have m24 : ∀ z ∈ qs, setA δ 24 y v 24 z = δ 24 z := fun z hz => s0 24 z (by have := mm z hz; omega)
                refine ⟨qs, ?_, ?_, by rw [s0 26 y (by omega)]; exact hlo, by rw [s0 20 y (by omega)]; exact ar, by rw [s0 20 y (by omega), s0 21 y (by omega)]; exact wh, ?_, fun z hz => by rw [m24 z hz]; exact ⟨n3 z hz, hc z hz⟩⟩
                · rw [s0 22 y (by omega)]
                  exact ch.agree (fun z _ => s0 23 z (by omega))
                · rw [s0 26 y (by omega)]
                  exact sg.agree (fun z _ => s0 26 z (by omega))
                · rw [clK_fr hfr m24 ch ar, s24]; exact hcl
              · exact old y r1 (by omega)
theorem pq_clocks (c0 : CkC γ0 δ0) (j0 : JI δ0 a) (hE : a < δ0 0 30) (hnl : nl = δ0 16 (a + 1) - δ0 16 a) (hl31 : δ0 16 (a + 1) ≤ δ0 0 31) (h40 : δ0 17 a < δ0 0 40) (hv : ∀ x, 0 ≤ x → x < δ0 0 19 - δ0 4 (δ0 0 18) → -1 ≤ δ0 12 (δ0 4 (δ0 0 18) + x)) {γ δ : St} (t : TfR γ0 δ0 a γ δ) (h41 : ∀ k, γ 41 k = γ0 41 k) : pq (f_Ck_clocksFit γ a) (f_M_judge_b197 δ a (δ0 17 a) nl) (OuR (CfR γ0 δ0 a)) := by
  obtain ⟨q1, q2, q3, q4, q5⟩ := c0.2.2.2.2.2.1 a j0.2.2.2.2.2.2.1.1 hE
  have er := j0.2.2.2.1
  have ⟨t1, t2, t3, t42⟩ := t
  unfold f_Ck_clocksFit f_M_judge_b197
  refine pq_al ?_
  have s0 : ∀ (j : Nat) (k : Int), j ≠ 7 ∨ k ≠ 4 → setA γ 7 4 0 j k = γ j k := fun j k r => by rw [stA, if_neg (by omega)]
  rw [s0 43 a (by omega), t1 43 a (by omega) (by omega) (by omega), q2, t2 19 a (by omega) (by omega) (by omega)]
  refine pq_cl (fun _ => pq_al (pq_cr (fun _ => pq_ar ?_)))
  refine pq_ckL c0 j0 hE hnl hl31 h40 hv FU FU _ δ (δ0 19 a) [] ⟨⟨t1.tr (fun j k r1 r2 r3 => s0 j k (by omega)), t2, t3, t42⟩, ⟨rfl, ?_, trivial⟩, fun y r1 r2 => by exfalso; omega, fun k _ => by rw [s0 41 k (by omega)]; exact h41 k, fun e r1 r2 => by exfalso; omega⟩ (Int.le_refl _) (by have := er.2.2.2.1.2.1; omega)
  rw [stA, if_pos ⟨rfl, rfl⟩]; rfl
end CKF
