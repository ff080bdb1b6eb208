/-! equality: the types of an equation -/
def xj (γ : St) (_ _ _ : Int) : Option Res := x0 γ
theorem L99_s {x : St → Int → Int → Int → Option Res} {a b c m : Int} : ∀ (n : Nat) (γ : St) (i : Int), f_M_judge_L99 x n γ a b c m i = bndT (f_M_judge_L99 xj n γ a b c m i) (fun _ γ' => x γ' a b c) := by
  intro n
  induction n with
  | zero => intro γ i; rfl
  | succ n ih =>
    intro γ i
    unfold f_M_judge_L99 f_M_judge_b180 f_M_judge_b188 xj
    simp only [bT_I, bT_C, bT_T, bT_x0, ih]
    rfl
def jdL (γ : St) (a b c m : Int) : Option Res := f_M_judge_L99 xj FU γ a b c m 0
theorem L62_s {x : St → Int → Int → Int → Option Res} {a b c m : Int} : ∀ (n : Nat) (γ : St) (i : Int), f_M_judge_L62 (fun γ a b c m => f_M_judge_L99 x FU γ a b c m 0) n γ a b c m i = bndT (f_M_judge_L62 jdL n γ a b c m i) (fun _ γ' => x γ' a b c) := by
  intro n
  induction n with
  | zero => intro γ i; rfl
  | succ n ih =>
    intro γ i
    unfold f_M_judge_L62 f_M_judge_b86 f_M_judge_b87
    simp only [bT_I, bT_C, bT_T, ih]
    unfold jdL
    rw [L99_s (x := x)]
/-- the judge's types -/
def jdT (γ158 : St) (a b c m : Int) : Option Res := f_M_judge_L62 jdL FU γ158 a b c m (γ158 19 a)
def jdR (γ158 : St) (a b c m : Int) : Option Res := chk (inb a 17000) (bndT (jdT γ158 a b c m) (fun _ γ' => f_M_judge_b197 γ' a b c))
theorem judge_s (γ : St) (a0 : Int) : f_M_judge γ a0 = chk (inb a0 17000) (ap (setA γ 0 42 (γ 15 a0)) fun γ158 =>
  chk (inb a0 17000) (ap (γ158 17 a0) fun x161 =>
  chk (i32 (a0 + 1)) (chk (inb (a0 + 1) 17001) (chk (inb a0 17001) (chk (i32 ((γ158 16 (a0 + 1)) - (γ158 16 a0))) (ap ((γ158 16 (a0 + 1)) - (γ158 16 a0)) fun x168 =>
  chk (inb (γ158 0 42) 65536) (if (γ158 1 (γ158 0 42)) ≠ 40 then jdR γ158 a0 x161 x168 0 else jdR γ158 a0 x161 x168 1))))))) := by
  have b : ∀ (γ : St) (a b c m : Int), f_M_judge_b52 γ a b c m = jdR γ a b c m := fun γ a b c m => by
    unfold f_M_judge_b52 jdR jdT
    have e : f_M_judge_b96 = fun γ a b c m => f_M_judge_L99 f_M_judge_b197 FU γ a b c m 0 := rfl
    rw [e]
    simp only [ap, L62_s (x := f_M_judge_b197)]
  unfold f_M_judge
  simp only [b]
theorem fault_pc {γ : St} {a k : Int} (h7 : γ 1 7 = 0) (hk : k ≠ 0) : pc (f_Ck_typesFit_b72 γ a k) (fun z => z = (0, faS γ k (γ 42 a))) := by
  unfold f_Ck_typesFit_b72
  show pc (f_Ck_typesFit_L75 f_Ck_typesFit_b161 (999999 + 1) γ a k 0) _
  unfold f_Ck_typesFit_L75 f_Ck_typesFit_b161
  rw [if_pos hk, if_neg hk]
  refine pc_c (fun _ => pc_b (failAt_pc h7) (fun r γ' e => ?_))
  cases e
  rw [if_pos rfl]
  exact pc_s rfl
theorem faS_7 (γ : St) (k p : Int) : faS γ k p 1 7 = k := by unfold faS; rw [stA, if_neg (by omega), stA, if_pos ⟨rfl, rfl⟩]
theorem faS_8 (γ : St) (k p : Int) : faS γ k p 1 8 = p := by unfold faS; rw [stA, if_pos ⟨rfl, rfl⟩]
def TfR (γ0 δ0 : St) (a : Int) (γ δ : St) : Prop := Fck γ0 γ ∧ Fk (δ0 19 a) (δ0 17 a) δ0 δ ∧ (∀ v, δ 28 v = 0 ∨ δ 28 v = 1) ∧ δ 0 42 = δ0 15 a
section TYF
variable {γ0 δ0 : St} {a nl m : Int}
/-- the left sides' types -/
theorem pq_tyF (c0 : CkC γ0 δ0) (j0 : JI δ0 a) (hE : a < δ0 0 30) (hnl : nl = δ0 16 (a + 1) - δ0 16 a) (hl31 : δ0 16 (a + 1) ≤ δ0 0 31) : ∀ (n n2 : Nat) (γ δ : St) (i : Int), TfR γ0 δ0 a γ δ → 0 ≤ i → γ 7 4 = nl → (∀ j, 0 ≤ j → j < nl → γ 53 j = if m = 0 then δ 28 (δ0 17 a) else δ0 14 (δ0 4 (δ0 21 (δ0 17 a)) + δ0 5 (δ0 21 (δ0 17 a)) + j)) → pq (f_Ck_typesFit_L75 f_Ck_typesFit_b161 n γ a 0 i) (f_M_judge_L99 xj n2 δ a (δ0 17 a) nl m i) (OuR (TfR γ0 δ0 a)) := by
  intro n
  induction n with
  | zero => intro n2 γ δ i _ _ _ _; exact pq_nl
  | succ n ih =>
    intro n2 γ δ i t h0 h4 h53
    cases n2 with
    | zero => exact pq_nr
    | succ n2 =>
      have ⟨t1, t2, t3, t42⟩ := t
      have c := c0.fr t1 t2
      have d : ∀ (j : Nat) (k : Int), (j = 0 → k ≠ 42) → j ≠ 24 → j ≠ 28 → δ j k = δ0 j k := fun j k q1 q2 q3 => t2 j k q1 (by omega) q3
      have ⟨_, _, _, er, h5, _, ⟨k1, k2⟩, _⟩ := j0
      obtain ⟨q1, q2, q3, q4, q5⟩ := c0.2.2.2.2.2.1 a k1 hE
      have f : ∀ (j : Nat) (k : Int), j ≠ 53 → j ≠ 41 → (j = 7 → k ≠ 4) → γ j k = γ0 j k := t1
      have e46 : γ 46 a = nl := by rw [f 46 a (by omega) (by omega) (by omega), q5, hnl]
      have e45 : γ 45 a = δ0 16 a := by rw [f 45 a (by omega) (by omega) (by omega), q4]
      unfold f_Ck_typesFit_L75 f_M_judge_L99
      rw [if_neg (show ¬ ((0 : Int) ≠ 0) by decide)]
      refine pq_cl (fun _ => ?_)
      rw [e46]
      by_cases q : nl ≤ i
      · rw [if_pos q, if_pos q]
        unfold f_Ck_typesFit_b161 xj x0
        rw [if_pos rfl]
        exact pq_some (OuR.ok t)
      · rw [if_neg q, if_neg q, e45]
        have e18 := d 0 18 (by omega) (by omega) (by omega)
        have e16 := d 16 a (by omega) (by omega) (by omega)
        have lf := er.2.2.1 (δ0 16 a + i) (by omega) (by omega)
        have p16 := er.2.1.1
        have e47 : γ 47 (δ0 16 a + i) = δ0 18 (δ0 16 a + i) := by
          rw [f 47 _ (by omega) (by omega) (by omega)]
          exact c0.2.2.2.2.2.2 _ (by omega) (by omega)
        have e75 : γ 7 5 = δ0 4 (δ0 0 18) := by rw [f 7 5 (by omega) (by omega) (by omega)]; exact c0.2.1.1
        have g4 := c0.2.1.2.2
        have e33 : γ 33 (δ0 4 (δ0 0 18) + δ0 18 (δ0 16 a + i)) = δ0 14 (δ0 4 (δ0 0 18) + δ0 18 (δ0 16 a + i)) := by
          rw [f 33 _ (by omega) (by omega) (by omega)]
          exact (c0.1 _ (by omega) (by omega)).2
        rw [e47, e75, e18, e16, d 18 _ (by omega) (by omega) (by omega), d 4 _ (by omega) (by omega) (by omega)]
        refine pq_cl (fun _ => pq_cl (fun _ => pq_cl (fun _ => pq_cl (fun _ => pq_al ?_))))
        rw [if_neg (show ¬ γ 7 4 ≤ i by omega), e33, h53 i h0 (by omega)]
        refine pq_cl (fun _ => pq_cl (fun _ => ?_))
        refine pq_cr (fun _ => pq_cr (fun _ => pq_cr (fun _ => pq_cr (fun _ => pq_cr (fun _ => pq_cr (fun _ => ?_))))))
        rw [d 14 _ (by omega) (by omega) (by omega)]
        generalize hw : (if m = 0 then δ 28 (δ0 17 a) else δ0 14 (δ0 4 (δ0 21 (δ0 17 a)) + δ0 5 (δ0 21 (δ0 17 a)) + i)) = w
        have main : pq (if w ≠ δ0 14 (δ0 4 (δ0 0 18) + δ0 18 (δ0 16 a + i)) then f_Ck_typesFit_b153 (f_Ck_typesFit_L75 f_Ck_typesFit_b161 n) f_Ck_typesFit_b161 γ a i else f_Ck_typesFit_b154 (f_Ck_typesFit_L75 f_Ck_typesFit_b161 n) f_Ck_typesFit_b161 γ a i 0) (f_M_judge_b180 (f_M_judge_L99 xj n2) xj δ a (δ0 17 a) nl m i w (δ0 14 (δ0 4 (δ0 0 18) + δ0 18 (δ0 16 a + i)))) (OuR (TfR γ0 δ0 a)) := by
          unfold f_Ck_typesFit_b153 f_Ck_typesFit_b154 f_M_judge_b180 f_M_judge_b188
          by_cases qw : w = δ0 14 (δ0 4 (δ0 0 18) + δ0 18 (δ0 16 a + i))
          · rw [if_neg (show ¬ (w ≠ δ0 14 (δ0 4 (δ0 0 18) + δ0 18 (δ0 16 a + i))) from fun r => r qw), if_neg (show ¬ (δ0 14 (δ0 4 (δ0 0 18) + δ0 18 (δ0 16 a + i)) ≠ w) from fun r => r qw.symm), ty_1 (by decide)]
            exact pq_cl (fun _ => pq_cr (fun _ => ih n2 γ δ (i + 1) t (by omega) h4 h53))
          · rw [if_pos qw, if_pos (show δ0 14 (δ0 4 (δ0 0 18) + δ0 18 (δ0 16 a + i)) ≠ w from fun r => qw r.symm)]
            refine pq_cl (fun _ => ?_)
            show pq _ (some ((.inl (4, δ 0 42), δ) : Res)) _
            cases n with
            | zero => exact pq_nl
            | succ n =>
              unfold f_Ck_typesFit_L75 f_Ck_typesFit_b161
              rw [if_pos (show (4 : Int) ≠ 0 by decide), if_neg (show ¬ (4 : Int) = 0 by decide)]
              refine pq_cl (fun _ => pq_bl (failAt_pc c.2.1.2.1) (fun r γ' e => ?_))
              cases e
              rw [if_pos rfl]
              refine pq_some (OuR.no (faS_7 _ _ _) ?_ (by decide))
              rw [faS_8, t42, f 42 a (by omega) (by omega) (by omega), q1]
        rw [← hw] at main ⊢
        by_cases qm : m = 0
        · rw [if_pos qm, if_pos qm]
          rw [if_pos qm] at main
          exact pq_cr (fun _ => main)
        · rw [if_neg qm, if_neg qm]
          rw [if_neg qm] at main
          rw [d 21 _ (by omega) (by omega) (by omega), d 4 _ (by omega) (by omega) (by omega), d 5 _ (by omega) (by omega) (by omega), d 14 _ (by omega) (by omega) (by omega)]
          exact pq_cr (fun _ => pq_cr (fun _ => pq_cr (fun _ => pq_cr (fun _ => pq_cr (fun _ => pq_cr (fun _ => pq_cr (fun _ => main)))))))
/-- the types of all parts, then of the left sides -/
theorem pq_tyL (c0 : CkC γ0 δ0) (j0 : JI δ0 a) (b14 : ∀ v, δ0 14 v = 0 ∨ δ0 14 v = 1) (hE : a < δ0 0 30) (hnl : nl = δ0 16 (a + 1) - δ0 16 a) (hl31 : δ0 16 (a + 1) ≤ δ0 0 31) (h40 : δ0 17 a < δ0 0 40) (hm : m = 0 → nl = 1) (hm3 : m ≠ 0 → δ0 20 (δ0 17 a) = 3) : ∀ (n n2 : Nat) (γ δ : St) (e : Int) (ks : List Int), TfR γ0 δ0 a γ δ → δ0 19 a ≤ e → e ≤ δ0 17 a → SkR 28 γ δ (δ0 19 a) ks e → pq (f_Ck_typesFit_L30 f_Ck_typesFit_b72 n γ a 0 (δ0 17 a) e) (f_M_judge_L62 jdL n2 δ a (δ0 17 a) nl m e) (OuR (TfR γ0 δ0 a)) := by
  intro n
  induction n with
  | zero => intro n2 γ δ e ks _ _ _ _; exact pq_nl
  | succ n ih =>
    intro n2 γ δ e ks t h1 h2 st
    cases n2 with
    | zero => exact pq_nr
    | succ n2 =>
      have ⟨t1, t2, t3, t42⟩ := t
      have c := c0.fr t1 t2
      have d : ∀ (j : Nat) (k : Int), (j = 0 → k ≠ 42) → j ≠ 24 → j ≠ 28 → δ j k = δ0 j k := fun j k q1 q2 q3 => t2 j k q1 (by omega) q3
      have ⟨_, _, _, er, h5, _, ⟨k1, k2⟩, _⟩ := j0
      obtain ⟨q1, q2, q3, q4, q5⟩ := c0.2.2.2.2.2.1 a k1 hE
      have f : ∀ (j : Nat) (k : Int), j ≠ 53 → j ≠ 41 → (j = 7 → k ≠ 4) → γ j k = γ0 j k := t1
      have e46 : γ 46 a = nl := by rw [f 46 a (by omega) (by omega) (by omega), q5, hnl]
      have g0 := er.2.2.2.2.1 e h1 h2
      have p19 := er.2.2.2.1.1
      have g : Gn (δ 0 19 - δ 4 (δ 0 18)) (δ 0 18) δ (δ0 19 a) e := by
        rw [d 0 19 (by omega) (by omega) (by omega), d 0 18 (by omega) (by omega) (by omega), d 4 _ (by omega) (by omega) (by omega)]
        exact g0.fr (Int.le_refl _) (fun k _ _ => d 23 k (by omega) (by omega) (by omega)) (fun j r1 r2 r3 r4 r5 k _ _ => d j k (by omega) (by omega) (by omega))
      have he : 0 ≤ e ∧ e < δ 0 40 := by rw [d 0 40 (by omega) (by omega) (by omega)]; omega
      have b14' : ∀ v, δ 14 v = 0 ∨ δ 14 v = 1 := fun v => by rw [d 14 v (by omega) (by omega) (by omega)]; exact b14 v
      have one : ∀ o, pq (f_Ck_checkType γ e o) (f_M_look δ e o) (TyO γ δ (δ0 19 a) e o) := fun o => by
        by_cases r : δ 20 e = 3
        · exact pq_tyc c b14' g he st r
        · exact pq_tyn c t3 b14' g rfl he st r
      -- a fault
      have bad : ∀ (k : Int) (γ' δ' : St), k ≠ 0 → Fck γ γ' → pq (f_Ck_typesFit_L30 f_Ck_typesFit_b72 n γ' a k (δ0 17 a) (e + 1)) (some ((.inl (k, δ 0 42), δ') : Res)) (OuR (TfR γ0 δ0 a)) := fun k γ' δ' hk fc => by
        cases n with
        | zero => exact pq_nl
        | succ n =>
          unfold f_Ck_typesFit_L30
          rw [if_pos hk]
          have c7 : γ' 1 7 = 0 := by rw [fc 1 7 (by omega) (by omega) (by omega)]; exact c.2.1.2.1
          refine pq_pp (fault_pc c7 hk) (pc_s (P := fun z => z = (.inl (k, δ 0 42), δ')) rfl) (fun y z hy hz => ?_)
          subst hy; subst hz
          refine OuR.no (faS_7 _ _ _) ?_ hk
          rw [faS_8, t42, fc 42 a (by omega) (by omega) (by omega), f 42 a (by omega) (by omega) (by omega), q1]
      have f28 : ∀ v, (v = 0 ∨ v = 1) → ∀ γ', Fck γ γ' → TfR γ0 δ0 a γ' (setA δ 28 e v) := fun v hv γ' fc => by
        have s0 : ∀ (j : Nat) (k : Int), j ≠ 28 → setA δ 28 e v j k = δ j k := fun j k r => by rw [stA, if_neg (by omega)]
        refine ⟨t1.tr fc, fun j k r1 r2 r3 => by rw [s0 j k r3]; exact t2 j k r1 r2 r3, fun w => ?_, by rw [s0 0 42 (by omega)]; exact t42⟩
        rw [stA]
        by_cases r : (28 : Nat) = 28 ∧ w = e
        · rw [if_pos r]; exact hv
        · rw [if_neg r]; exact t3 w
      unfold f_Ck_typesFit_L30 f_M_judge_L62
      rw [if_neg (show ¬ ((0 : Int) ≠ 0) by decide), if_neg (show ¬ δ0 17 a < e by omega), if_neg (show ¬ δ0 17 a < e by omega)]
      by_cases qe : e = δ0 17 a
      · have ro : (if e ≠ δ0 17 a then f_M_judge_b86 (f_M_judge_L62 jdL n2) jdL δ a (δ0 17 a) nl m e e else if m = 0 then f_M_judge_b86 (f_M_judge_L62 jdL n2) jdL δ a (δ0 17 a) nl m e e else f_M_judge_b87 (f_M_judge_L62 jdL n2) jdL δ a (δ0 17 a) nl m e nl e) = bndT (f_M_look δ e nl) fun _ γ114 => chk (i32 (e + 1)) (f_M_judge_L62 jdL n2 γ114 a (δ0 17 a) nl m (e + 1)) := by
          rw [if_neg (fun r => r qe)]
          by_cases qm : m = 0
          · rw [if_pos qm]
            unfold f_M_judge_b86 f_M_judge_b87
            rw [hm qm]
          · rw [if_neg qm]
            rfl
        rw [ro, if_neg (show ¬ (e ≠ δ0 17 a) from fun r => r qe), e46]
        unfold f_Ck_typesFit_b62
        refine pq_cl (fun _ => pq_bb (one nl) (fun r γ' er' δ' hh => ?_) (fun r γ' x δ' hh => ?_))
        · rcases hh.2 with ⟨k, hk, e1, e2⟩ | ⟨_, v, _, e2, _⟩
          · have e2 : (Sum.inl er' : (Int × Int) ⊕ Int) = .inl (k, δ 0 42) := e2
            cases e2
            have e1 : r = k := e1
            subst e1
            exact pq_cl (fun _ => bad r γ' δ' (by omega) hh.1)
          · cases e2
        · rcases hh.2 with ⟨k, hk, e1, e2⟩ | ⟨e1, v, hv, e2, ks', ⟨s1, s2⟩, s3, s4⟩
          · cases e2
          · cases e2
            have e1 : r = 0 := e1
            subst e1
            have tn := f28 v hv γ' hh.1
            refine pq_cl (fun _ => pq_cr (fun _ => ?_))
            have k0 : ks' = [] := by
              have e26 : δ 26 e = e + 1 - δ0 19 a := by rw [d 26 e (by omega) (by omega) (by omega), qe]; exact er.2.2.2.1.2.2
              rw [e26, show e + 1 - (e + 1 - δ0 19 a) = δ0 19 a by omega] at s1
              exact s1.nil_of
            subst k0
            cases n with
            | zero => exact pq_nl
            | succ n =>
              cases n2 with
              | zero => exact pq_nr
              | succ n2 =>
                unfold f_Ck_typesFit_L30 f_M_judge_L62
                rw [if_neg (show ¬ ((0 : Int) ≠ 0) by decide), if_pos (show δ0 17 a < e + 1 by omega), if_pos (show δ0 17 a < e + 1 by omega)]
                unfold f_Ck_typesFit_b72 jdL
                have d20 := d 20 e (by omega) (by omega) (by omega)
                have e28 : setA δ 28 e v 28 (δ0 17 a) = v := by rw [stA, if_pos ⟨rfl, qe.symm⟩]
                refine pq_tyF c0 j0 hE hnl hl31 FU FU γ' _ 0 tn (Int.le_refl _) ?_ (fun j a1 a2 => ?_)
                · by_cases r3 : δ 20 e = 3
                  · have t := (s4 r3).1
                    have t : γ' 7 4 = 0 + nl := t
                    omega
                  · have t := (s3 r3).1
                    have t : γ' 7 4 = 0 + 1 := t
                    by_cases qm : m = 0
                    · have := hm qm; omega
                    · exact absurd (by rw [d20, qe]; exact hm3 qm) r3
                · by_cases r3 : δ 20 e = 3
                  · have t := (s4 r3).2.2.2 j a1 a2
                    have tv := (s4 r3).2.2.1
                    have t : γ' 53 (0 + j) = δ 14 (δ 4 (δ 21 e) + δ 5 (δ 21 e) + j) := t
                    rw [show (0 : Int) + j = j by omega] at t
                    rw [d 21 e (by omega) (by omega) (by omega), d 4 _ (by omega) (by omega) (by omega), d 5 _ (by omega) (by omega) (by omega), d 14 _ (by omega) (by omega) (by omega)] at t tv
                    rw [t, e28, qe]
                    by_cases qm : m = 0
                    · have j0' : j = 0 := by have := hm qm; omega
                      rw [if_pos qm, tv, j0', qe]
                      congr 1; omega
                    · rw [if_neg qm]
                  · have t := (s3 r3).2
                    have t : γ' 53 0 = v := t
                    by_cases qm : m = 0
                    · have j0' : j = 0 := by have := hm qm; omega
                      rw [if_pos qm, e28, j0', t]
                    · exact absurd (by rw [d20, qe]; exact hm3 qm) r3
      · rw [if_pos (show e ≠ δ0 17 a from qe), if_pos (show e ≠ δ0 17 a from qe)]
        unfold f_Ck_typesFit_b62 f_M_judge_b86 f_M_judge_b87
        refine pq_bb (one 1) (fun r γ' er' δ' hh => ?_) (fun r γ' x δ' hh => ?_)
        · rcases hh.2 with ⟨k, hk, e1, e2⟩ | ⟨_, v, _, e2, _⟩
          · have e2 : (Sum.inl er' : (Int × Int) ⊕ Int) = .inl (k, δ 0 42) := e2
            cases e2
            have e1 : r = k := e1
            subst e1
            exact pq_cl (fun _ => bad r γ' δ' (by omega) hh.1)
          · cases e2
        · rcases hh.2 with ⟨k, hk, e1, e2⟩ | ⟨e1, v, hv, e2, ks', ⟨s1, s2⟩, s3, s4⟩
          · cases e2
          · cases e2
            have e1 : r = 0 := e1
            subst e1
            have tn := f28 v hv γ' hh.1
            refine pq_cl (fun _ => pq_cr (fun _ => ih n2 γ' _ (e + 1) (ks' ++ [e]) tn (by omega) (by omega) ?_))
            have s0 : ∀ (j : Nat) (k : Int), j ≠ 28 → setA δ 28 e v j k = δ j k := fun j k r => by rw [stA, if_neg (by omega)]
            have r26 : setA δ 28 e v 26 = δ 26 := funext fun k => s0 26 k (by omega)
            obtain ⟨ms, _, sg, _⟩ := g
            have le := sg.le
            have top : γ' 7 4 = ks'.length + 1 ∧ γ' 53 ks'.length = v := by
              by_cases r3 : δ 20 e = 3
              · have t := s4 r3
                have t5 := t.2.2.2 0 (Int.le_refl _) (by decide)
                rw [show ((ks'.length : Int) + 0) = ks'.length by omega, show δ 4 (δ 21 e) + δ 5 (δ 21 e) + 0 = δ 4 (δ 21 e) + δ 5 (δ 21 e) by omega] at t5
                exact ⟨t.1, t5.trans t.2.2.1.symm⟩
              · exact s3 r3
            refine ⟨?_, ?_, ?_⟩
            · rw [r26]
              exact s1.app ⟨by omega, by omega, rfl⟩
            · rw [top.1]; simp
            · refine Arr.app.2 ⟨s2.agree (fun _ _ _ => rfl) (fun y hy => ?_), ?_, trivial⟩
              · have := s1.mem y hy
                rw [stA, if_neg (by omega)]
              · rw [show (0 : Int) + (ks'.length : Int) = ks'.length by omega, top.2, stA, if_pos ⟨rfl, rfl⟩]
theorem pq_types (c0 : CkC γ0 δ0) (j0 : JI δ0 a) (b14 : ∀ v, δ0 14 v = 0 ∨ δ0 14 v = 1) (hE : a < δ0 0 30) (hnl : nl = δ0 16 (a + 1) - δ0 16 a) (hl31 : δ0 16 (a + 1) ≤ δ0 0 31) (h40 : δ0 17 a < δ0 0 40) (hm : m = 0 → nl = 1) (hm3 : m ≠ 0 → δ0 20 (δ0 17 a) = 3) (b28 : ∀ v, δ0 28 v = 0 ∨ δ0 28 v = 1) (h42 : δ0 0 42 = δ0 15 a) : pq (f_Ck_typesFit γ0 a) (jdT δ0 a (δ0 17 a) nl m) (OuR (TfR γ0 δ0 a)) := by
  obtain ⟨q1, q2, q3, q4, q5⟩ := c0.2.2.2.2.2.1 a j0.2.2.2.2.2.2.1.1 hE
  have er := j0.2.2.2.1
  unfold f_Ck_typesFit jdT
  refine pq_al ?_
  have s0 : ∀ (j : Nat) (k : Int), j ≠ 7 ∨ k ≠ 4 → setA γ0 7 4 0 j k = γ0 j k := fun j k r => by rw [stA, if_neg (by omega)]
  rw [s0 44 a (by omega), s0 43 a (by omega), q3, q2, show δ0 17 a + 1 - 1 = δ0 17 a by omega]
  refine pq_cl (fun _ => pq_cl (fun _ => pq_al (pq_cl (fun _ => pq_al ?_))))
  refine pq_tyL c0 j0 b14 hE hnl hl31 h40 hm hm3 FU FU _ _ _ [] ⟨fun j k a b c => s0 j k (by omega), fun _ _ _ _ _ => rfl, b28, h42⟩ (Int.le_refl _) er.2.2.2.1.2.1 ⟨rfl, ?_, trivial⟩
  rw [stA, if_pos ⟨rfl, rfl⟩]; rfl
end TYF
