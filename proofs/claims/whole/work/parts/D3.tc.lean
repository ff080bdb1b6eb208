/-! equality: a call's types, and an equation's -/
def faS (γ : St) (k p : Int) : St := setA (setA γ 1 7 k) 1 8 p
theorem failAt_pc {γ : St} {k p : Int} (h : γ 1 7 = 0) : pc (f_Tk_failAt γ k p) (fun z => z = (0, faS γ k p)) := by
  unfold f_Tk_failAt
  rw [if_neg (fun r => r h)]
  exact pc_a (pc_a (pc_s rfl))
theorem outs_pc {o inp first : Int} : ∀ (n : Nat) (γ : St) (x : Int), 0 ≤ x → x ≤ o → pc (f_Ck_checkCall_L121 n γ o inp first x) (fun z => z.1 = 0 ∧ Fck γ z.2 ∧ z.2 7 4 = γ 7 4 + (o - x) ∧ (∀ k, k < γ 7 4 → z.2 53 k = γ 53 k) ∧ ∀ i, 0 ≤ i → i < o - x → z.2 53 (γ 7 4 + i) = γ 33 (first + inp + x + i)) := by
  intro n
  induction n with
  | zero => intro γ x _ _; exact pc_n
  | succ n ih =>
    intro γ x h0 h1
    unfold f_Ck_checkCall_L121
    refine pc_i (fun q => pc_s ⟨rfl, Fck.rf, by show γ 7 4 = _; omega, fun _ _ => rfl, fun i a b => by exfalso; omega⟩) (fun q => ?_)
    refine pc_c (fun _ => pc_c (fun _ => pc_c (fun _ => pc_c (fun _ => pc_a ?_))))
    have e4 : ∀ v, setA γ 53 (γ 7 4) v 7 4 = γ 7 4 := fun v => by rw [stA, if_neg (by omega)]
    rw [e4]
    refine pc_c (fun _ => pc_a (pc_c (fun _ => ?_)))
    generalize hg : setA (setA γ 53 (γ 7 4) _) 7 4 _ = γ2
    have s : ∀ j k, γ2 j k = if j = 7 ∧ k = 4 then γ 7 4 + 1 else if j = 53 ∧ k = γ 7 4 then γ 33 (first + inp + x) else γ j k := fun j k => by rw [← hg, stA, stA]
    have s4 : γ2 7 4 = γ 7 4 + 1 := by rw [s, if_pos ⟨rfl, rfl⟩]
    refine pc_m (ih γ2 (x + 1) (by omega) (by omega)) (fun z hz => ?_)
    obtain ⟨z1, z2, z3, z4, z5⟩ := hz
    rw [s4] at z3 z4 z5
    refine ⟨z1, fun j k a b c => ?_, by rw [z3]; omega, fun k hk => ?_, fun i a b => ?_⟩
    · rw [z2 j k a b c, s, if_neg (by omega), if_neg (by omega)]
    · rw [z4 k (by omega), s, if_neg (by omega), if_neg (by omega)]
    · by_cases q0 : i = 0
      · subst q0
        rw [z4 _ (by omega), s, if_neg (by omega), if_pos ⟨rfl, by omega⟩, show first + inp + x + 0 = first + inp + x by omega]
      · have t := z5 (i - 1) (by omega) (by omega)
        rw [show γ 7 4 + 1 + (i - 1) = γ 7 4 + i by omega, show first + inp + (x + 1) + (i - 1) = first + inp + x + i by omega, s, if_neg (by omega), if_neg (by omega)] at t
        exact t
theorem pq_inp {γ δ : St} {e f o inp first : Int} {Q : Int × St → Res → Prop} (fin : pq (f_Ck_checkCall_b118 γ o inp first) (f_M_look_b168 δ e f) Q) (bad : Q (4, γ) (.inl (4, δ 0 42), δ)) : ∀ (rest : List Int) (n m : Nat) (i x : Int), 0 ≤ i → Ch (δ 23) x rest → Arr (γ 53) (δ 28) (γ 7 4 + i) rest → inp = i + rest.length → (∀ j, i ≤ j → j < inp → γ 33 (first + j) = δ 14 (first + j)) → pq (f_Ck_checkCall_L75 f_Ck_checkCall_b118 n γ o inp first i) (f_M_look_L122 f_M_look_b168 m δ e f (first + i) x) Q := by
  intro rest
  induction rest with
  | nil =>
    intro n m i x h0 h1 h2 h3 h4
    have e1 : x = -1 := h1
    have e3 : inp = i := by simpa using h3
    cases n with
    | zero => exact pq_nl
    | succ n =>
      cases m with
      | zero => exact pq_nr
      | succ m =>
        unfold f_Ck_checkCall_L75 f_M_look_L122
        rw [if_pos (show inp ≤ i by omega), if_pos (show x < 0 by omega)]
        exact fin
  | cons y t ih =>
    intro n m i x h0 h1 h2 h3 h4
    have e1 : x = y := h1.1
    have e0 := h1.2.1
    simp only [List.length_cons] at h3
    subst e1
    cases n with
    | zero => exact pq_nl
    | succ n =>
      cases m with
      | zero => exact pq_nr
      | succ m =>
        unfold f_Ck_checkCall_L75 f_M_look_L122 f_M_look_b153
        rw [if_neg (show ¬ inp ≤ i by omega), if_neg (show ¬ x < 0 by omega)]
        refine pq_cl (fun _ => pq_cl (fun _ => pq_cl (fun _ => pq_cl (fun _ => ?_))))
        refine pq_cr (fun _ => pq_cr (fun _ => pq_cr (fun _ => ?_)))
        have hx : γ 53 (γ 7 4 + i) = δ 28 x := h2.1
        have ht := h4 i (Int.le_refl _) (by omega)
        rw [hx, ht]
        by_cases q : δ 28 x = δ 14 (first + i)
        · rw [if_pos q, if_neg (show ¬ (δ 28 x ≠ δ 14 (first + i)) from fun r => r q), ty_1 (by decide)]
          refine pq_cl (fun _ => pq_cr (fun _ => pq_ar ?_))
          rw [show first + i + 1 = first + (i + 1) by omega]
          refine ih n m (i + 1) _ (by omega) h1.2.2 ?_ (by omega) (fun j a b => h4 j (by omega) b)
          have := h2.2
          rw [show γ 7 4 + i + 1 = γ 7 4 + (i + 1) by omega] at this
          exact this
        · rw [if_neg q, if_pos q]
          show pq (some (4, γ)) (some ((.inl (4, δ 0 42), δ) : Res)) Q
          exact pq_some bad
theorem pq_tyc {γ δ : St} {nv lo e o : Int} {ks : List Int} (c : CkC γ δ) (b14 : ∀ v, δ 14 v = 0 ∨ δ 14 v = 1) (g : Gn nv (δ 0 18) δ lo e) (he : 0 ≤ e ∧ e < δ 0 40) (st : SkR 28 γ δ lo ks e) (h3 : δ 20 e = 3) : pq (f_Ck_checkType γ e o) (f_M_look δ e o) (TyO γ δ lo e o) := by
  obtain ⟨ms, ch, sg, hlo, ar, wh, _, _⟩ := g
  obtain ⟨ks', ek, sk'⟩ := Sg.split _ rfl st.1 sg hlo
  obtain ⟨p1, p2, qs, p3, p4⟩ := c.2.2.2.1.2 e he.1 he.2
  have eq : qs = ms := p3.uniq sg
  subst eq
  have st2 := st.2.1
  have ar2 := st.2.2
  rw [ek] at st2 ar2
  have ar3 := Arr.app.1 ar2
  rw [List.length_append] at st2
  have b0 : (0 : Int) + (ks'.length : Int) = ks'.length := by omega
  rw [b0] at ar3
  have w3 := wh.2.2.1 h3
  have h43 : γ 38 e = 43 := by
    have cs := kd_c p1 wh.1.1
    rw [h3] at cs
    clear p1 ar wh
    omega
  obtain ⟨⟨n1, n2, n3⟩, n4, n5, n6, n7⟩ := c.2.2.1 (δ 21 e) w3.1 w3.2
  have bad5 : TyO γ δ lo e o (5, γ) (.inl (5, δ 0 42), δ) := ⟨Fck.rf, Or.inl ⟨5, Or.inr rfl, rfl, rfl⟩⟩
  have lk : pq (f_Ck_checkCall γ e o) (f_M_look_b54 δ e o (0 + qs.length) (δ 22 e) (if 0 ≤ δ 22 e then δ 23 (δ 22 e) else -1)) (TyO γ δ lo e o) := by
    unfold f_Ck_checkCall f_M_look_b54
    refine pq_cl (fun _ => pq_al (pq_cl (fun _ => pq_al (pq_cl (fun _ => ?_)))))
    refine pq_cr (fun _ => ?_)
    rw [if_neg (show ¬ (δ 20 e ≠ 3) from fun r => r h3)]
    refine pq_cr (fun _ => pq_ar (pq_cr (fun _ => ?_)))
    rw [p2, n2]
    by_cases q1 : γ 40 e = δ 5 (δ 21 e)
    · rw [if_neg (show ¬ (γ 40 e ≠ δ 5 (δ 21 e)) from fun r => r q1), if_neg (show ¬ (0 + (qs.length : Int) ≠ δ 5 (δ 21 e)) by omega)]
      refine pq_cl (fun _ => pq_cr (fun _ => ?_))
      rw [n3]
      by_cases q2 : o = δ 6 (δ 21 e)
      · rw [if_pos q2, if_pos q2]
        refine pq_cl (fun _ => pq_al (pq_cl (fun _ => pq_al (pq_cr (fun _ => pq_ar ?_)))))
        generalize hg : setA γ 7 4 (γ 7 4 - γ 40 e) = γ1
        have s : ∀ j k, γ1 j k = if j = 7 ∧ k = 4 then (ks'.length : Int) else γ j k := fun j k => by
          rw [← hg, stA, show γ 7 4 - γ 40 e = ks'.length by omega]
        have s0 : ∀ (j : Nat) (k : Int), j ≠ 7 ∨ k ≠ 4 → γ1 j k = γ j k := fun j k q => by rw [s, if_neg (by omega)]
        have s4 : γ1 7 4 = ks'.length := by rw [s, if_pos ⟨rfl, rfl⟩]
        have f1 : Fck γ γ1 := fun j k a b c => s0 j k (by omega)
        have r53 : γ1 53 = γ 53 := funext fun k => s0 53 k (by omega)
        rw [s0 25 _ (by omega), n1]
        rw [show (δ 4 (δ 21 e)) = δ 4 (δ 21 e) + 0 by omega]
        rw [show f_Ck_checkCall_L75 f_Ck_checkCall_b118 FU γ1 o (γ 40 e) (δ 4 (δ 21 e) + 0) 0 = f_Ck_checkCall_L75 f_Ck_checkCall_b118 FU γ1 o (γ 40 e) (δ 4 (δ 21 e)) 0 by rw [show (δ 4 (δ 21 e)) + 0 = δ 4 (δ 21 e) by omega]]
        refine pq_inp (first := δ 4 (δ 21 e)) ?_ ⟨f1, Or.inl ⟨4, Or.inl rfl, rfl, rfl⟩⟩ qs FU FU 0 (δ 22 e) (Int.le_refl _) ch ?_ (by omega) (fun j a b => ?_)
        · unfold f_Ck_checkCall_b118 f_M_look_b168
          refine pq_cr (fun _ => pq_cr (fun _ => pq_cr (fun _ => pq_cr (fun _ => pq_cr (fun _ => pq_cr (fun _ => pq_ar ?_))))))
          refine pq_pp (outs_pc FU γ1 0 (by omega) (by omega)) (pc_s (P := fun z => z = (.inr 0, setA δ 28 e (δ 14 (δ 4 (δ 21 e) + δ 5 (δ 21 e))))) rfl) (fun y z hy hz => ?_)
          obtain ⟨z1, z2, z3, z4, z5⟩ := hy
          rw [s4] at z3 z4 z5
          subst hz
          refine ⟨f1.tr z2, Or.inr ⟨z1, _, b14 _, rfl, ks', ⟨sk', ?_⟩, fun r => absurd h3 r, fun _ => ⟨by rw [z3]; omega, q2, rfl, fun i a b => ?_⟩⟩⟩
          · refine ar3.1.agree (fun n a b => ?_) (fun _ _ => rfl)
            rw [z4 n (by omega), r53]
          · rw [z5 i a (by omega), s0 33 _ (by omega), q1, show δ 4 (δ 21 e) + δ 5 (δ 21 e) + 0 + i = δ 4 (δ 21 e) + δ 5 (δ 21 e) + i by omega]
            exact (c.1 _ (by omega) (by omega)).2
        · rw [s4, r53, show ((ks'.length : Int) + 0) = ks'.length by omega]
          exact ar3.2
        · rw [s0 33 _ (by omega)]
          exact (c.1 _ (by omega) (by omega)).2
      · rw [if_neg q2, if_neg q2]
        unfold f_M_look_b96
        exact pq_some bad5
    · rw [if_pos (show γ 40 e ≠ δ 5 (δ 21 e) from q1), if_pos (show (0 + (qs.length : Int) ≠ δ 5 (δ 21 e)) by omega)]
      unfold f_M_look_b96
      exact pq_some bad5
  unfold f_Ck_checkType
  refine pq_cl (fun _ => pq_al (pq_cl (fun _ => pq_al ?_)))
  rw [if_neg (show ¬ (γ 38 e ≠ 43) from fun r => r h43)]
  intro y z e1 e2
  obtain ⟨w, e3, e4⟩ := bN_e e1
  have e4 : some (w.1, w.2) = some y := e4
  cases e4
  have lz : pc (f_M_look δ e o) (fun z => f_M_look_b54 δ e o (0 + qs.length) (δ 22 e) (if 0 ≤ δ 22 e then δ 23 (δ 22 e) else -1) = some z) := by
    unfold f_M_look
    refine pc_c (fun _ => pc_a (loL10_pc FU qs 0 _ ?_ ch))
    unfold f_M_look_b30
    refine pc_c (fun _ => pc_a (pc_i (fun q => ?_) (fun q => ?_)))
    · rw [if_pos q]; exact pc_c (fun _ => fun y e => e)
    · rw [if_neg q]; exact fun y e => e
  exact lk w z e3 (lz z e2)
