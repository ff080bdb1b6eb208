/-! the reference's declarations: group, groups -/
theorem idiv_2 {x : Int} (h0 : 0 ≤ x) (h1 : x ≤ 2147483647) : idiv x 2 = x / 2 := by
  unfold idiv
  rw [Int32.toInt_div, iI_toInt (by omega), iI_toInt (by omega), Int.tdiv_eq_ediv_of_nonneg h0]
  have e : (((2 ^ 32 : Nat)) : Int) = 4294967296 := rfl
  simp only [Int.bmod, e]
  split <;> omega
def WdO (γ : St) (A S : Nat) (lo hi : Int) : Prop := ∀ v, lo ≤ v → v < hi → 0 ≤ γ A v ∧ γ A v + γ S v ≤ 10240
def Fnd (γ : St) (A S : Nat) (lo hi r : Int) : Prop := r = -1 ∧ (∀ v, lo ≤ v → v < hi → ¬ sameQ γ (γ A v) (γ S v)) ∨ (lo ≤ r ∧ r < hi) ∧ sameQ γ (γ A r) (γ S r) ∧ ∀ v, lo ≤ v → v < r → ¬ sameQ γ (γ A v) (γ S v)
def TkO (γ : St) : Prop := 0 ≤ γ 0 7 ∧ γ 0 7 ≤ γ 0 8 ∧ γ 0 8 ≤ 10240
theorem LX.tko {γ : St} (h : LX γ) : TkO (pkS γ) := by
  have t := h.te2
  have ⟨a1, a2, a3, a4⟩ := h
  refine ⟨?_, ?_, ?_⟩
  · rw [pk_7]; omega
  · rw [pk_7, pk_8]; omega
  · rw [pk_8]; omega
theorem w_variableHere_L10 : ∀ (n : Nat) (γ : St) (lo hi x : Int), TkO γ → WdO γ 10 11 lo hi → 0 ≤ lo → lo ≤ x → hi ≤ 6000 → hi - x < n → 0 < n → (∀ v, lo ≤ v → v < x → ¬ sameQ γ (γ 10 v) (γ 11 v)) → wp (f_M_variableHere_L10 n γ hi x) (fun z => ∃ r, z = (r, γ) ∧ Fnd γ 10 11 lo hi r) := by
  intro n
  induction n with
  | zero =>
    intro γ lo hi x h1 h2 h3 h4 h5 h6 h0
    exact absurd h0 (by omega)
  | succ n ih =>
    intro γ lo hi x h1 h2 h3 h4 h5 h6 h0 h7
    unfold f_M_variableHere_L10
    refine wp_ite (fun q => wp_some ⟨_, rfl, Or.inl ⟨rfl, fun v a b => h7 v a (by omega)⟩⟩) (fun q => ?_)
    have w := h2 x h4 (by omega)
    refine wp_chk (by omega) (wp_chk (by omega) (wp_yn (w_spelled h1.1 h1.2.1 h1.2.2 w.1 w.2) (fun s => ?_) (fun s => ?_)))
    · exact ⟨_, rfl, Or.inr ⟨⟨h4, by omega⟩, s, h7⟩⟩
    · rw [if_pos rfl]
      refine wp_chk (by omega) (ih γ lo hi (x + 1) h1 h2 h3 (by omega) h5 (by omega) (by omega) (fun v a b => ?_))
      by_cases q3 : v = x
      · rw [q3]; exact s
      · exact h7 v a (by omega)
theorem w_variableHere {γ : St} {lo hi : Int} (h1 : TkO γ) (h2 : WdO γ 10 11 lo hi) (h3 : 0 ≤ lo) (h5 : hi ≤ 6000) (h6 : 0 ≤ γ 0 18 ∧ γ 0 18 ≤ 60) (h7 : γ 4 (γ 0 18) = lo) : wp (f_M_variableHere γ hi) (fun z => ∃ r, z = (r, γ) ∧ Fnd γ 10 11 lo hi r) := by
  have := FU_v
  unfold f_M_variableHere
  refine wp_chk (by omega) (wp_sub ?_)
  rw [h7]
  exact w_variableHere_L10 FU γ lo hi lo h1 h2 h3 (by omega) h5 (by omega) (by omega) (fun v a b => by omega)
theorem w_nodeHere_L2 : ∀ (n : Nat) (γ : St) (x : Int), TkO γ → WdO γ 2 3 0 (γ 0 18) → 0 ≤ x → γ 0 18 ≤ 60 → γ 0 18 - x < n → 0 < n → (∀ v, 0 ≤ v → v < x → ¬ sameQ γ (γ 2 v) (γ 3 v)) → wp (f_M_nodeHere_L2 n γ x) (fun z => ∃ r, z = (r, γ) ∧ Fnd γ 2 3 0 (γ 0 18) r) := by
  intro n
  induction n with
  | zero =>
    intro γ x h1 h2 h3 h4 h5 h0
    exact absurd h0 (by omega)
  | succ n ih =>
    intro γ x h1 h2 h3 h4 h5 h0 h7
    unfold f_M_nodeHere_L2
    refine wp_ite (fun q => wp_some ⟨_, rfl, Or.inl ⟨rfl, fun v a b => h7 v a (by omega)⟩⟩) (fun q => ?_)
    have w := h2 x h3 (by omega)
    refine wp_chk (by omega) (wp_chk (by omega) (wp_yn (w_spelled h1.1 h1.2.1 h1.2.2 w.1 w.2) (fun s => ?_) (fun s => ?_)))
    · exact ⟨_, rfl, Or.inr ⟨⟨h3, by omega⟩, s, h7⟩⟩
    · rw [if_pos rfl]
      refine wp_chk (by omega) (ih γ (x + 1) h1 h2 (by omega) h4 (by omega) (by omega) (fun v a b => ?_))
      by_cases q3 : v = x
      · rw [q3]; exact s
      · exact h7 v a (by omega)
theorem w_nodeHere {γ : St} (h1 : TkO γ) (h2 : WdO γ 2 3 0 (γ 0 18)) (h4 : γ 0 18 ≤ 60) : wp (f_M_nodeHere γ) (fun z => ∃ r, z = (r, γ) ∧ Fnd γ 2 3 0 (γ 0 18) r) := by
  have := FU_v
  unfold f_M_nodeHere
  exact w_nodeHere_L2 FU γ 0 h1 h2 (by omega) h4 (by omega) (by omega) (fun v a b => by omega)
/-- the lexer has moved, nothing else -/
def Mv (γ γ' : St) : Prop := LX γ' ∧ (∀ j k, (j ≠ 0 ∨ k < 5 ∨ 9 < k) → γ' j k = γ j k) ∧ γ 0 5 ≤ γ' 0 5
theorem Mv.rf {γ : St} (h : LX γ) : Mv γ γ := ⟨h, fun _ _ _ => rfl, Int.le_refl _⟩
theorem Mv.tr {γ γ' γ'' : St} (h : Mv γ γ') (g : Mv γ' γ'') : Mv γ γ'' := ⟨g.1, fun j k q => (g.2.1 j k q).trans (h.2.1 j k q), Int.le_trans h.2.2 g.2.2⟩
theorem Mv.pk {γ γ' : St} (h : Mv γ γ') : Mv γ (pkS γ') := h.tr ⟨h.1.pk, fun j k q => pkS_o γ' j k q, by rw [pkS_5]; exact h.1.skb.1⟩
theorem Mv.tk {γ γ' : St} (h : Mv γ γ') : Mv γ (tkS γ') := h.tr ⟨h.1.tk, fun j k q => tkS_o γ' j k q, by rw [tkS_5]; have := h.1.te2; omega⟩
theorem LX.fr {γ γ' : St} (h : LX γ) (e1 : γ' 1 = γ 1) (e0 : ∀ k, k = 1 ∨ 5 ≤ k ∧ k ≤ 9 → γ' 0 k = γ 0 k) : LX γ' := by
  have ⟨a1, a2, a3, a4⟩ := h
  have es : sk γ' = sk γ := by
    show skpF (γ' 1) (γ' 0 1) FU (γ' 0 5) = skpF (γ 1) (γ 0 1) FU (γ 0 5)
    rw [e1, e0 1 (by omega), e0 5 (by omega)]
  refine ⟨by rw [e0 1 (by omega)]; exact a1, by rw [e0 1 (by omega), e0 5 (by omega)]; exact a2, fun k => by rw [e1]; exact a3 k, ?_⟩
  rcases a4 with q | q
  · exact Or.inl (by rw [e0 9 (by omega)]; exact q)
  · refine Or.inr ⟨by rw [e0 9 (by omega)]; exact q.1, ?_⟩
    funext j k
    by_cases r : j ≠ 0 ∨ k < 5 ∨ 9 < k
    · exact pkS_o γ' j k r
    · have ej : j = 0 := by omega
      subst ej
      have ek : pkS γ' 0 k = pkS γ 0 k := by
        have c : k = 5 ∨ k = 6 ∨ k = 7 ∨ k = 8 ∨ k = 9 := by omega
        rcases c with c | c | c | c | c
        · subst c; rw [pkS_5, pkS_5, es]
        · subst c; rw [pkS_6, pkS_6, es, e1, e0 1 (by omega)]
        · subst c; rw [pkS_7, pkS_7, es]
        · subst c; rw [pkS_8, pkS_8, es, e1, e0 1 (by omega)]
        · subst c; rw [pkS_9, pkS_9]
      rw [ek, q.2, e0 k (by omega)]
/-- a variable's clock: a variable before it -/
def ClO (γ : St) (lo v : Int) : Prop := γ 12 v = -1 ∨ (0 ≤ γ 12 v ∧ γ 12 v ≤ 20000) ∧ lo + γ 12 v / 2 < v
/-- within a node's declarations -/
def DcI (γ : St) : Prop := LX γ ∧ (0 ≤ γ 0 18 ∧ γ 0 18 ≤ 58) ∧ (0 ≤ γ 4 (γ 0 18) ∧ γ 4 (γ 0 18) ≤ 99 * γ 0 18) ∧ (γ 4 (γ 0 18) ≤ γ 0 19 ∧ γ 0 19 ≤ γ 4 (γ 0 18) + 99) ∧ WdO γ 10 11 (γ 4 (γ 0 18)) (γ 0 19) ∧ (∀ v, γ 4 (γ 0 18) ≤ v → v < γ 0 19 → ClO γ (γ 4 (γ 0 18)) v) ∧ ∀ v, γ 14 v = 0 ∨ γ 14 v = 1
theorem DcI.mv {γ γ' : St} (h : DcI γ) (m : Mv γ γ') : DcI γ' := by
  have ⟨a1, a2, a3, a4, a5, a6, a7⟩ := h
  have e := m.2.1
  have e18 := e 0 18 (by omega)
  have e19 := e 0 19 (by omega)
  have e4 := e 4 (γ 0 18) (by omega)
  refine ⟨m.1, by rw [e18]; exact a2, by rw [e18, e4]; exact a3, by rw [e18, e4, e19]; exact a4, ?_, ?_, fun v => by rw [e 14 v (by omega)]; exact a7 v⟩
  · rw [e18, e4, e19]
    intro v q1 q2
    rw [e 10 v (by omega), e 11 v (by omega)]
    exact a5 v q1 q2
  · rw [e18, e4, e19]
    intro v q1 q2
    unfold ClO
    rw [e 12 v (by omega)]
    exact a6 v q1 q2
/-- what a group leaves as it was -/
def Fg (v0 : Int) (γ γ' : St) : Prop := ∀ j k, (j = 0 → (k < 5 ∨ 9 < k) ∧ k ≠ 19) → (10 ≤ j → j ≤ 14 → k < v0) → γ' j k = γ j k
theorem Fg.mv {v0 : Int} {γ γ' γ'' : St} (h : Fg v0 γ γ') (m : Mv γ' γ'') : Fg v0 γ γ'' := fun j k q1 q2 => (m.2.1 j k (by omega)).trans (h j k q1 q2)
/-- in a group that began at γ0 -/
def GI (γ0 γ : St) : Prop := DcI γ ∧ Fg (γ0 0 19) γ0 γ ∧ γ0 0 19 ≤ γ 0 19 ∧ γ0 0 5 ≤ γ 0 5 ∧ ∀ v, γ0 0 19 ≤ v → v < γ 0 19 → γ 13 v = 0
theorem GI.mv {γ0 γ γ' : St} (h : GI γ0 γ) (m : Mv γ γ') : GI γ0 γ' := ⟨h.1.mv m, h.2.1.mv m, by rw [m.2.1 0 19 (by omega)]; exact h.2.2.1, Int.le_trans h.2.2.2.1 m.2.2, fun v q1 q2 => by rw [m.2.1 13 v (by omega)]; exact h.2.2.2.2 v q1 (by rw [m.2.1 0 19 (by omega)] at q2; exact q2)⟩
/-- throws, or answers with Q -/
def B14 (γ : St) : Prop := ∀ v, γ 14 v = 0 ∨ γ 14 v = 1
def Ro (v0 : Int) (γ : St) (Q : Int → St → Prop) (z : Res) : Prop := Fg v0 γ z.2 ∧ (∀ r, z.1 = .inr r → Q r z.2) ∧ B14 z.2
theorem Ro.er {v0 : Int} {γ γ' : St} {Q : Int → St → Prop} {e : Int × Int} (h : Fg v0 γ γ') (b : B14 γ') : Ro v0 γ Q (.inl e, γ') := ⟨h, (fun r q => by cases q), b⟩
theorem Ro.ok {v0 : Int} {γ γ' : St} {Q : Int → St → Prop} {r : Int} (h : Fg v0 γ γ') (b : B14 γ') (q : Q r γ') : Ro v0 γ Q (.inr r, γ') := ⟨h, (fun r' e => by cases e; exact q), b⟩
theorem GI.b14 {γ0 γ : St} (h : GI γ0 γ) : B14 γ := h.1.2.2.2.2.2.2
theorem w_shallow_L4 : ∀ (n : Nat) (γ : St) (x3 x4 : Int), DcI γ → γ 4 (γ 0 18) ≤ x4 → x4 < γ 0 19 → 0 ≤ x3 → x3 + (x4 - γ 4 (γ 0 18)) ≤ 100 → x4 - γ 4 (γ 0 18) < n → wp (f_M_shallow_L4 f_M_shallow_b39 n γ x3 x4) (fun z => z = (.inr 0, γ) ∨ z = (.inl (3, γ 0 7), γ)) := by
  intro n
  induction n with
  | zero => intro γ x3 x4 h1 h2 h3 h4 h5 h6; exfalso; omega
  | succ n ih =>
    intro γ x3 x4 h1 h2 h3 h4 h5 h6
    have ⟨a1, a2, a3, a4, a5, a6, a7⟩ := h1
    have c := a6 x4 h2 h3
    unfold f_M_shallow_L4
    refine wp_chk (by omega) (wp_ite (fun q => ?_) (fun q => ?_))
    · unfold f_M_shallow_b39
      exact wp_ite (fun q2 => wp_some (Or.inl rfl)) (fun q2 => wp_some (Or.inr rfl))
    · rcases c with c | c
      · exact absurd c q
      · have ed := idiv_2 c.1.1 (by omega)
        rw [ed]
        refine wp_chk (by omega) (wp_chk (by omega) (wp_chk (by omega) (wp_chk (by decide) (wp_chk (by omega) (wp_sub ?_)))))
        exact ih γ (x3 + 1) _ h1 (by omega) (by omega) (by omega) (by omega) (by omega)
theorem w_shallow {γ : St} {v : Int} (h : DcI γ) (h2 : γ 4 (γ 0 18) ≤ v) (h3 : v < γ 0 19) : wp (f_M_shallow γ v) (fun z => z = (.inr 0, γ) ∨ z = (.inl (3, γ 0 7), γ)) := by
  have := FU_v
  have ⟨a1, a2, a3, a4, a5, a6, a7⟩ := h
  unfold f_M_shallow
  exact w_shallow_L4 FU γ 0 v h h2 h3 (by omega) (by omega) (by omega)
