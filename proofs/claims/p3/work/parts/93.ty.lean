/-! the class's checker: types -/
/-- the equation e of the node that is open -/
def CkX (γ : St) (e : Int) : Prop := NI γ ∧ γ 7 5 = γ 25 (γ 3 9) ∧ γ 29 (γ 3 9) ≤ e ∧ e < γ 4 10
theorem CkX.b {γ : St} {e : Int} (h : CkX γ e) : (0 ≤ γ 43 e ∧ γ 43 e < γ 44 e ∧ γ 44 e ≤ 10240) ∧ (0 ≤ e ∧ e < 10240) ∧ (0 ≤ γ 45 e ∧ 1 ≤ γ 46 e ∧ γ 45 e + γ 46 e ≤ 10240) := by
  have ⟨⟨hT, hV, hC, hZ, hU⟩, h5, h1, h2⟩ := h
  have t1 := hT.1.2.1
  have t2 := hT.2.1
  have c1 := hC.1
  have c2 := hC.2.1
  have c3 := hC.2.2.1
  have u3 := hU.2.2.1
  have q := hU.2.2.2.2 e h1 h2
  have q1 := q.1
  have q4 := q.2.2.2.1
  omega
theorem CkX.p {γ : St} {e i : Int} (h : CkX γ e) (h1 : γ 43 e ≤ i) (h2 : i < γ 44 e) : PtI γ (γ 3 9) (γ 28 (γ 3 9)) e i := (h.1.2.2.2.2.2.2.2.2 e h.2.2.1 h.2.2.2).2.2.2.2.2 i h1 h2
theorem CkX.D {γ : St} {e i : Int} (h : CkX γ e) (h1 : γ 43 e ≤ i) (h2 : i ≤ γ 44 e) : Pf γ i - e ≤ 10240 := by
  have b := h.b
  have q := h.1.2.2.2.2.2.2.2.2 e h.2.2.1 h.2.2.2
  have p := Pf_le (γ := γ) b.1.1 h1 (fun k q1 q2 => sdK_nn (h.p q1 (by omega)).1)
  have q2 := q.2.1
  omega
theorem CkX.v {γ : St} {e : Int} (h : CkX γ e) : (0 ≤ γ 3 9 ∧ γ 3 9 < 59) ∧ (0 ≤ γ 7 5 ∧ γ 7 5 ≤ 99 * γ 3 9) ∧ (0 ≤ γ 28 (γ 3 9) ∧ γ 28 (γ 3 9) ≤ 99) := by
  have ⟨v1, v2, v3, v4, v5⟩ := h.1.2.1
  have := h.2.1
  omega
/-- the checker's stack changes alone -/
def FrK (γ γ' : St) : Prop := ∀ j k, (j ≠ 7 ∨ k ≠ 4) → j ≠ 53 → γ' j k = γ j k
theorem FrK.rf {γ : St} : FrK γ γ := fun _ _ _ _ => rfl
theorem FrK.tr {a b c : St} (h : FrK a b) (k : FrK b c) : FrK a c := fun j i q1 q2 => (k j i q1 q2).trans (h j i q1 q2)
theorem FrK.s4 {γ0 γ : St} {v : Int} (h : FrK γ0 γ) : FrK γ0 (setA γ 7 4 v) := fun j k q1 q2 => by rw [stA, if_neg (by omega)]; exact h j k q1 q2
theorem FrK.s53 {γ0 γ : St} {i v : Int} (h : FrK γ0 γ) : FrK γ0 (setA γ 53 i v) := fun j k q1 q2 => by rw [stA, if_neg (by omega)]; exact h j k q1 q2
theorem w_checkCall_L121 {γ0 : St} {x1 x2 x3 : Int} (h1 : x1 ≤ 10241) (h2 : 0 ≤ x2 ∧ 0 ≤ x3 ∧ x3 + x2 + x1 ≤ 5841) : ∀ (n : Nat) (γ : St) (x4 : Int), FrK γ0 γ → 0 ≤ x4 → x4 ≤ x1 → (0 ≤ γ 7 4 ∧ γ 7 4 + (x1 - x4) ≤ 30000) → x1 - x4 < n → wp (f_Ck_checkCall_L121 n γ x1 x2 x3 x4) (fun z => z.1 = 0 ∧ FrK γ0 z.2 ∧ z.2 7 4 = γ 7 4 + (x1 - x4)) := by
  intro n
  induction n with
  | zero => intro γ x4 hF h3 h4 h5 h6; exfalso; omega
  | succ n ih =>
    intro γ x4 hF h3 h4 h5 h6
    unfold f_Ck_checkCall_L121
    refine wp_ite (fun c => wp_some ⟨rfl, hF, by show γ 7 4 = _; omega⟩) (fun c => ?_)
    refine wp_chk (by omega) (wp_chk (by omega) (wp_chk (by omega) (wp_chk (by omega) (wp_sub (wp_chk (by simp [stA]; omega) (wp_sub (wp_chk (by omega) ?_)))))))
    refine wp_mono (ih _ _ (FrK.s4 hF.s53) (by omega) (by omega) (by simp [stA]; omega) (by omega)) (fun z hz => ⟨hz.1, hz.2.1, ?_⟩)
    have := hz.2.2
    simp [stA] at this
    omega
theorem w_checkCall_L75 {γ : St} {x20 x21 x22 : Int} {Q : Int × St → Prop} (hE : wp (f_Ck_checkCall_b118 γ x20 x21 x22) Q) (h4 : Q (4, γ)) (ht : 0 ≤ γ 7 4 ∧ γ 7 4 + x21 ≤ 32769) (h2 : 0 ≤ x22 ∧ x22 + x21 ≤ 5841) : ∀ (n : Nat) (x23 : Int), 0 ≤ x23 → x23 ≤ x21 → x21 - x23 < n → wp (f_Ck_checkCall_L75 f_Ck_checkCall_b118 n γ x20 x21 x22 x23) Q := by
  intro n
  induction n with
  | zero => intro x23 h3 h4 h5; exfalso; omega
  | succ n ih =>
    intro x23 h3 h4 h5
    unfold f_Ck_checkCall_L75
    refine wp_ite (fun _ => hE) (fun c => wp_chk (by omega) (wp_chk (by omega) (wp_chk (by omega) (wp_chk (by omega) (wp_ite (fun _ => wp_chk (by omega) (ih _ (by omega) (by omega) (by omega))) (fun _ => wp_some ‹Q (4, γ)›))))))
set_option maxHeartbeats 1000000 in
theorem w_checkCall {γ0 γ : St} {e i a1 : Int} (hx : CkX γ0 e) (hF : FrK γ0 γ) (h1 : γ0 43 e ≤ i) (h2 : i < γ0 44 e) (hk : γ0 38 i = 43) (ht : γ0 40 i ≤ γ 7 4 ∧ γ 7 4 ≤ 10241) (ha : 0 ≤ a1 ∧ a1 ≤ 10241) : wp (f_Ck_checkCall γ i a1) (fun z => FrK γ0 z.2 ∧ (z.1 = 0 ∧ z.2 7 4 = γ 7 4 - γ0 40 i + a1 ∧ γ0 40 i = γ0 26 (γ0 39 i) ∧ a1 = γ0 27 (γ0 39 i) ∨ z.1 = 4 ∨ z.1 = 5)) := by
  have b := hx.b
  have v := hx.v
  have p := hx.p h1 h2
  have pn := sdK_nn p.1
  have pc := p.2.1 hk
  have nd := (hx.1.2.2.2.1 (γ0 39 i) pc.1 pc.2).1.1
  have e39 := hF 39 i (by omega) (by omega)
  have e40 := hF 40 i (by omega) (by omega)
  have e26 := hF 26 (γ0 39 i) (by omega) (by omega)
  have e27 := hF 27 (γ0 39 i) (by omega) (by omega)
  have e25 := hF 25 (γ0 39 i) (by omega) (by omega)
  have := FU_v
  unfold f_Ck_checkCall
  refine wp_chk (by omega) (wp_sub (wp_chk (by omega) (wp_sub ?_)))
  rw [e39, e40, e26, e27]
  refine wp_chk (by omega) (wp_ite (fun _ => wp_some ⟨hF, Or.inr (Or.inr rfl)⟩) (fun c => wp_chk (by omega) (wp_ite (fun c2 => ?_) (fun _ => wp_some ⟨hF, Or.inr (Or.inr rfl)⟩))))
  have c : γ0 40 i = γ0 26 (γ0 39 i) := by omega
  refine wp_chk (by omega) (wp_sub (wp_chk (by omega) (wp_sub ?_)))
  have s25 : setA γ 7 4 (γ 7 4 - γ0 40 i) 25 (γ0 39 i) = γ0 25 (γ0 39 i) := by rw [stA, if_neg (by omega)]; exact e25
  have s74 : setA γ 7 4 (γ 7 4 - γ0 40 i) 7 4 = γ 7 4 - γ0 40 i := by rw [stA, if_pos ⟨rfl, rfl⟩]
  rw [s25]
  refine w_checkCall_L75 ?_ ⟨hF.s4, Or.inr (Or.inl rfl)⟩ (by omega) (by omega) FU 0 (by omega) (by omega) (by omega)
  unfold f_Ck_checkCall_b118
  refine wp_mono (w_checkCall_L121 (γ0 := γ0) (by omega) (by omega) FU _ 0 hF.s4 (by omega) (by omega) (by omega) (by omega)) (fun z hz => ⟨hz.2.1, Or.inl ⟨hz.1, ?_, c, c2⟩⟩)
  have := hz.2.2
  omega
theorem typeOfSides_eq (γ : St) (a0 : Int) : wp (f_Ck_typeOfSides γ a0) (fun z => z.2 = γ) := by
  unfold f_Ck_typeOfSides
  repeat (first | exact wp_some rfl | refine wp_ite (fun _ => wp_some rfl) (fun _ => ?_))
theorem typeOfAnswer_eq (γ : St) (a0 a1 : Int) : wp (f_Ck_typeOfAnswer γ a0 a1) (fun z => z.2 = γ) := by
  unfold f_Ck_typeOfAnswer
  exact wp_bs (f_S_rank_eq _ _) (wp_ite (fun _ => wp_some rfl) (fun _ => wp_some rfl))
theorem w_typeOfAtom {γ0 γ : St} {e i : Int} (hx : CkX γ0 e) (hF : FrK γ0 γ) (h1 : γ0 43 e ≤ i) (h2 : i < γ0 44 e) : wp (f_Ck_typeOfAtom γ i) (fun z => z.2 = γ) := by
  have b := hx.b
  have v := hx.v
  have p := hx.p h1 h2
  unfold f_Ck_typeOfAtom
  rw [hF 38 i (by omega) (by omega), hF 39 i (by omega) (by omega), hF 7 5 (by omega) (by omega)]
  refine wp_chk (by omega) (wp_ite (fun c => ?_) (fun _ => wp_ite (fun _ => wp_some rfl) (fun _ => wp_some rfl)))
  have := p.2.2.1 c
  exact wp_chk (by omega) (wp_chk (by omega) (wp_chk (by omega) (wp_some rfl)))
/-- one part's type -/
def TyP (γ0 γ : St) (i a1 : Int) (z : Int × St) : Prop := FrK γ0 z.2 ∧ (z.1 = 0 ∧ z.2 7 4 = γ 7 4 - γ0 40 i + (if γ0 38 i = 43 then a1 else 1) ∧ (γ0 38 i = 43 → γ0 40 i = γ0 26 (γ0 39 i) ∧ a1 = γ0 27 (γ0 39 i)) ∨ z.1 = 4 ∨ z.1 = 5)
set_option maxHeartbeats 1000000 in
theorem w_checkType {γ0 γ : St} {e i a1 : Int} (hx : CkX γ0 e) (hF : FrK γ0 γ) (h1 : γ0 43 e ≤ i) (h2 : i < γ0 44 e) (ht : γ0 40 i ≤ γ 7 4 ∧ γ 7 4 ≤ 10241) (ha : 0 ≤ a1 ∧ a1 ≤ 10241) : wp (f_Ck_checkType γ i a1) (TyP γ0 γ i a1) := by
  have b := hx.b
  have p := hx.p h1 h2
  have pn := sdK_nn p.1
  have e38 := hF 38 i (by omega) (by omega)
  have e40 := hF 40 i (by omega) (by omega)
  unfold f_Ck_checkType
  refine wp_chk (by omega) (wp_sub (wp_chk (by omega) (wp_sub ?_)))
  rw [e38, e40]
  refine wp_ite (fun c => wp_ite (fun c2 => ?_) (fun c2 => ?_)) (fun c => ?_)
  · have fin4 : ∀ γ', FrK γ0 γ' → wp (some ((4 : Int), γ')) (TyP γ0 γ i a1) := fun γ' h => wp_some ⟨h, Or.inr (Or.inl rfl)⟩
    have fin0 : ∀ γ', FrK γ0 γ' → γ' 7 4 = γ 7 4 - (γ0 40 i - 1) → wp (some ((0 : Int), γ')) (TyP γ0 γ i a1) := fun γ' h h4 => wp_some ⟨h, Or.inl ⟨rfl, by show γ' 7 4 = _; rw [if_neg c]; omega, fun q => absurd q c⟩⟩
    refine wp_chk (by omega) (wp_chk (by omega) (wp_sub (wp_chk (by omega) (wp_chk (by omega) (wp_sub (wp_chk (by omega) (wp_chk (by omega) (wp_sub ?_))))))))
    have s74 : setA γ 7 4 (γ 7 4 - (γ0 40 i - 1)) 7 4 = γ 7 4 - (γ0 40 i - 1) := by rw [stA, if_pos ⟨rfl, rfl⟩]
    rw [s74]
    refine wp_chk (by omega) (wp_bnd (typeOfAnswer_eq _ _ _) (fun r γ1 q => ?_))
    have q : γ1 = setA γ 7 4 (γ 7 4 - (γ0 40 i - 1)) := q
    subst q
    refine wp_chk (by omega) (wp_sub ?_)
    have hF2 : FrK γ0 (setA (setA γ 7 4 (γ 7 4 - (γ0 40 i - 1))) 53 (γ 7 4 - (γ0 40 i - 1) - 1) r) := FrK.s53 hF.s4
    have t74 : setA (setA γ 7 4 (γ 7 4 - (γ0 40 i - 1))) 53 (γ 7 4 - (γ0 40 i - 1) - 1) r 7 4 = γ 7 4 - (γ0 40 i - 1) := by rw [stA, if_neg (by omega)]; exact s74
    generalize setA (setA γ 7 4 (γ 7 4 - (γ0 40 i - 1))) 53 (γ 7 4 - (γ0 40 i - 1) - 1) r = γ2 at *
    refine wp_ite (fun c3 => ?_) (fun c3 => ?_)
    · refine wp_bnd (typeOfSides_eq _ _) (fun r3 γ3 q => ?_)
      have q : γ3 = γ2 := q
      subst q
      exact wp_ite (fun _ => fin4 _ hF2) (fun _ => wp_ite (fun _ => fin0 _ hF2 t74) (fun _ => wp_ite (fun _ => fin4 _ hF2) (fun _ => fin0 _ hF2 t74)))
    · exact wp_ite (fun _ => fin4 _ hF2) (fun _ => wp_chk (by omega) (wp_ite (fun _ => fin4 _ hF2) (fun _ => fin0 _ hF2 t74)))
  · refine wp_bnd (w_typeOfAtom hx hF h1 h2) (fun r γ1 q => ?_)
    have q : γ1 = γ := q
    subst q
    refine wp_chk (by omega) (wp_sub (wp_chk (by simp [stA]; omega) (wp_sub (wp_some ⟨FrK.s4 hF.s53, Or.inl ⟨rfl, ?_, fun q => absurd q c⟩⟩))))
    rw [if_neg c]
    simp [stA]
    omega
  · have c : γ0 38 i = 43 := by omega
    refine wp_id (wp_mono (w_checkCall hx hF h1 h2 c ht ha) (fun z hz => ⟨hz.1, ?_⟩))
    rw [if_pos c]
    rcases hz.2 with q | q
    · exact Or.inl ⟨q.1, q.2.1, fun _ => q.2.2⟩
    · exact Or.inr q
