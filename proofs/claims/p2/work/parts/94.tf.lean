/-! the class's checker: types fit -/
def TyD (γ : St) (e : Int) : Prop := (∀ i, γ 43 e ≤ i → i < γ 44 e → γ 38 i = 43 → γ 40 i = γ 26 (γ 39 i) ∧ γ 27 (γ 39 i) = (if i = γ 44 e - 1 then γ 46 e else 1)) ∧ (γ 38 (γ 44 e - 1) ≠ 43 → γ 46 e = 1)
def TfP (γ0 : St) (e : Int) (z : Int × St) : Prop := FlP γ0 z ∨ z.1 = 1 ∧ FrK γ0 z.2 ∧ TyD γ0 e
theorem FrK.X {a b : St} (h : FrK a b) : FrX a b := fun j k q => h j k (by omega) (by omega)
theorem FrK.T {a b : St} (h : FrK a b) (hT : TkR a) : TkR b := hT.ext (fun j k q => h j k (by omega) (by omega))
theorem w_failAt {γ0 γ : St} {a w : Int} (hF : FrX γ0 γ) (hT : TkR γ) (ha : a ≠ 0) : wp (f_Tk_failAt γ a w) (fun z => FlP γ0 z) := wp_mono (w_Tk_failAt hT ha) (fun z hz => ⟨hz.2.2.1, hz.2.2.2.2, hF.tr hz.2.1.X⟩)
theorem w_tf_b161 {γ0 γ : St} {e f : Int} (hx : CkX γ0 e) (hF : FrK γ0 γ) (hf : f ≠ 0) : wp (f_Ck_typesFit_b161 γ e f) (TfP γ0 e) := by
  have b := hx.b
  unfold f_Ck_typesFit_b161
  refine wp_ite (fun c => absurd c hf) (fun _ => wp_chk (by omega) (wp_bnd (w_failAt hF.X (hF.T hx.1.1) hf) (fun r γ1 q => ?_)))
  have q0 : r = 0 := q.1
  exact wp_ite (fun _ => wp_some (Or.inl ⟨rfl, q.2.1, q.2.2⟩)) (fun c => absurd q0 c)
theorem tf_L75_f {γ0 γ : St} {e f x : Int} {n : Nat} (hx : CkX γ0 e) (hF : FrK γ0 γ) (hf : f ≠ 0) (hn : 0 < n) : wp (f_Ck_typesFit_L75 f_Ck_typesFit_b161 n γ e f x) (TfP γ0 e) := by
  cases n with
  | zero => exact absurd hn (by omega)
  | succ n =>
    unfold f_Ck_typesFit_L75
    exact wp_ite (fun _ => w_tf_b161 hx hF hf) (fun c => absurd hf c)
theorem w_tf_L75 {γ0 γ : St} {e : Int} (hx : CkX γ0 e) (hF : FrK γ0 γ) (ht : 0 ≤ γ 7 4 ∧ γ 7 4 ≤ 30000) (hD : γ0 46 e ≤ γ 7 4 → TyD γ0 e) : ∀ (n : Nat) (x27 : Int), 0 ≤ x27 → x27 ≤ γ 7 4 → x27 ≤ γ0 46 e → γ0 46 e - x27 < n → wp (f_Ck_typesFit_L75 f_Ck_typesFit_b161 n γ e 0 x27) (TfP γ0 e) := by
  have b := hx.b
  have v := hx.v
  have e46 := hF 46 e (by omega) (by omega)
  have e45 := hF 45 e (by omega) (by omega)
  have e5 := hF 7 5 (by omega) (by omega)
  intro n
  induction n with
  | zero => intro x27 h1 h2 h3 h4; exfalso; omega
  | succ n ih =>
    intro x27 h1 h2 h3 h4
    have hE : γ0 46 e ≤ γ 7 4 → wp (f_Ck_typesFit_b161 γ e 0) (TfP γ0 e) := by
      intro q
      unfold f_Ck_typesFit_b161
      exact wp_ite (fun _ => wp_some (Or.inr ⟨rfl, hF, hD q⟩)) (fun c => absurd rfl c)
    unfold f_Ck_typesFit_L75
    rw [e46, e45, e5]
    refine wp_ite (fun c => absurd rfl c) (fun _ => wp_chk (by omega) (wp_ite (fun c => hE (by omega)) (fun c => ?_)))
    have e47 := hF 47 (γ0 45 e + x27) (by omega) (by omega)
    have l := (hx.1.2.2.2.2.2.2.2.2 e hx.2.2.1 hx.2.2.2).2.2.2.2.1 (γ0 45 e + x27) (by omega) (by omega)
    rw [e47]
    refine wp_chk (by omega) (wp_chk (by omega) (wp_chk (by omega) (wp_chk (by omega) (wp_sub ?_))))
    have g4 : 0 < n → wp (f_Ck_typesFit_b153 (f_Ck_typesFit_L75 f_Ck_typesFit_b161 n) f_Ck_typesFit_b161 γ e x27) (TfP γ0 e) := by
      intro hn
      unfold f_Ck_typesFit_b153 f_Ck_typesFit_b154
      exact wp_chk (by omega) (tf_L75_f hx hF (by omega) hn)
    refine wp_ite (fun _ => g4 (by omega)) (fun c2 => wp_chk (by omega) (wp_chk (by omega) (wp_ite (fun _ => g4 (by omega)) (fun _ => ?_))))
    unfold f_Ck_typesFit_b154
    exact wp_chk (by omega) (ih _ (by omega) (by omega) (by omega) (by omega))
theorem tf_L30_f {γ0 γ : St} {e f x67 x68 : Int} {n : Nat} (hx : CkX γ0 e) (hF : FrK γ0 γ) (hf : f ≠ 0) (hn : 0 < n) : wp (f_Ck_typesFit_L30 f_Ck_typesFit_b72 n γ e f x67 x68) (TfP γ0 e) := by
  have := FU_v
  cases n with
  | zero => exact absurd hn (by omega)
  | succ n =>
    unfold f_Ck_typesFit_L30
    refine wp_ite (fun _ => ?_) (fun c => absurd hf c)
    unfold f_Ck_typesFit_b72
    exact tf_L75_f hx hF hf (by omega)
set_option maxHeartbeats 1000000 in
theorem w_tf_L30 {γ0 : St} {e : Int} (hx : CkX γ0 e) : ∀ (n : Nat) (γ : St) (i : Int), FrK γ0 γ → γ0 43 e ≤ i → i ≤ γ0 44 e → (i < γ0 44 e → γ 7 4 = Pf γ0 i - e) → (i = γ0 44 e → γ0 38 (γ0 44 e - 1) ≠ 43 → γ 7 4 = 1) → (0 ≤ γ 7 4 ∧ γ 7 4 ≤ 30000) → (∀ k, γ0 43 e ≤ k → k < i → γ0 38 k = 43 → γ0 40 k = γ0 26 (γ0 39 k) ∧ γ0 27 (γ0 39 k) = (if k = γ0 44 e - 1 then γ0 46 e else 1)) → γ0 44 e - i < n → wp (f_Ck_typesFit_L30 f_Ck_typesFit_b72 n γ e 0 (γ0 44 e - 1) i) (TfP γ0 e) := by
  have b := hx.b
  have := FU_v
  intro n
  induction n with
  | zero => intro γ i hF h1 h2 h3 h4 h5 h6 h7; exfalso; omega
  | succ n ih =>
    intro γ i hF h1 h2 h3 h4 h5 h6 h7
    unfold f_Ck_typesFit_L30
    refine wp_ite (fun c => absurd rfl c) (fun _ => wp_ite (fun c => ?_) (fun c => ?_))
    · have ei : i = γ0 44 e := by omega
      unfold f_Ck_typesFit_b72
      refine w_tf_L75 hx hF h5 (fun q => ⟨fun k q1 q2 => h6 k q1 (by omega), fun q1 => ?_⟩) FU 0 (by omega) h5.1 (by omega) (by omega)
      have := h4 ei q1
      omega
    · have h3 := h3 (by omega)
      have p := hx.p h1 (by omega)
      have D := hx.D h1 h2
      have pl := p.2.2.2.2
      have pn := sdK_nn p.1
      have ps := Pf_succ (γ := γ0) (k := i) (by omega)
      have key : ∀ a1, 0 ≤ a1 → a1 ≤ 10241 → (i < γ0 44 e - 1 → a1 = 1) → (i = γ0 44 e - 1 → a1 = γ0 46 e) → wp (f_Ck_typesFit_b62 (f_Ck_typesFit_L30 f_Ck_typesFit_b72 n) f_Ck_typesFit_b72 γ e (γ0 44 e - 1) i a1 i) (TfP γ0 e) := by
        intro a1 ha1 ha2 ha3 ha4
        unfold f_Ck_typesFit_b62
        refine wp_bnd (w_checkType hx hF h1 (by omega) (by omega) (by omega)) (fun r γ1 q => wp_chk (by omega) ?_)
        have qF : FrK γ0 γ1 := q.1
        rcases q.2 with q | q
        · obtain ⟨q0, q1, q2⟩ := q
          have q0 : r = 0 := q0
          have q1 : γ1 7 4 = γ 7 4 - γ0 40 i + (if γ0 38 i = 43 then a1 else 1) := q1
          rw [q0]
          have s1 : i < γ0 44 e - 1 → γ1 7 4 = Pf γ0 (i + 1) - e := by
            intro hh
            have ha := ha3 hh
            rw [ha] at q1
            have : (if γ0 38 i = 43 then (1 : Int) else 1) = 1 := by split <;> rfl
            omega
          refine ih γ1 (i + 1) qF (by omega) (by omega) (fun hh => s1 (by omega)) (fun hh hk => ?_) ?_ (fun k k1 k2 k3 => ?_) (by omega)
          · have ei : i = γ0 44 e - 1 := by omega
            rw [← ei] at hk
            rw [if_neg hk] at q1
            have eP := (hx.1.2.2.2.2.2.2.2.2 e hx.2.2.1 hx.2.2.2).2.2.1
            rw [← hh] at eP
            omega
          · have : 0 ≤ (if γ0 38 i = 43 then a1 else 1) ∧ (if γ0 38 i = 43 then a1 else 1) ≤ 10241 := by split <;> omega
            omega
          · by_cases hki : k = i
            · subst hki
              have y := q2 k3
              refine ⟨y.1, ?_⟩
              by_cases hl : k = γ0 44 e - 1
              · rw [if_pos hl, ← y.2]; exact ha4 hl
              · rw [if_neg hl, ← y.2]; exact ha3 (by omega)
            · exact h6 k k1 (by omega) k3
        · have q : r = 4 ∨ r = 5 := q
          exact tf_L30_f hx qF (by omega) (by omega)
      have e46 := hF 46 e (by omega) (by omega)
      refine wp_ite (fun c2 => key 1 (by omega) (by omega) (fun _ => rfl) (fun q => absurd q c2)) (fun c2 => wp_chk (by omega) ?_)
      rw [e46]
      exact key _ (by omega) (by omega) (by omega) (fun _ => rfl)
theorem w_typesFit {γ : St} {e : Int} (hx : CkX γ e) : wp (f_Ck_typesFit γ e) (TfP γ e) := by
  have b := hx.b
  have := FU_v
  have eP := (hx.1.2.2.2.2.2.2.2.2 e hx.2.2.1 hx.2.2.2).2.1
  unfold f_Ck_typesFit
  refine wp_sub (wp_chk (by omega) (wp_chk (by simp [stA]; omega) (wp_sub (wp_chk (by omega) (wp_sub ?_)))))
  have s74 : setA γ 7 4 0 7 4 = 0 := by rw [stA, if_pos ⟨rfl, rfl⟩]
  have s44 : setA γ 7 4 0 44 e = γ 44 e := by rw [stA, if_neg (by omega)]
  have s43 : setA γ 7 4 0 43 e = γ 43 e := by rw [stA, if_neg (by omega)]
  rw [s44, s43]
  exact w_tf_L30 hx FU _ _ FrK.rf.s4 (by omega) (by omega) (fun _ => by omega) (fun q => by omega) (by omega) (fun k q1 q2 => by omega) (by omega)
