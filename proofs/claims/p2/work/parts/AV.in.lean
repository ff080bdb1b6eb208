/-! the reference's run: partOf, remember, instant -/
theorem LkM.wk {γ : St} (h : LkM γ) {x e : Int} (h0 : 0 ≤ x) (h1 : x < γ 0 50) (e0 : psN γ (γ 35 x) ≤ e) (e1 : e < peN γ (γ 35 x)) : FlV (nvN γ (γ 35 x)) (γ 29 e) := by
  obtain ⟨_, _, _, _, _, _, fl, _⟩ := (h.nd h0 h1).pt e0 e1
  exact fl
theorem w_partOf_L7 {γ0 : St} (h : LkM γ0) (b : B25 γ0) {x root : Int} (h0 : 0 ≤ x) (h1 : x < γ0 0 50) (r0 : psN γ0 (γ0 35 x) ≤ root) (r1 : root < peN γ0 (γ0 35 x)) : ∀ (n : Nat) (γ : St) (e : Int), (∀ j k, j ≠ 54 → γ j k = γ0 j k) → psN γ0 (γ0 35 x) ≤ e → root + 1 - e < n → 0 < n → wp (f_M_partOf_L7 n γ x root e) (fun z => ∀ j k, j ≠ 54 → z.2 j k = γ0 j k) := by
  have sz := (h.nd h0 h1).sz
  intro n
  induction n with
  | zero => intro γ e f q1 q2 q3; exact absurd q3 (by omega)
  | succ n ih =>
    intro γ e f q1 q2 q3
    have fl : FL γ0 γ := fun j k q4 q5 => f j k (by omega)
    have h' := h.fl fl
    have e50 := f 0 50 (by omega)
    unfold f_M_partOf_L7
    refine wp_ite (fun q => wp_chk (by omega) (wp_some f)) (fun q => ?_)
    have b42 : ∀ γ', (∀ j k, j ≠ 54 → γ' j k = γ0 j k) → wp (f_M_partOf_b42 (f_M_partOf_L7 n) γ' x root e) (fun z => ∀ j k, j ≠ 54 → z.2 j k = γ0 j k) := fun γ' f' => by
      unfold f_M_partOf_b42
      exact wp_chk (by omega) (ih γ' (e + 1) f' (by omega) (by omega) (by omega))
    refine wp_chk (by omega) (wp_ite (fun _ => b42 γ f) (fun q4 => wp_chk (by omega) ?_))
    have k0 : psN γ (γ 35 x) ≤ e := by rw [f 35 x (by omega), fl.ps]; exact q1
    have k1 : e < peN γ (γ 35 x) := by rw [f 35 x (by omega), fl.pe]; omega
    refine wp_bs (present_eq h' h0 (by omega) (h'.wk h0 (by omega) k0 k1)) (wp_ite (fun _ => b42 γ f) (fun _ => ?_))
    refine wp_bnd (w_work h' (b.fr (fun k => f 25 k (by omega))) h0 (by omega) k0 k1) (fun r γ' z => b42 γ' (fun j k q5 => ?_))
    obtain ⟨w, z⟩ := z
    have z : γ' = setA γ 54 e w := z
    rw [z, stA, if_neg (by omega)]
    exact f j k q5
theorem w_partOf {γ : St} (h : LkM γ) (b : B25 γ) {x root : Int} (h0 : 0 ≤ x) (h1 : x < γ 0 50) (r0 : psN γ (γ 35 x) ≤ root) (r1 : root < peN γ (γ 35 x)) : wp (f_M_partOf γ x root) (fun z => ∀ j k, j ≠ 54 → z.2 j k = γ j k) := by
  have := FU_v
  have nd := h.nd h0 h1
  have sz := nd.sz
  obtain ⟨ks, c1, c2, c3, _, _, _, lo, _⟩ := nd.pt r0 r1
  unfold f_M_partOf
  exact wp_chk (by omega) (wp_sub (w_partOf_L7 h b h0 h1 r0 r1 FU γ _ (fun _ _ _ => rfl) (by omega) (by omega) (by omega)))
/-- only what is remembered and the worths change -/
def F53 (γ γ' : St) : Prop := ∀ j k, j ≠ 53 → j ≠ 54 → γ' j k = γ j k
theorem F53.fl {γ γ' : St} (h : F53 γ γ') : FL γ γ' := fun j k q1 q2 => h j k (by omega) (by omega)
theorem w_remember_L34 {γ0 : St} (h : LkM γ0) (b : B25 γ0) {x k : Int} (h0 : 0 ≤ x) (h1 : x < γ0 0 50) (k1 : γ0 7 (γ0 35 x) ≤ k) (k2 : k < γ0 7 (γ0 35 x + 1)) {x231 : St → Int → Int → Int → Option (Int × St)} {Q : Int × St → Prop} (hx : ∀ γ, F53 γ0 γ → wp (x231 γ x (γ0 35 x) k) Q) : ∀ (n : Nat) (γ : St) (e : Int), F53 γ0 γ → γ0 19 k ≤ e → e ≤ γ0 17 k + 1 → γ0 17 k + 1 - e < n → wp (f_M_remember_L34 x231 n γ x (γ0 35 x) k e) Q := by
  have nd0 := h.nd h0 h1
  have sz := nd0.sz
  have eq := nd0.eq k1 k2
  have m50 := h.2.2.1
  have m52 := h.2.2.2.2.1
  have a0 := (h.2.2.2.2.2.2.2.2.1 x h0 h1).1.2.2.1
  intro n
  induction n with
  | zero => intro γ e f q1 q2 q3; exfalso; omega
  | succ n ih =>
    intro γ e f q1 q2 q3
    have fl := f.fl
    have g : ∀ j t, 2 ≤ j → j ≤ 43 → γ j t = γ0 j t := fun j t q4 q5 => fl j t q5 (by omega)
    have h' := h.fl fl
    have e50 := f 0 50 (by omega) (by omega)
    unfold f_M_remember_L34
    rw [g 17 k (by omega) (by omega)]
    refine wp_chk (by omega) (wp_ite (fun q => hx γ f) (fun q => ?_))
    have ke0 : psN γ0 (γ0 35 x) ≤ e := by omega
    have ke1 : e < peN γ0 (γ0 35 x) := by omega
    have kd := nd0.kd ke0 ke1
    have st := nd0.st ke0 ke1
    have k0 : psN γ (γ 35 x) ≤ e := by rw [g 35 x (by omega) (by omega), fl.ps]; exact ke0
    have k1 : e < peN γ (γ 35 x) := by rw [g 35 x (by omega) (by omega), fl.pe]; exact ke1
    have b225 : ∀ γ', F53 γ0 γ' → wp (f_M_remember_b225 (f_M_remember_L34 x231 n) x231 γ' x (γ0 35 x) k e) Q := fun γ' f' => by
      unfold f_M_remember_b225
      exact wp_chk (by omega) (ih γ' (e + 1) f' (by omega) (by omega) (by omega))
    have s1 : ∀ (γ' : St) i w, F53 γ0 γ' → F53 γ0 (setA γ' 53 i w) := fun γ' i w f' j t q4 q5 => by rw [stA, if_neg (by omega)]; exact f' j t q4 q5
    have sw1 : γ0 20 e = 24 ∨ γ0 20 e = 5 ∨ γ0 20 e = 25 → 0 ≤ γ0 39 x + γ0 25 e ∧ γ0 39 x + γ0 25 e < 6600 := fun q4 => by
      have s := stw_24 q4
      have t := st (by omega)
      omega
    have sw2 : γ0 20 e = 6 → 0 ≤ γ0 39 x + γ0 25 e ∧ γ0 39 x + γ0 25 e + 1 < 6600 := fun q4 => by
      have s : stw (γ0 20 e) = 2 := by rw [q4]; rfl
      have t := st (by omega)
      omega
    have b181 : ∀ γ', F53 γ0 γ' → wp (f_M_remember_b181 (f_M_remember_L34 x231 n) x231 γ' x (γ0 35 x) k e (γ0 39 x + γ0 25 e) (γ0 22 e)) Q := fun γ' f' => by
      have g' : ∀ j t, 2 ≤ j → j ≤ 43 → γ' j t = γ0 j t := fun j t q4 q5 => f'.fl j t q5 (by omega)
      unfold f_M_remember_b181
      rw [g' 20 e (by omega) (by omega), g' 23 _ (by omega) (by omega)]
      refine wp_chk (by omega) (wp_ite (fun q4 => ?_) (fun q4 => b225 γ' f'))
      have t := sw2 q4
      have c1 := kd.2.1 (by omega)
      have c2 := kd.2.2.1 (by omega) (by omega)
      exact wp_chk (by omega) (wp_chk (by omega) (wp_chk (by omega) (wp_sub (wp_chk (by omega) (wp_chk (by omega) (wp_sub (b225 _ (s1 _ _ _ (s1 _ _ _ f')))))))))
    have b140 : ∀ γ', F53 γ0 γ' → wp (f_M_remember_b140 (f_M_remember_L34 x231 n) x231 γ' x (γ0 35 x) k e (γ0 39 x + γ0 25 e) (γ0 22 e)) Q := fun γ' f' => by
      have g' : ∀ j t, 2 ≤ j → j ≤ 43 → γ' j t = γ0 j t := fun j t q4 q5 => f'.fl j t q5 (by omega)
      have fl' := f'.fl
      have hh := h.fl fl'
      unfold f_M_remember_b140
      rw [g' 20 e (by omega) (by omega)]
      refine wp_chk (by omega) (wp_ite (fun q4 => b181 γ' f') (fun q4 => ?_))
      have t := sw1 (by omega)
      have c1 := kd.2.1 (by omega)
      have p := present_eq hh h0 (by rw [f' 0 50 (by omega) (by omega)]; exact h1) (hh.wk (e := γ0 22 e) h0 (by rw [f' 0 50 (by omega) (by omega)]; exact h1) (by rw [g' 35 x (by omega) (by omega), fl'.ps]; omega) (by rw [g' 35 x (by omega) (by omega), fl'.pe]; omega))
      exact wp_chk (by omega) (wp_bs p (wp_ite (fun _ => b181 γ' f') (fun _ => wp_chk (by omega) (wp_chk (by omega) (wp_sub (b181 _ (s1 _ _ _ f')))))))
    have b121 : ∀ γ', F53 γ0 γ' → wp (f_M_remember_b121 (f_M_remember_L34 x231 n) x231 γ' x (γ0 35 x) k e (γ0 39 x + γ0 25 e) (γ0 22 e)) Q := fun γ' f' => by
      have g' : ∀ j t, 2 ≤ j → j ≤ 43 → γ' j t = γ0 j t := fun j t q4 q5 => f'.fl j t q5 (by omega)
      unfold f_M_remember_b121
      rw [g' 20 e (by omega) (by omega)]
      refine wp_chk (by omega) (wp_ite (fun q4 => b140 γ' f') (fun q4 => ?_))
      have t := sw1 (by omega)
      exact wp_chk (by omega) (wp_sub (b140 _ (s1 _ _ _ f')))
    have b25 := b e
    refine wp_chk (by omega) (wp_bs (present_eq h' h0 (by omega) (h'.wk h0 (by omega) k0 k1)) (wp_ite (fun _ => ?_) (fun _ => b225 γ f)))
    refine wp_bnd (w_work h' (b.fr (fun t => f 25 t (by omega) (by omega))) h0 (by omega) k0 k1) (fun r γ' z => ?_)
    obtain ⟨w, z⟩ := z
    have z : γ' = setA γ 54 e w := z
    have f' : F53 γ0 γ' := fun j t q4 q5 => by rw [z, stA, if_neg (by omega)]; exact f j t q4 q5
    have g' : ∀ j t, 2 ≤ j → j ≤ 43 → γ' j t = γ0 j t := fun j t q4 q5 => f'.fl j t q5 (by omega)
    rw [g' 39 x (by omega) (by omega), g' 25 e (by omega) (by omega), g' 22 e (by omega) (by omega), g' 20 e (by omega) (by omega)]
    refine wp_chk (by omega) (wp_chk (by omega) (wp_chk (by omega) (wp_sub (wp_chk (by omega) (wp_sub (wp_chk (by omega) (wp_ite (fun _ => b121 γ' f') (fun q4 => ?_))))))))
    have t := sw1 (by omega)
    have c1 := kd.2.1 (by omega)
    exact wp_chk (by omega) (wp_chk (by omega) (wp_sub (b121 _ (s1 _ _ _ f'))))
theorem w_remember_L14 {γ0 : St} (h : LkM γ0) (b : B25 γ0) {x : Int} (h0 : 0 ≤ x) (h1 : x < γ0 0 50) : ∀ (n : Nat) (γ : St) (k : Int), F53 γ0 γ → γ0 7 (γ0 35 x) ≤ k → k ≤ γ0 7 (γ0 35 x + 1) → γ0 7 (γ0 35 x + 1) - k < n → wp (f_M_remember_L14 n γ x (γ0 35 x) k) (fun z => F53 γ0 z.2) := by
  have := FU_v
  have nd0 := h.nd h0 h1
  have n60 := h.n60 h0 h1
  have sz := nd0.sz
  intro n
  induction n with
  | zero => intro γ k f q1 q2 q3; exfalso; omega
  | succ n ih =>
    intro γ k f q1 q2 q3
    have g : ∀ j t, 2 ≤ j → j ≤ 43 → γ j t = γ0 j t := fun j t q4 q5 => f.fl j t q5 (by omega)
    unfold f_M_remember_L14
    rw [g 7 _ (by omega) (by omega)]
    refine wp_chk (by omega) (wp_chk (by omega) (wp_ite (fun q => wp_some f) (fun q => ?_)))
    have eq := nd0.eq q1 (by omega)
    rw [g 19 _ (by omega) (by omega)]
    refine wp_chk (by omega) (wp_sub ?_)
    refine w_remember_L34 h b h0 h1 q1 (by omega) (fun γ' f' => ?_) FU γ _ f (Int.le_refl _) (by omega) (by omega)
    unfold f_M_remember_b231
    exact wp_chk (by omega) (ih γ' (k + 1) f' (by omega) (by omega) (by omega))
theorem w_remember {γ : St} (h : LkM γ) (b : B25 γ) {x : Int} (h0 : 0 ≤ x) (h1 : x < γ 0 50) : wp (f_M_remember γ x) (fun z => F53 γ z.2) := by
  have := FU_v
  have m50 := h.2.2.1
  have n60 := h.n60 h0 h1
  have sz := (h.nd h0 h1).sz
  unfold f_M_remember
  exact wp_chk (by omega) (wp_sub (wp_chk (by omega) (wp_sub (w_remember_L14 h b h0 h1 FU γ _ (fun _ _ _ _ => rfl) (Int.le_refl _) (by omega) (by omega)))))
/-- what a tick leaves as it was -/
def F5x (γ γ' : St) : Prop := ∀ j k, (j = 0 → k ≠ 72) → (j < 51 ∨ 55 < j) → γ' j k = γ j k
theorem F5x.fl {γ γ' : St} (h : F5x γ γ') : FL γ γ' := fun j k q1 q2 => h j k (by omega) (by omega)
theorem F5x.tr {γ γ' γ'' : St} (h : F5x γ γ') (g : F5x γ' γ'') : F5x γ γ'' := fun j k q1 q2 => (g j k q1 q2).trans (h j k q1 q2)
/-- it can run -/
def RnI (γ : St) : Prop := LkM γ ∧ B25 γ ∧ (∀ i, 0 ≤ i → i < γ 0 51 → 0 ≤ γ 48 i ∧ γ 48 i < γ 0 51) ∧ ∀ u, γ 55 u = 0 ∨ γ 55 u = 1
theorem RnI.fr {γ γ' : St} (h : RnI γ) (f : F5x γ γ') (b : ∀ u, γ' 55 u = 0 ∨ γ' 55 u = 1) : RnI γ' := by
  have ⟨h1, h2, h3, h4⟩ := h
  refine ⟨h1.fl f.fl, h2.fr (fun k => f 25 k (by omega) (by omega)), fun i q1 q2 => ?_, b⟩
  rw [f 48 i (by omega) (by omega), f 0 51 (by omega) (by omega)]
  exact h3 i q1 (by rw [f 0 51 (by omega) (by omega)] at q2; exact q2)
/-- what an instant answers -/
def InO (γ0 : St) (z : Int × St) : Prop := F5x γ0 z.2 ∧ (∀ u, z.2 55 u = 0 ∨ z.2 55 u = 1) ∧ z.2 0 72 = γ0 0 72 + 1
theorem w_instant_L269 {γ0 : St} (h : RnI γ0) (h72 : -1000000 ≤ γ0 0 72 ∧ γ0 0 72 ≤ 2000000000) : ∀ (n : Nat) (γ : St) (x : Int), F5x γ0 γ → (∀ u, γ 55 u = 0 ∨ γ 55 u = 1) → γ 0 72 = γ0 0 72 → 0 ≤ x → x ≤ γ0 0 50 → γ0 0 50 - x < n → wp (f_M_instant_L269 f_M_instant_b288 n γ x) (InO γ0) := by
  have m50 := h.1.2.2.1
  have m52 := h.1.2.2.2.2.1
  intro n
  induction n with
  | zero => intro γ x f q1 q2 q3 q4 q5; exfalso; omega
  | succ n ih =>
    intro γ x f q1 q2 q3 q4 q5
    have r := h.fr f q1
    have e50 := f 0 50 (by omega) (by omega)
    have e52 := f 0 52 (by omega) (by omega)
    unfold f_M_instant_L269
    rw [e50]
    refine wp_ite (fun q => ?_) (fun q => ?_)
    · unfold f_M_instant_b288
      rw [e52]
      refine wp_chk (by omega) (wp_sub ?_)
      have s : ∀ j k, j ≠ 52 → cpA γ 53 52 (γ0 0 52) j k = γ j k := fun j k q6 => by unfold cpA; rw [if_neg (by omega)]
      generalize cpA γ 53 52 (γ0 0 52) = γ1 at *
      rw [s 0 72 (by omega), q2]
      refine wp_chk (by omega) (wp_sub (wp_some ⟨fun j k q6 q7 => ?_, fun u => ?_, ?_⟩))
      · show setA γ1 0 72 (γ0 0 72 + 1) j k = _
        rw [stA, if_neg (by omega), s j k (by omega)]
        exact f j k q6 q7
      · show setA γ1 0 72 (γ0 0 72 + 1) 55 u = 0 ∨ setA γ1 0 72 (γ0 0 72 + 1) 55 u = 1
        rw [stA, if_neg (by omega), s 55 u (by omega)]
        exact q1 u
      · show setA γ1 0 72 (γ0 0 72 + 1) 0 72 = _
        rw [stA, if_pos ⟨rfl, rfl⟩]
    · refine wp_bnd (w_remember r.1 r.2.1 q3 (by omega)) (fun t γ' z => ?_)
      have z : F53 γ γ' := z
      exact wp_chk (by omega) (ih γ' (x + 1) (f.tr (fun j k q6 q7 => z j k (by omega) (by omega))) (fun u => by rw [z 55 u (by omega) (by omega)]; exact q1 u) (by rw [z 0 72 (by omega) (by omega)]; exact q2) (by omega) (by omega) (by omega))
theorem w_instant_b250 {γ0 γ : St} (h : RnI γ0) (h72 : -1000000 ≤ γ0 0 72 ∧ γ0 0 72 ≤ 2000000000) (f : F5x γ0 γ) (q1 : ∀ u, γ 55 u = 0 ∨ γ 55 u = 1) (q2 : γ 0 72 = γ0 0 72) : wp (f_M_instant_b250 γ) (InO γ0) := by
  have := FU_v
  have m50 := h.1.2.2.1
  have m52 := h.1.2.2.2.2.1
  have e52 := f 0 52 (by omega) (by omega)
  unfold f_M_instant_b250
  rw [e52]
  refine wp_chk (by omega) (wp_sub ?_)
  have s : ∀ j k, j ≠ 53 → cpA γ 52 53 (γ0 0 52) j k = γ j k := fun j k q6 => by unfold cpA; rw [if_neg (by omega)]
  generalize cpA γ 52 53 (γ0 0 52) = γ1 at *
  exact w_instant_L269 h h72 FU γ1 0 (f.tr (fun j k q6 q7 => s j k (by omega))) (fun u => by rw [s 55 u (by omega)]; exact q1 u) (by rw [s 0 72 (by omega)]; exact q2) (by omega) (by omega) (by omega)
theorem w_instant_L25 {γ0 : St} (h : RnI γ0) (h72 : -1000000 ≤ γ0 0 72 ∧ γ0 0 72 ≤ 2000000000) : ∀ (n : Nat) (γ : St) (i : Int), F5x γ0 γ → (∀ u, γ 55 u = 0 ∨ γ 55 u = 1) → γ 0 72 = γ0 0 72 → 0 ≤ i → i ≤ γ0 0 51 → γ0 0 51 - i < n → wp (f_M_instant_L25 f_M_instant_b250 n γ i) (InO γ0) := by
  have m51 := h.1.2.2.2.1
  have m50 := h.1.2.2.1
  have m0 := h.1.2.2.2.2.2.2.2.1
  intro n
  induction n with
  | zero => intro γ x f q1 q2 q3 q4 q5; exfalso; omega
  | succ n ih =>
    intro γ i f q1 q2 q3 q4 q5
    have ⟨l, b, o, _⟩ := h.fr f q1
    have e51 := f 0 51 (by omega) (by omega)
    have e50 := f 0 50 (by omega) (by omega)
    unfold f_M_instant_L25
    rw [e51]
    refine wp_ite (fun q => w_instant_b250 h h72 f q1 q2) (fun q => ?_)
    have ov := o i q3 (by omega)
    have ⟨i1, i2, i3, i4⟩ := l.2.2.2.2.2.2.2.2.2 (γ 48 i) ov.1 ov.2
    have nd := l.nd i1.1 i1.2
    have n60 := l.n60 i1.1 i1.2
    have sz := nd.sz
    have a := l.2.2.2.2.2.2.2.2.1 _ i1.1 i1.2
    have nv : nvN γ (γ 35 (γ 42 (γ 48 i))) = γ 4 (γ 35 (γ 42 (γ 48 i)) + 1) - γ 4 (γ 35 (γ 42 (γ 48 i))) := rfl
    have ck := nd.ck (v := γ 4 (γ 35 (γ 42 (γ 48 i))) + γ 43 (γ 48 i)) (by omega) (by omega)
    have b244 : ∀ γ', F5x γ γ' → (∀ u, γ' 55 u = 0 ∨ γ' 55 u = 1) → γ' 0 72 = γ 0 72 → wp (f_M_instant_b244 (f_M_instant_L25 f_M_instant_b250 n) f_M_instant_b250 γ' i) (InO γ0) := fun γ' f' b' c' => by
      unfold f_M_instant_b244
      exact wp_chk (by omega) (ih γ' (i + 1) (f.tr f') b' (by omega) (by omega) (by omega) (by omega))
    have fin : ∀ γ' w, (∀ j k, j ≠ 54 → γ' j k = γ j k) → wp (chk (inb (γ 48 i) 6100) (ap (setA γ' 51 (γ 48 i) w) fun γ35 => f_M_instant_b237 (f_M_instant_L25 f_M_instant_b250 n) f_M_instant_b250 γ35 i (γ 48 i))) (InO γ0) := fun γ' w f' => by
      refine wp_chk (by omega) (wp_sub ?_)
      unfold f_M_instant_b237
      refine wp_chk (by omega) (wp_sub ?_)
      have s : ∀ j k, setA (setA γ' 51 (γ 48 i) w) 55 (γ 48 i) 1 j k = if j = 55 ∧ k = γ 48 i then 1 else if j = 51 ∧ k = γ 48 i then w else γ' j k := fun j k => by rw [stA, stA]
      generalize setA (setA γ' 51 (γ 48 i) w) 55 (γ 48 i) 1 = γ2 at *
      refine b244 γ2 (fun j k q6 q7 => by rw [s, if_neg (by omega), if_neg (by omega)]; exact f' j k (by omega)) (fun u => ?_) (by rw [s, if_neg (by omega), if_neg (by omega)]; exact f' 0 72 (by omega))
      rw [s]
      by_cases q6 : u = γ 48 i
      · rw [if_pos ⟨rfl, q6⟩]; exact Or.inr rfl
      · rw [if_neg (by omega), if_neg (by omega), f' 55 u (by omega)]; exact q1 u
    refine wp_chk (by omega) (wp_sub (wp_chk (by omega) (wp_sub (wp_chk (by omega) (wp_sub (wp_chk (by omega) (wp_sub (wp_chk (by omega) (wp_chk (by omega) (wp_chk (by omega) ?_))))))))))
    refine wp_bs (present_eq l i1.1 i1.2 ck) (wp_ite (fun q6 => ?_) (fun q6 => b244 γ (fun _ _ _ _ => rfl) q1 rfl))
    refine wp_chk (by omega) (wp_chk (by omega) (wp_chk (by omega) (wp_sub (wp_chk (by omega) (wp_ite (fun q7 => ?_) (fun q7 => ?_))))))
    · refine wp_chk (by omega) (wp_ite (fun q8 => ?_) (fun q8 => ?_))
      · have x0 : 0 < γ 42 (γ 48 i) := by
          by_cases q9 : γ 42 (γ 48 i) = 0
          · have mm := l.2.2.2.2.2.2.2.1
            rw [q9, mm.2.1] at q8; omega
          · omega
        have ⟨o1, o2, o3, o4⟩ := a.2.2.1 x0
        have nd2 := l.nd (x := γ 36 (γ 42 (γ 48 i))) (by omega) (by omega)
        have sz2 := nd2.sz
        refine wp_chk (by omega) (wp_chk (by omega) (wp_bnd (w_argument nd2 o2.1 o2.2 o3 (by rw [o4]; omega) (by rw [o4]; omega)) (fun r γ2 hz => ?_)))
        obtain ⟨e2, l1, l2⟩ := hz
        have e2 : γ2 = γ := e2
        have l1 : psN γ (γ 35 (γ 36 (γ 42 (γ 48 i)))) ≤ r := l1
        have l2 : r < γ 37 (γ 42 (γ 48 i)) := l2
        subst e2
        refine wp_bnd (w_partOf l b (by omega) (by omega) l1 (by omega)) (fun r2 γ3 z => ?_)
        unfold f_M_instant_b236
        exact fin γ3 r2 z
      · unfold f_M_instant_b236
        exact wp_chk (by omega) (fin γ _ (fun _ _ _ => rfl))
    · have df := nd.df (v := γ 4 (γ 35 (γ 42 (γ 48 i))) + γ 43 (γ 48 i)) (by omega) (by omega)
      have eq := nd.eq df.1.1 df.1.2
      refine wp_chk (by omega) (wp_chk (by omega) (wp_ite (fun q8 => ?_) (fun q8 => ?_)))
      · refine wp_chk (by omega) (wp_bnd (w_partOf l b i1.1 i1.2 (by omega) eq.2.2.1) (fun r2 γ3 z => ?_))
        unfold f_M_instant_b186
        exact fin γ3 r2 z
      · have oo := output_eq l (x := γ 42 (γ 48 i)) (e := γ 17 (γ 32 (γ 4 (γ 35 (γ 42 (γ 48 i))) + γ 43 (γ 48 i)))) (i := γ 33 (γ 4 (γ 35 (γ 42 (γ 48 i))) + γ 43 (γ 48 i))) i1.1 i1.2 (by omega) eq.2.2.1 (by omega) ⟨df.2.1, df.2.2.2 (by omega)⟩
        refine wp_chk (by omega) (wp_chk (by omega) (wp_chk (by omega) (wp_chk (by omega) (wp_bs oo.1 (wp_chk (by omega) ?_)))))
        unfold f_M_instant_b186
        exact fin γ _ (fun _ _ _ => rfl)
theorem w_instant_L2 {γ0 : St} (h : RnI γ0) (h72 : -1000000 ≤ γ0 0 72 ∧ γ0 0 72 ≤ 2000000000) : ∀ (n : Nat) (γ : St) (v : Int), F5x γ0 γ → (∀ u, γ 55 u = 0 ∨ γ 55 u = 1) → γ 0 72 = γ0 0 72 → 0 ≤ v → v ≤ γ0 0 51 → γ0 0 51 - v < n → wp (f_M_instant_L2 f_M_instant_b23 n γ v) (InO γ0) := by
  have := FU_v
  have m51 := h.1.2.2.2.1
  intro n
  induction n with
  | zero => intro γ x f q1 q2 q3 q4 q5; exfalso; omega
  | succ n ih =>
    intro γ v f q1 q2 q3 q4 q5
    have e51 := f 0 51 (by omega) (by omega)
    unfold f_M_instant_L2
    rw [e51]
    refine wp_ite (fun q => ?_) (fun q => ?_)
    · unfold f_M_instant_b23
      exact w_instant_L25 h h72 FU γ 0 f q1 q2 (by omega) (by omega) (by omega)
    · refine wp_chk (by omega) (wp_sub ?_)
      have s : ∀ j k, setA γ 55 v 0 j k = if j = 55 ∧ k = v then 0 else γ j k := fun j k => by rw [stA]
      generalize setA γ 55 v 0 = γ1 at *
      refine wp_chk (by omega) (ih γ1 (v + 1) (f.tr (fun j k q6 q7 => by rw [s, if_neg (by omega)])) (fun u => ?_) (by rw [s, if_neg (by omega)]; exact q2) (by omega) (by omega) (by omega))
      rw [s]
      by_cases q6 : u = v
      · rw [if_pos ⟨rfl, q6⟩]; exact Or.inl rfl
      · rw [if_neg (by omega)]; exact q1 u
theorem w_instant {γ : St} (h : RnI γ) (h72 : -1000000 ≤ γ 0 72 ∧ γ 0 72 ≤ 2000000000) : wp (f_M_instant γ) (InO γ) := by
  have := FU_v
  have m51 := h.1.2.2.2.1
  unfold f_M_instant
  exact w_instant_L2 h h72 FU γ 0 (fun _ _ _ _ => rfl) h.2.2.2 rfl (by omega) (by omega) (by omega)
