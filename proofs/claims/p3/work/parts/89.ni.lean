/-! the class's nodes: declarations -/
def CoI (γ : St) : Prop := (0 ≤ γ 4 4 ∧ γ 4 4 ≤ γ 1 6) ∧ (0 ≤ γ 4 10 ∧ γ 4 10 ≤ γ 4 4) ∧ (0 ≤ γ 4 12 ∧ γ 4 12 ≤ γ 1 6) ∧ Pf γ (γ 4 4) = γ 4 10 ∧ (∀ e, 0 ≤ e → e + 1 < γ 4 10 → γ 43 (e + 1) = γ 44 e) ∧ ((0 < γ 4 10 → γ 44 (γ 4 10 - 1) = γ 4 4) ∧ ∀ e, 0 ≤ e → e < γ 4 10 → γ 43 e ≤ γ 44 e)
def FzI (γ : St) (B E : Int) : Prop := ∀ n, 0 ≤ n → n < γ 3 9 → NdC γ n ∧ γ 25 n + γ 28 n ≤ B ∧ γ 29 n + γ 30 n ≤ E
def CuI (γ : St) (N : Int) : Prop := (0 ≤ γ 24 N ∧ γ 24 N < γ 2 8) ∧ (0 ≤ γ 26 N ∧ 0 ≤ γ 27 N ∧ γ 26 N + γ 27 N ≤ γ 28 N) ∧ (0 ≤ γ 29 N ∧ γ 29 N ≤ γ 4 10) ∧ (∀ v, 0 ≤ v → v < γ 28 N → VrI γ (γ 25 N) v ∧ 0 ≤ γ 36 (γ 25 N + v) ∧ γ 36 (γ 25 N + v) ≤ γ 4 12) ∧ ∀ e, γ 29 N ≤ e → e < γ 4 10 → EqC γ N e
/-- within a node -/
def NI (γ : St) : Prop := TkR γ ∧ NdV γ ∧ CoI γ ∧ FzI γ (γ 25 (γ 3 9)) (γ 29 (γ 3 9)) ∧ CuI γ (γ 3 9)
theorem CoI.ext {γ γ' : St} (h : CoI γ) (e : ∀ j k, (j = 4 ∨ j = 40 ∨ j = 43 ∨ j = 44) → γ' j k = γ j k) (h6 : γ 1 6 ≤ γ' 1 6) : CoI γ' := by
  have ⟨a1, a2, a3, a4, a5, a6⟩ := h
  have b4 := e 4 4 (by omega)
  have b10 := e 4 10 (by omega)
  have b12 := e 4 12 (by omega)
  refine ⟨by omega, by omega, by omega, ?_, fun x h1 h2 => ?_, fun h1 => ?_, fun x h1 h2 => ?_⟩
  · rw [b4, b10, Pf_ext (γ := γ) (fun i _ _ => e 40 i (by omega))]; exact a4
  · rw [e 43 _ (by omega), e 44 _ (by omega)]; exact a5 x h1 (by omega)
  · rw [b4, b10, e 44 _ (by omega)]; exact a6.1 (by omega)
  · rw [e 43 _ (by omega), e 44 _ (by omega)]; exact a6.2 x h1 (by omega)
theorem FzI.ext {γ γ' : St} {B E : Int} (h : FzI γ B E) (e9 : γ' 3 9 = γ 3 9) (e1 : ∀ j k, 25 ≤ j → j ≤ 32 → k < γ 3 9 → γ' j k = γ j k) (e2 : ∀ j k, (j = 34 ∨ j = 35) → k < B → γ' j k = γ j k) (e3 : ∀ j k, (j = 4 ∨ 38 ≤ j ∧ j ≤ 41 ∨ 43 ≤ j ∧ j ≤ 47) → γ' j k = γ j k) : FzI γ' B E := by
  intro n h1 h2
  have ⟨w, w2⟩ := h n h1 (by omega)
  refine ⟨w.ext h1 (fun j k q1 q2 q3 q4 => e1 j k q1 q2 (by omega)) (fun j k q1 q2 => e2 j k q1 (by omega)) (fun j k q1 q2 q3 => e3 j k (by omega)) (fun k q => e3 41 k (by omega)) (fun j k q1 q2 q3 => e3 j k (by omega)) (fun k q => e3 47 k (by omega)) (Int.le_of_eq (e3 4 4 (by omega)).symm) (Int.le_of_eq (e3 4 10 (by omega)).symm) (Int.le_of_eq (e3 4 12 (by omega)).symm), ?_⟩
  rw [e1 25 n (by omega) (by omega) (by omega), e1 28 n (by omega) (by omega) (by omega), e1 29 n (by omega) (by omega) (by omega), e1 30 n (by omega) (by omega) (by omega)]
  exact w2
theorem CuI.ext {γ γ' : St} {N : Int} (h : CuI γ N) (e8 : γ' 2 8 = γ 2 8) (e1 : ∀ j, 24 ≤ j → j ≤ 29 → γ' j N = γ j N) (e2 : ∀ j k, 34 ≤ j → j ≤ 36 → γ' j k = γ j k) (e3 : ∀ j k, (j = 4 ∨ 38 ≤ j ∧ j ≤ 41 ∨ 43 ≤ j ∧ j ≤ 47) → γ' j k = γ j k) : CuI γ' N := by
  have ⟨a1, a2, a3, a4, a5⟩ := h
  have b10 := e3 4 10 (by omega)
  have b24 := e1 24 (by omega) (by omega)
  have b25 := e1 25 (by omega) (by omega)
  have b26 := e1 26 (by omega) (by omega)
  have b27 := e1 27 (by omega) (by omega)
  have b28 := e1 28 (by omega) (by omega)
  have b29 := e1 29 (by omega) (by omega)
  refine ⟨by omega, by omega, by omega, fun v h1 h2 => ?_, fun e h1 h2 => ?_⟩
  · unfold VrI
    rw [b25, e2 34 _ (by omega) (by omega), e2 35 _ (by omega) (by omega), e2 36 _ (by omega) (by omega), e3 4 12 (by omega)]
    exact a4 v h1 (by omega)
  · exact (a5 e (by omega) (by omega)).ext (by omega) (by omega) (Int.le_refl _) (fun j k _ _ _ => e3 j k (by omega)) (fun j _ _ => e3 j e (by omega)) (fun k _ => e3 47 k (by omega)) (Int.le_of_eq (e3 4 4 (by omega)).symm) (Int.le_of_eq (e3 4 12 (by omega)).symm)
theorem NI.ext {γ γ' : St} (h : NI γ) (hT : TkR γ') (e : ∀ j k, (j = 2 ∧ k = 8 ∨ j = 3 ∨ j = 4 ∨ 21 ≤ j ∧ j ≤ 32 ∨ 34 ≤ j ∧ j ≤ 36 ∨ 38 ≤ j ∧ j ≤ 41 ∨ 43 ≤ j ∧ j ≤ 47) → γ' j k = γ j k) (h6 : γ 1 6 ≤ γ' 1 6) : NI γ' := by
  have ⟨a1, a2, a3, a4, a5⟩ := h
  have b9 := e 3 9 (by omega)
  refine ⟨hT, a2.ext (fun j k q => e j k (by omega)), a3.ext (fun j k q => e j k (by omega)) h6, ?_, ?_⟩
  · rw [b9, e 25 _ (by omega), e 29 _ (by omega)]
    exact a4.ext b9 (fun j k _ _ _ => e j k (by omega)) (fun j k _ _ => e j k (by omega)) (fun j k _ => e j k (by omega))
  · rw [b9]
    exact a5.ext (e 2 8 (by omega)) (fun j _ _ => e j _ (by omega)) (fun j k _ _ => e j k (by omega)) (fun j k _ => e j k (by omega))
theorem NI.fr {γ γ' : St} (h : NI γ) (hT : TkR γ') (hF : FrC γ γ') (h6 : γ 1 6 ≤ γ' 1 6) : NI γ' := h.ext hT (fun j k q => hF j k (by omega)) h6
/-- what reading never changes -/
def FrX (γ γ' : St) : Prop := ∀ j k, (j = 0 ∨ 8 ≤ j ∧ j < 21 ∨ 53 < j) → γ' j k = γ j k
theorem FrX.rf {γ : St} : FrX γ γ := fun _ _ _ => rfl
theorem FrX.tr {a b c : St} (h : FrX a b) (k : FrX b c) : FrX a c := fun j i q => (k j i q).trans (h j i q)
theorem FrC.X {a b : St} (h : FrC a b) : FrX a b := fun j k q => h j k (by omega)
theorem FrR.X {a b : St} (h : FrR a b) : FrX a b := fun j k q => h.1 j k (by omega) (by omega) (by omega) (by omega)
def FrD (γ γ' : St) : Prop := FrX γ γ' ∧ γ 1 6 ≤ γ' 1 6 ∧ (∀ j k, (j = 1 ∧ k = 5 ∨ j = 3 ∧ k = 9 ∨ j = 4 ∨ 24 ≤ j ∧ j ≤ 27 ∨ 29 ≤ j ∧ j ≤ 32 ∨ 38 ≤ j) → γ' j k = γ j k) ∧ γ 28 (γ 3 9) ≤ γ' 28 (γ 3 9)
theorem FrD.rf {γ : St} : FrD γ γ := ⟨FrX.rf, Int.le_refl _, fun _ _ _ => rfl, Int.le_refl _⟩
theorem FrD.tr {a b c : St} (h : FrD a b) (k : FrD b c) : FrD a c := by
  have e := h.2.2.1 3 9 (by omega)
  refine ⟨h.1.tr k.1, Int.le_trans h.2.1 k.2.1, fun j i q => (k.2.2.1 j i q).trans (h.2.2.1 j i q), ?_⟩
  have q := k.2.2.2
  rw [e] at q
  exact Int.le_trans h.2.2.2 q
theorem FrC.D {a b : St} (h : FrC a b) (h6 : a 1 6 ≤ b 1 6) : FrD a b := ⟨h.X, h6, fun j k q => h j k (by omega), Int.le_of_eq (h 28 _ (by omega)).symm⟩
def DrP (γ : St) (z : Int × St) : Prop := NI z.2 ∧ FrD γ z.2 ∧ (z.1 = 0 ∧ z.2 1 7 ≠ 0 ∨ z.1 = 1 ∧ z.2 1 7 = γ 1 7)
theorem DrP.mk {γ γ' : St} {r : Int} (h : NI γ') (hF : FrD γ γ') (hr : r = 0 ∧ γ' 1 7 ≠ 0 ∨ r = 1 ∧ γ' 1 7 = γ 1 7) : DrP γ (r, γ') := ⟨h, hF, hr⟩
theorem DrP.pre {γ γ' : St} {z : Int × St} (h : DrP γ' z) (hF : FrD γ γ') (h7 : γ' 1 7 = γ 1 7) : DrP γ z := ⟨h.1, hF.tr h.2.1, by rw [← h7]; exact h.2.2⟩
theorem NI.fail {γ : St} {a : Int} (h : NI γ) (ha : a ≠ 0) : DrP γ (0, failS γ a) := by
  have ⟨f1, f2, f3, f4⟩ := fail_T (a := a) h.1 ha
  exact ⟨h.fr f1 f2 (Int.le_of_eq f3.symm), f2.D (Int.le_of_eq f3.symm), Or.inl ⟨rfl, f4⟩⟩
theorem w_dfail {γ : St} {a : Int} (h : NI γ) (ha : a ≠ 0) : wp (bndN (f_Tk_fail γ a) fun r γ' => some (r, γ')) (DrP γ) := wp_bs (fail_eq h.1) (wp_some (h.fail ha))
theorem w_dexp {γ : St} {a : Int} (h : NI γ) (ha : a ≠ 0) : wp (f_Tk_expect γ a) (DrP γ) := by
  refine wp_mono (w_Tk_expect h.1 ha) (fun z hz => ?_)
  obtain ⟨z1, z2, z3⟩ := hz
  have z6 : γ 1 6 ≤ z.2 1 6 := by omega
  exact ⟨h.fr z1 z2 z6, z2.D z6, by omega⟩
theorem NI.step {γ : St} (h : NI γ) (hk : γ 14 (γ 1 6) ≠ 0) : NI (stepS γ) ∧ FrD γ (stepS γ) ∧ stepS γ 1 7 = γ 1 7 ∧ stepS γ 1 6 = γ 1 6 + 1 := by
  have ⟨s1, s2⟩ := step_T h.1 hk
  have s6 : stepS γ 1 6 = γ 1 6 + 1 := by rw [stepS_v]; simp
  exact ⟨h.fr s1 s2 (by omega), s2.D (by omega), by rw [stepS_v]; simp, s6⟩
/-- a new name -/
def newS (γ : St) : St := setA (setA (setA (setA (setA (setA (setA (setA (setA γ 22 (γ 16 (γ 1 6)) (γ 3 9 + 1)) 34 (γ 3 15) (-1)) 35 (γ 3 15) 0) 36 (γ 3 15) 0) 37 (γ 3 15) 0) 3 15 (γ 3 15 + 1)) 28 (γ 3 9) (γ 28 (γ 3 9) + 1)) 21 (γ 16 (γ 1 6)) (γ 28 (γ 3 9))) 1 6 (γ 1 6 + 1)
theorem newS_v (γ : St) (j : Nat) (k : Int) : newS γ j k = if j = 1 ∧ k = 6 then γ 1 6 + 1 else if j = 21 ∧ k = γ 16 (γ 1 6) then γ 28 (γ 3 9) else if j = 28 ∧ k = γ 3 9 then γ 28 (γ 3 9) + 1 else if j = 3 ∧ k = 15 then γ 3 15 + 1 else if j = 37 ∧ k = γ 3 15 then 0 else if j = 36 ∧ k = γ 3 15 then 0 else if j = 35 ∧ k = γ 3 15 then 0 else if j = 34 ∧ k = γ 3 15 then -1 else if j = 22 ∧ k = γ 16 (γ 1 6) then γ 3 9 + 1 else γ j k := by simp [newS, stA]
set_option maxHeartbeats 1000000 in
theorem NI.new {γ : St} (h : NI γ) (hk : γ 14 (γ 1 6) = 2) (h28 : γ 28 (γ 3 9) ≠ 99) : DrP γ (1, newS γ) := by
  have ⟨hT, hV, hC, hZ, hU⟩ := h
  have ⟨v1, v2, v3, v4, v5⟩ := hV
  have wd := hT.wd hk
  have s0 := newS_v γ
  generalize newS γ = γs at *
  have b9 : γs 3 9 = γ 3 9 := by rw [s0]; simp
  have b15 : γs 3 15 = γ 3 15 + 1 := by rw [s0]; simp
  have b28 : γs 28 (γ 3 9) = γ 28 (γ 3 9) + 1 := by rw [s0]; simp
  have b25 : γs 25 (γ 3 9) = γ 25 (γ 3 9) := by rw [s0]; simp
  have b16 : γs 1 6 = γ 1 6 + 1 := by rw [s0]; simp
  have b17 : γs 1 7 = γ 1 7 := by rw [s0]; simp
  have b2 : γs 2 8 = γ 2 8 := by rw [s0]; simp
  refine DrP.mk ⟨?_, ?_, ?_, ?_, ?_⟩ ⟨?_, ?_, ?_, ?_⟩ (Or.inr ⟨rfl, b17⟩)
  · refine (step_T hT (by omega)).1.ext (fun j k hj => ?_)
    by_cases q : j = 1 ∧ k = 6
    · rw [s0, stepS_v, if_pos q, if_pos q]
    · rw [s0, stepS_v, if_neg q, if_neg q]; repeat rw [if_neg (by omega)]
  · refine ⟨by omega, by rw [b9, b25]; exact v2, by rw [b9, b28]; omega, by rw [b9, b25, b28, b15]; omega, fun w h1 h2 => ?_⟩
    rw [b2] at h2
    have v6 := v5 w h1 h2
    have e23 : γs 23 w = γ 23 w := by rw [s0]; simp
    rw [b9, b28, e23]
    by_cases q : w = γ 16 (γ 1 6)
    · have e22 : γs 22 w = γ 3 9 + 1 := by rw [s0, q]; simp
      have e21 : γs 21 w = γ 28 (γ 3 9) := by rw [s0, q]; simp
      omega
    · have e22 : γs 22 w = γ 22 w := by rw [s0]; simp [q]
      have e21 : γs 21 w = γ 21 w := by rw [s0]; simp [q]
      omega
  · exact hC.ext (fun j k q => by rw [s0]; repeat rw [if_neg (by omega)]) (by omega)
  · rw [b9, b25, show γs 29 (γ 3 9) = γ 29 (γ 3 9) by rw [s0]; simp]
    exact hZ.ext b9 (fun j k q1 q2 q3 => by rw [s0]; repeat rw [if_neg (by omega)]) (fun j k q1 q2 => by rw [s0]; repeat rw [if_neg (by omega)]) (fun j k q => by rw [s0]; repeat rw [if_neg (by omega)])
  · rw [b9]
    have ⟨a1, a2, a3, a4, a5⟩ := hU
    have c24 : γs 24 (γ 3 9) = γ 24 (γ 3 9) := by rw [s0]; simp
    have c26 : γs 26 (γ 3 9) = γ 26 (γ 3 9) := by rw [s0]; simp
    have c27 : γs 27 (γ 3 9) = γ 27 (γ 3 9) := by rw [s0]; simp
    have c29 : γs 29 (γ 3 9) = γ 29 (γ 3 9) := by rw [s0]; simp
    have c10 : γs 4 10 = γ 4 10 := by rw [s0]; simp
    have c12 : γs 4 12 = γ 4 12 := by rw [s0]; simp
    have c4 : γs 4 4 = γ 4 4 := by rw [s0]; simp
    have hc := hC.2.2.1
    refine ⟨by omega, by omega, by omega, fun v h1 h2 => ?_, fun e h1 h2 => ?_⟩
    · unfold VrI
      rw [b25, c12]
      by_cases q : v = γ 28 (γ 3 9)
      · have e34 : γs 34 (γ 25 (γ 3 9) + v) = -1 := by rw [s0, q, v4]; simp
        have e35 : γs 35 (γ 25 (γ 3 9) + v) = 0 := by rw [s0, q, v4]; simp
        have e36 : γs 36 (γ 25 (γ 3 9) + v) = 0 := by rw [s0, q, v4]; simp
        omega
      · have := a4 v h1 (by omega)
        unfold VrI at this
        rw [s0 34, s0 35, s0 36]
        repeat rw [if_neg (by omega)]
        exact this
    · exact (a5 e (by omega) (by omega)).ext (by omega) (by omega) (Int.le_refl _) (fun j k _ _ _ => by rw [s0]; repeat rw [if_neg (by omega)]) (fun j _ _ => by rw [s0]; repeat rw [if_neg (by omega)]) (fun k _ => by rw [s0]; repeat rw [if_neg (by omega)]) (by omega) (by omega)
  · intro j k q; rw [s0]; repeat rw [if_neg (by omega)]
  · omega
  · intro j k q; rw [s0]; repeat rw [if_neg (by omega)]
  · omega
set_option maxHeartbeats 1000000 in
theorem w_readNewName {γ : St} (h : NI γ) : wp (f_Nr_readNewName γ) (DrP γ) := by
  have hT := h.1
  have ⟨v1, v2, v3, v4, v5⟩ := h.2.1
  unfold f_Nr_readNewName
  refine wp_bnd (w_Tk_kindNow hT) (fun r γ1 e => ?_)
  obtain ⟨e, er⟩ := e
  have e : γ1 = γ := e
  have er : r = γ 14 (γ 1 6) := er
  subst e
  refine wp_ite (fun c => ?_) (fun c => w_dfail h (by omega))
  have hk : γ1 14 (γ1 1 6) = 2 := by omega
  have wd := hT.wd hk
  refine wp_bnd (w_Tk_itemNow hT) (fun r2 γ2 e => ?_)
  obtain ⟨e, er2⟩ := e
  have e : γ2 = γ1 := e
  have er2 : r2 = γ1 16 (γ1 1 6) := er2
  subst e
  subst er2
  refine wp_chk (by omega) (wp_chk (by omega) (wp_ite (fun c1 => ?_) (fun c1 => w_dfail h (by omega))))
  refine wp_chk (by omega) (wp_ite (fun c2 => ?_) (fun c2 => w_dfail h (by omega)))
  have w := h.new hk c2
  refine wp_chk (by omega) (wp_chk (by omega) (wp_sub ?_))
  refine wp_bs (r := γ2 28 (γ2 3 9)) (γ := setA (setA (setA (setA (setA (setA (setA γ2 22 (γ2 16 (γ2 1 6)) (γ2 3 9 + 1)) 34 (γ2 3 15) (-1)) 35 (γ2 3 15) 0) 36 (γ2 3 15) 0) 37 (γ2 3 15) 0) 3 15 (γ2 3 15 + 1)) 28 (γ2 3 9) (γ2 28 (γ2 3 9) + 1)) ?_ ?_
  · unfold f_Nd_declare
    exact some_wp (wp_chk (by simp [stA]; omega) (wp_sub (wp_chk (by simp [stA]; omega) (wp_sub (wp_chk (by simp [stA]; omega) (wp_sub (wp_chk (by simp [stA]; omega) (wp_sub (wp_chk (by simp [stA]; omega) (wp_sub (wp_chk (by simp [stA]; omega) (wp_chk (by simp [stA]; omega) (wp_chk (by simp [stA]; omega) (wp_sub (wp_chk (by simp [stA]; omega) (wp_chk (by simp [stA]; omega) (wp_some (by simp [stA]))))))))))))))))))
  · refine wp_chk (by omega) (wp_sub ?_)
    refine wp_bs (step_eq (hT.ext (fun j k h1 => by simp [stA]; grind)) (by simp [stA]; omega)) (wp_some ?_)
    simpa [newS, stepS, stA] using w
