/-! equality: a part's type, on both sides -/
theorem pq_pp {α β : Type} {o : Option α} {m : Option β} {P : α → Prop} {R : β → Prop} {Q : α → β → Prop} (h : pc o P) (g : pc m R) (k : ∀ y z, P y → R z → Q y z) : pq o m Q := fun y z e1 e2 => k y z (h y e1) (g z e2)
/-- what the checker leaves alone -/
def Fck (γ γ' : St) : Prop := ∀ j k, j ≠ 53 → j ≠ 41 → (j = 7 → k ≠ 4) → γ' j k = γ j k
theorem Fck.rf {γ : St} : Fck γ γ := fun _ _ _ _ _ => rfl
theorem Fck.tr {γ γ' γ'' : St} (h : Fck γ γ') (g : Fck γ' γ'') : Fck γ γ'' := fun j k a b c => (g j k a b c).trans (h j k a b c)
/-- what checker and judge look at -/
def CkC (γ δ : St) : Prop := (∀ v, 0 ≤ v → v < δ 0 19 → γ 34 v = δ 12 v ∧ γ 33 v = δ 14 v) ∧ (γ 7 5 = δ 4 (δ 0 18) ∧ γ 1 7 = 0 ∧ 0 ≤ δ 4 (δ 0 18)) ∧ (∀ f, 0 ≤ f → f < δ 0 18 → (γ 25 f = δ 4 f ∧ γ 26 f = δ 5 f ∧ γ 27 f = δ 6 f) ∧ 0 ≤ δ 4 f ∧ 0 ≤ δ 5 f ∧ 1 ≤ δ 6 f ∧ δ 4 f + δ 5 f + δ 6 f ≤ δ 0 19) ∧ PtR γ δ ∧ EqT γ δ
theorem CkC.fr {γ γ' δ δ' : St} {lo hi : Int} (h : CkC γ δ) (f : Fck γ γ') (g : Fk lo hi δ δ') : CkC γ' δ' := by
  have ⟨h1, ⟨h2, h3, h4⟩, h5, h6, ⟨⟨h7, h8⟩, h9, h10⟩⟩ := h
  have c : ∀ (j : Nat) (k : Int), j ≠ 53 ∧ j ≠ 41 ∧ (j = 7 → k ≠ 4) → γ' j k = γ j k := fun j k q => f j k q.1 q.2.1 q.2.2
  have d : ∀ (j : Nat) (k : Int), (j = 0 → k ≠ 42) → j ≠ 24 → j ≠ 28 → δ' j k = δ j k := fun j k q1 q2 q3 => g j k q1 (by omega) q3
  have d18 := d 0 18 (by omega) (by omega) (by omega)
  have d19 := d 0 19 (by omega) (by omega) (by omega)
  have d30 := d 0 30 (by omega) (by omega) (by omega)
  have d31 := d 0 31 (by omega) (by omega) (by omega)
  refine ⟨fun v q1 q2 => ?_, ⟨?_, ?_, ?_⟩, fun f q1 q2 => ?_, ?_, ⟨⟨?_, ?_⟩, fun k q1 q2 => ?_, fun i q1 q2 => ?_⟩⟩
  · rw [c 34 v (by omega), c 33 v (by omega), d 12 v (by omega) (by omega) (by omega), d 14 v (by omega) (by omega) (by omega)]
    exact h1 v q1 (by omega)
  · rw [c 7 5 (by omega), d18, d 4 _ (by omega) (by omega) (by omega)]; exact h2
  · rw [c 1 7 (by omega)]; exact h3
  · rw [d18, d 4 _ (by omega) (by omega) (by omega)]; exact h4
  · rw [c 25 f (by omega), c 26 f (by omega), c 27 f (by omega), d 4 f (by omega) (by omega) (by omega), d 5 f (by omega) (by omega) (by omega), d 6 f (by omega) (by omega) (by omega), d19]
    exact h5 f q1 (by omega)
  · refine ⟨⟨by rw [c 4 4 (by omega), d 0 40 (by omega) (by omega) (by omega)]; exact h6.1.1, by rw [d 0 40 (by omega) (by omega) (by omega)]; exact h6.1.2⟩, fun e q1 q2 => ?_⟩
    rw [d 0 40 (by omega) (by omega) (by omega)] at q2
    obtain ⟨a1, a2, ks, a3, a4⟩ := h6.2 e q1 q2
    refine ⟨by rw [c 38 e (by omega), d 20 e (by omega) (by omega) (by omega)]; exact a1, by rw [c 39 e (by omega), d 21 e (by omega) (by omega) (by omega)]; exact a2, ks, ?_, by rw [c 40 e (by omega)]; exact a4⟩
    rw [d 26 e (by omega) (by omega) (by omega)]
    exact a3.agree (fun y _ => d 26 y (by omega) (by omega) (by omega))
  · rw [c 4 10 (by omega), d30]; exact h7
  · rw [c 4 12 (by omega), d31]; exact h8
  · obtain ⟨a1, a2, a3, a4, a5⟩ := h9 k q1 (by omega)
    exact ⟨by rw [c 42 k (by omega), d 15 k (by omega) (by omega) (by omega)]; exact a1, by rw [c 43 k (by omega), d 19 k (by omega) (by omega) (by omega)]; exact a2, by rw [c 44 k (by omega), d 17 k (by omega) (by omega) (by omega)]; exact a3, by rw [c 45 k (by omega), d 16 k (by omega) (by omega) (by omega)]; exact a4, by rw [c 46 k (by omega), d 16 k (by omega) (by omega) (by omega), d 16 _ (by omega) (by omega) (by omega)]; exact a5⟩
  · rw [c 47 i (by omega), d 18 i (by omega) (by omega) (by omega)]
    exact h10 i q1 (by omega)
theorem ctS_4 (γ : St) (s v : Int) : ctS γ s v 7 4 = γ 7 4 - (s - 1) := by
  show (if _ then _ else _) = _
  rw [if_neg (by omega), if_pos ⟨rfl, rfl⟩]
theorem ctS_v (γ : St) (s v : Int) : ctS γ s v 53 (γ 7 4 - s) = v := by
  show (if _ then _ else _) = _
  rw [if_pos ⟨rfl, rfl⟩]
/-- what is left behind a part -/
def TyO (γ δ : St) (lo e o : Int) (y : Int × St) (z : Res) : Prop := Fck γ y.2 ∧ ((∃ k, (k = 4 ∨ k = 5) ∧ y.1 = k ∧ z.1 = .inl (k, δ 0 42)) ∨ y.1 = 0 ∧ ∃ v, (v = 0 ∨ v = 1) ∧ z = (.inr 0, setA δ 28 e v) ∧ ∃ ks', (Sg (δ 26) lo ks' (e + 1 - δ 26 e) ∧ Arr (y.2 53) (δ 28) 0 ks') ∧ (δ 20 e ≠ 3 → y.2 7 4 = ks'.length + 1 ∧ y.2 53 ks'.length = v) ∧ (δ 20 e = 3 → y.2 7 4 = ks'.length + o ∧ o = δ 6 (δ 21 e) ∧ v = δ 14 (δ 4 (δ 21 e) + δ 5 (δ 21 e)) ∧ ∀ i, 0 ≤ i → i < o → y.2 53 (ks'.length + i) = δ 14 (δ 4 (δ 21 e) + δ 5 (δ 21 e) + i)))
theorem look_pc {δ : St} {e o : Int} {ms : List Int} (ch : Ch (δ 23) (δ 22 e) ms) (h3 : δ 20 e ≠ 3) : pc (f_M_look δ e o) (LoF e δ (loK (δ 20 e) (δ 28 (δ 22 e)) (δ 28 (if 0 ≤ δ 22 e then δ 23 (δ 22 e) else -1)) (δ 28 (δ 23 (if 0 ≤ δ 22 e then δ 23 (δ 22 e) else -1))) (δ 14 (δ 4 (δ 0 18) + δ 21 e)))) := by
  unfold f_M_look
  refine pc_c (fun _ => pc_a (loL10_pc FU ms 0 _ ?_ ch))
  unfold f_M_look_b30
  refine pc_c (fun _ => pc_a (pc_i (fun q => ?_) (fun q => ?_)))
  · rw [if_pos q]; exact pc_c (fun _ => lo54_pc h3)
  · rw [if_neg q]; exact lo54_pc h3
theorem pq_tyn {γ δ : St} {nv nn lo e o : Int} {ks : List Int} (c : CkC γ δ) (b28 : ∀ v, δ 28 v = 0 ∨ δ 28 v = 1) (b14 : ∀ v, δ 14 v = 0 ∨ δ 14 v = 1) (g : Gn nv nn δ lo e) (hv : nv = δ 0 19 - δ 4 (δ 0 18)) (he : 0 ≤ e ∧ e < δ 0 40) (st : SkR 28 γ δ lo ks e) (h3 : δ 20 e ≠ 3) : pq (f_Ck_checkType γ e o) (f_M_look δ e o) (TyO γ δ lo e o) := by
  obtain ⟨ms, ch, sg, hlo, ar, wh, _, _⟩ := g
  obtain ⟨ks', ek, sk'⟩ := Sg.split _ rfl st.1 sg hlo
  obtain ⟨p1, p2, qs, p3, p4⟩ := c.2.2.2.1.2 e he.1 he.2
  have eq : qs = ms := p3.uniq sg
  subst eq
  have st2 := st.2.1
  have ar2 := st.2.2
  rw [ek] at st2 ar2
  have ar3 := Arr.app.1 ar2
  rw [List.length_append] at st2
  have k0 := wh.1
  have h43 : γ 38 e ≠ 43 := fun r => by
    rw [r] at p1
    have : kdM 43 = 3 := rfl
    omega
  have fr : ∀ s v, Fck γ (ctS γ s v) := fun s v j k q1 q2 q3 => ctS_o γ s v (by omega) (by omega)
  have b0 : (0 : Int) + (ks'.length : Int) = ks'.length := by omega
  rw [b0] at ar3
  -- what is left when all is well
  have good : ∀ s v, (v = 0 ∨ v = 1) → s = (qs.length : Int) → TyO γ δ lo e o (0, ctS γ s v) (.inr 0, setA δ 28 e v) := fun s v hv hs => by
    have e4 : γ 7 4 - s = ks'.length := by omega
    refine ⟨fr s v, Or.inr ⟨rfl, v, hv, rfl, ks', ⟨sk', ?_⟩, fun _ => ⟨?_, ?_⟩, fun r => absurd r h3⟩⟩
    · refine ar3.1.agree (fun n q1 q2 => ctS_o γ s v (by omega) (by omega)) (fun _ _ => rfl)
    · show ctS γ s v 7 4 = _
      rw [ctS_4]; omega
    · show ctS γ s v 53 ks'.length = v
      rw [← e4, ctS_v]
  have bad : ∀ s v, TyO γ δ lo e o (4, ctS γ s v) (.inl (4, δ 0 42), δ) := fun s v => ⟨fr s v, Or.inl ⟨4, Or.inl rfl, rfl, rfl⟩⟩
  have lp := look_pc (o := o) ch h3
  by_cases q0 : δ 20 e ≤ 2
  · have e0 := ar.1 q0
    have hs : γ 40 e = 0 := by omega
    refine pq_pp (ckT_0 (o := o) h43 hs) lp (fun y z hy hz => ?_)
    subst hy
    rcases kd_c p1 k0.1 with ⟨a, b⟩ | ⟨a, b⟩ | ⟨a, b⟩ | q
    · rw [a] at hz
      rw [b, if_neg (by decide), if_pos rfl]
      have hz : z = (.inr 0, setA δ 28 e 0) := hz
      rw [hz]
      exact good 0 0 (Or.inl rfl) (by omega)
    · rw [a] at hz
      have hz : z = (.inr 0, setA δ 28 e 1) := hz
      rw [if_neg (by omega), if_neg (by omega), hz]
      exact good 0 1 (Or.inr rfl) (by omega)
    · have w2 := wh.2.1 a
      rw [a] at hz
      have hz : z = (.inr 0, setA δ 28 e (δ 14 (δ 4 (δ 0 18) + δ 21 e))) := hz
      have t := (c.1 (δ 4 (δ 0 18) + δ 21 e) (by have := c.2.1.2.2; omega) (by omega)).2
      rw [b, if_pos rfl, c.2.1.1, p2, t, hz]
      exact good 0 _ (b14 _) (by omega)
    · exfalso; clear lp bad good; omega
  · have hs : γ 40 e ≠ 0 := by
      by_cases q4 : δ 20 e = 4
      · have := ar.2.2.1 q4; omega
      · by_cases q5 : δ 20 e ≤ 21
        · have := ar.2.2.2.1 (by omega); omega
        · have := ar.2.2.2.2 (by omega); omega
    have ck := ckT_n (o := o) h43 hs
    have fin : TyE (γ 38 e) (δ 20 e) (γ 40 e) (γ 53 (γ 7 4 - γ 40 e)) (γ 53 (γ 7 4 - 1)) (γ 53 (γ 7 4 - 2)) (δ 28 (if 0 ≤ δ 22 e then δ 23 (δ 22 e) else -1)) (δ 28 (δ 23 (if 0 ≤ δ 22 e then δ 23 (δ 22 e) else -1))) (δ 14 (δ 4 (δ 0 18) + δ 21 e)) → δ 28 (δ 22 e) = γ 53 (γ 7 4 - γ 40 e) → pq (f_Ck_checkType γ e o) (f_M_look δ e o) (TyO γ δ lo e o) := fun t e1 => by
      refine pq_pp ck lp (fun y z hy hz => ?_)
      subst hy
      rw [e1] at hz
      rcases t with ⟨f0, f1, f2⟩ | ⟨f0, f1⟩
      · rw [f1] at hz
        have hz : z = (.inr 0, setA δ 28 e (taK (γ 38 e) (γ 53 (γ 7 4 - 1)))) := hz
        rw [f0, hz]
        exact good _ _ f2 p4.symm
      · rw [f1] at hz
        have hz : z = (.inl (4, δ 0 42), δ) := hz
        rw [f0, hz]
        exact bad _ _
    match qs, ch, ar, p4, st2, ar3, fin with
    | [], ch, ar, p4, st2, ar3, fin => exact absurd p4.symm (by simp only [List.length_nil]; exact hs)
    | [a], ch, ar, p4, st2, ar3, fin =>
      simp only [List.length_singleton] at p4 st2
      have s1 : γ 40 e = 1 := by omega
      have t1 : γ 53 ks'.length = δ 28 a := ar3.2.1
      have e22 : δ 22 e = a := ch.1
      have k22 : 22 ≤ δ 20 e := by
        by_cases q4 : δ 20 e = 4
        · exact absurd (ar.2.2.1 q4) (by simp)
        · by_cases q5 : δ 20 e ≤ 21
          · exact absurd (ar.2.2.2.1 (by omega)) (by simp)
          · omega
      have i1 : γ 7 4 - γ 40 e = ks'.length := by omega
      have i2 : γ 7 4 - 1 = ks'.length := by omega
      refine fin ?_ (by rw [i1, t1, e22])
      rw [i1, i2, s1]
      exact ty_s1 p1 k22 (by rw [t1]; exact b28 _)
    | [a, b], ch, ar, p4, st2, ar3, fin =>
      have p4 : (2 : Int) = γ 40 e := p4
      have st2 : γ 7 4 = ((ks'.length + 2 : Nat) : Int) := st2
      have s1 : γ 40 e = 2 := by omega
      have t1 : γ 53 ks'.length = δ 28 a := ar3.2.1
      have t2 : γ 53 (ks'.length + 1) = δ 28 b := ar3.2.2.1
      have e22 : δ 22 e = a := ch.1
      have a0 := ch.2.1
      have e23 : δ 23 a = b := ch.2.2.1
      have k22 : 5 ≤ δ 20 e ∧ δ 20 e ≤ 21 := by
        by_cases q4 : δ 20 e = 4
        · exact absurd (ar.2.2.1 q4) (by simp)
        · by_cases q5 : δ 20 e ≤ 21
          · omega
          · exact absurd (ar.2.2.2.2 (by omega)) (by simp)
      have i1 : γ 7 4 - γ 40 e = ks'.length := by omega
      have i2 : γ 7 4 - 1 = ks'.length + 1 := by omega
      have i3 : (if 0 ≤ δ 22 e then δ 23 (δ 22 e) else -1) = b := by rw [e22, if_pos a0, e23]
      refine fin ?_ (by rw [i1, t1, e22])
      rw [i1, i2, s1, i3, t2]
      exact ty_s2 p1 k22.1 k22.2 (by rw [t1]; exact b28 _) (b28 _)
    | [a, b, d], ch, ar, p4, st2, ar3, fin =>
      have p4 : (3 : Int) = γ 40 e := p4
      have st2 : γ 7 4 = ((ks'.length + 3 : Nat) : Int) := st2
      have s1 : γ 40 e = 3 := by omega
      have t1 : γ 53 ks'.length = δ 28 a := ar3.2.1
      have t2 : γ 53 (ks'.length + 1) = δ 28 b := ar3.2.2.1
      have t3 : γ 53 (ks'.length + 1 + 1) = δ 28 d := ar3.2.2.2.1
      have e22 : δ 22 e = a := ch.1
      have a0 := ch.2.1
      have e23 : δ 23 a = b := ch.2.2.1
      have e24 : δ 23 b = d := ch.2.2.2.2.1
      have k4 : δ 20 e = 4 := by
        by_cases q4 : δ 20 e = 4
        · exact q4
        · by_cases q5 : δ 20 e ≤ 21
          · exact absurd (ar.2.2.2.1 (by omega)) (by simp)
          · exact absurd (ar.2.2.2.2 (by omega)) (by simp)
      have i1 : γ 7 4 - γ 40 e = ks'.length := by omega
      have i2 : γ 7 4 - 1 = ks'.length + 1 + 1 := by omega
      have i4 : γ 7 4 - 2 = ks'.length + 1 := by omega
      have i3 : (if 0 ≤ δ 22 e then δ 23 (δ 22 e) else -1) = b := by rw [e22, if_pos a0, e23]
      refine fin ?_ (by rw [i1, t1, e22])
      rw [i1, i2, i4, s1, i3, e24, t2, t3]
      rw [k4] at p1 ⊢
      exact ty_s3 p1 (by rw [t1]; exact b28 _) (b28 _) (b28 _)
    | a :: b :: d :: f :: t, ch, ar, p4, st2, ar3, fin =>
      exfalso
      by_cases q4 : δ 20 e = 4
      · have := ar.2.2.1 q4
        simp only [List.length_cons] at this
        omega
      · by_cases q5 : δ 20 e ≤ 21
        · have := ar.2.2.2.1 (by omega)
          simp only [List.length_cons] at this
          omega
        · have := ar.2.2.2.2 (by omega)
          simp only [List.length_cons] at this
          omega
