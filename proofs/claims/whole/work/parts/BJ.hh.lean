/-! equality: a node's head, whole -/
theorem DcR.fr2 {N t : Int} {γ γ' δ δ' : St} (h : DcR N t γ δ) (l : LxR N γ' δ') (e : ∀ j k, j ≠ 1 → j ≠ 26 → j ≠ 27 → γ' j k = γ j k) (d : ∀ j k, (j ≠ 0 ∨ k < 5 ∨ 9 < k) → j ≠ 5 → j ≠ 6 → δ' j k = δ j k) : DcR N t γ' δ' := by
  have ⟨h1, h2, h3, h4, h5, h6⟩ := h
  have er : ∀ j, j ≠ 1 → j ≠ 26 → j ≠ 27 → γ' j = γ j := fun j q1 q2 q3 => funext fun k => e j k q1 q2 q3
  have dr : ∀ j, j ≠ 0 → j ≠ 5 → j ≠ 6 → δ' j = δ j := fun j q1 q2 q3 => funext fun k => d j k (by omega) q2 q3
  have d18 := d 0 18 (by omega) (by omega) (by omega)
  have d19 := d 0 19 (by omega) (by omega) (by omega)
  have d1 := d 0 1 (by omega) (by omega) (by omega)
  refine ⟨l, ?_, ?_, ?_, ?_, ?_⟩
  · unfold NmR spW at h2 ⊢
    rw [er 13 (by omega) (by omega) (by omega), er 18 (by omega) (by omega) (by omega), er 19 (by omega) (by omega) (by omega), er 22 (by omega) (by omega) (by omega), er 21 (by omega) (by omega) (by omega), er 2 (by omega) (by omega) (by omega), dr 4 (by omega) (by omega) (by omega), dr 10 (by omega) (by omega) (by omega), dr 11 (by omega) (by omega) (by omega), d18, d19, d1]
    exact h2
  · unfold NnR spW at h3 ⊢
    rw [er 13 (by omega) (by omega) (by omega), er 18 (by omega) (by omega) (by omega), er 19 (by omega) (by omega) (by omega), er 23 (by omega) (by omega) (by omega), er 2 (by omega) (by omega) (by omega), dr 2 (by omega) (by omega) (by omega), dr 3 (by omega) (by omega) (by omega), d18, d1]
    exact h3
  · unfold VrR at h4 ⊢
    rw [er 3 (by omega) (by omega) (by omega), er 25 (by omega) (by omega) (by omega), er 28 (by omega) (by omega) (by omega), dr 4 (by omega) (by omega) (by omega), d18, d19]
    exact h4
  · unfold VdR at h5 ⊢
    rw [er 34 (by omega) (by omega) (by omega), er 36 (by omega) (by omega) (by omega), er 33 (by omega) (by omega) (by omega), dr 12 (by omega) (by omega) (by omega), dr 13 (by omega) (by omega) (by omega), dr 14 (by omega) (by omega) (by omega), d19]
    exact h5
  · unfold DpR at h6 ⊢
    rw [er 35 (by omega) (by omega) (by omega), dr 12 (by omega) (by omega) (by omega), dr 4 (by omega) (by omega) (by omega), d18, d19]
    exact h6
def FcN (v0 g : Int) (γ γ' : St) : Prop := ∀ j k, (j = 1 → k < 5 ∨ 8 < k) → j ≠ 21 → j ≠ 22 → (24 ≤ j → j ≤ 29 → k ≠ g) → (33 ≤ j → j ≤ 37 → k < v0) → (j = 3 → k ≠ 15) → γ' j k = γ j k
def FgN (v0 g : Int) (δ δ' : St) : Prop := ∀ j k, (j = 0 → (k < 5 ∨ 9 < k) ∧ k ≠ 19) → (2 ≤ j → j ≤ 6 → k ≠ g) → (10 ≤ j → j ≤ 14 → k < v0) → δ' j k = δ j k
/-- within a node's head: i of its parts have come -/
def HiR (i N : Int) (γ0 δ0 γ δ : St) : Prop := (DcR N (δ 0 19) γ δ ∧ HdR γ δ) ∧ γ 29 (δ0 0 18) = γ0 4 10 ∧ FcN (δ0 0 19) (δ0 0 18) γ0 γ ∧ FgN (δ0 0 19) (δ0 0 18) δ0 δ ∧ δ0 0 19 ≤ δ 0 19 ∧ (1 ≤ i → γ 26 (δ0 0 18) = δ 5 (δ0 0 18)) ∧ (2 ≤ i → γ 27 (δ0 0 18) = δ 6 (δ0 0 18))
theorem HdR.fr {γ γ' δ δ' : St} (h : HdR γ δ) (e : ∀ j k, j = 13 ∨ j = 18 ∨ j = 19 ∨ j = 23 ∨ j = 24 ∨ j = 2 ∧ k = 8 → γ' j k = γ j k) (d : ∀ j k, j = 2 ∨ j = 3 ∨ j = 0 ∧ (k = 18 ∨ k = 1) → δ' j k = δ j k) : HdR γ' δ' := by
  unfold HdR at h ⊢
  rw [d 0 18 (by omega), d 0 1 (by omega), d 2 _ (by omega), d 3 _ (by omega), e 24 _ (by omega), e 23 _ (by omega), e 2 8 (by omega)]
  exact ⟨h.1, (spW_fr (fun k => e 13 k (by omega)) (e 18 _ (by omega)) (e 19 _ (by omega))).2 h.2.1, h.2.2⟩
theorem HiR.dg {i N : Int} {γ0 δ0 γ δ γ' δ' : St} (h : HiR i N γ0 δ0 γ δ) (k : DcQ N (δ' 0 19) γ δ γ' δ') : HiR i N γ0 δ0 γ' δ' := by
  have ⟨⟨a1, a2⟩, a3, a4, a5, a6, a7, a8⟩ := h
  have ⟨k1, e, d, k4, k5⟩ := k
  have r := a1.2.2.2.1
  have d18 : δ 0 18 = δ0 0 18 := a5 0 18 (by omega) (by omega) (by omega)
  have g : γ 3 9 = δ0 0 18 := by rw [r.1, d18]
  have v : γ 3 15 = δ 0 19 := r.2.1
  rw [g, v] at e
  refine ⟨⟨k1, a2.fr (fun j k q => e j k (by omega) (by omega) (by omega) (by omega) (by omega) (by omega)) (fun j k q => d j k (by omega) (by omega))⟩, ?_, fun j k q1 q2 q3 q4 q5 q6 => (e j k q1 q2 q3 (by omega) (by omega) q6).trans (a4 j k q1 q2 q3 q4 q5 q6), fun j k q1 q2 q3 => (d j k q1 (by omega)).trans (a5 j k q1 q2 q3), by omega, fun q => ?_, fun q => ?_⟩
  · rw [e 29 _ (by omega) (by omega) (by omega) (by omega) (by omega) (by omega)]; exact a3
  · rw [e 26 _ (by omega) (by omega) (by omega) (by omega) (by omega) (by omega), d 5 _ (by omega) (by omega)]; exact a7 q
  · rw [e 27 _ (by omega) (by omega) (by omega) (by omega) (by omega) (by omega), d 6 _ (by omega) (by omega)]; exact a8 q
theorem OuR.im {R R' : St → St → Prop} {y : Int × St} {z : Res} (h : OuR R y z) (k : ∀ γ δ, R γ δ → R' γ δ) : OuR R' y z := by
  rcases h with h | ⟨a, b, c⟩
  · exact Or.inl h
  · exact Or.inr ⟨a, b, k _ _ c⟩
theorem pq_inputs {N : Int} {γ0 δ0 γ δ : St} (h : HiR 0 N γ0 δ0 γ δ) : pq (f_Nr_readInputs γ) (ndI δ) (OuR (HiR 1 N γ0 δ0)) := by
  unfold f_Nr_readInputs ndI
  refine pq_bb (pq_groups h.1.1) (fun r γ' e δ' k => ?_) (fun r γ' x δ' k => ?_)
  · have k2 := k.er
    refine pq_cl (fun _ => pq_cl (fun _ => pq_al ?_))
    generalize hg : setA γ' 26 _ _ = γ2
    rw [k2.1]
    exact pq_some (Or.inl ⟨e.1, e.2, rfl, rfl, by show γ2 1 7 = e.1; rw [← hg, stA, if_neg (by omega)]; exact k2.2.1, by show γ2 1 8 = e.2; rw [← hg, stA, if_neg (by omega)]; exact k2.2.2.1, k2.2.2.2⟩)
  · obtain ⟨k3, k4⟩ := k.go
    subst k3
    have hh := h.dg k4.1
    have ⟨⟨a1, a2⟩, a3, a4, a5, a6, a7, a8⟩ := hh
    have r := a1.2.2.2.1
    have d18 : δ' 0 18 = δ0 0 18 := a5 0 18 (by omega) (by omega) (by omega)
    refine pq_cl (fun _ => pq_cl (fun _ => pq_al (pq_cr (fun _ => pq_cr (fun _ => pq_cr (fun _ => pq_ar ?_))))))
    have v : γ' 28 (γ' 3 9) = δ' 0 19 - δ' 4 (δ' 0 18) := by rw [r.1]; exact r.2.2.2.1
    rw [v, r.1, d18]
    rw [d18] at v
    generalize hw : δ' 0 19 - δ' 4 (δ0 0 18) = w
    have so : ∀ j k, j ≠ 26 → setA γ' 26 (δ0 0 18) w j k = γ' j k := fun j k q => by rw [stA, if_neg (by omega)]
    have do' : ∀ j k, j ≠ 5 → setA δ' 5 (δ0 0 18) w j k = δ' j k := fun j k q => by rw [stA, if_neg (by omega)]
    have e19 := do' 0 19 (by omega)
    refine pq_some (OuR.ok ⟨⟨?_, a2.fr (fun j k q => so j k (by omega)) (fun j k q => do' j k (by omega))⟩, by rw [so 29 _ (by omega)]; exact a3, fun j k q1 q2 q3 q4 q5 q6 => ?_, fun j k q1 q2 q3 => ?_, by rw [e19]; exact a6, fun _ => ?_, fun q => absurd q (by omega)⟩)
    · rw [e19]
      exact a1.fr2 (a1.1.fr (fun j k q => so j k (by omega)) (fun k _ _ => so 1 k (by omega)) (so 2 8 (by omega)) (funext fun k => do' 1 k (by omega)) (fun k _ => do' 0 k (by omega))) (fun j k q1 q2 q3 => so j k q2) (fun j k q1 q2 q3 => do' j k q2)
    · rw [stA, if_neg (by omega)]; exact a4 j k q1 q2 q3 q4 q5 q6
    · rw [stA, if_neg (by omega)]; exact a5 j k q1 q2 q3
    · rw [stA, if_pos ⟨rfl, rfl⟩, stA, if_pos ⟨rfl, rfl⟩]
theorem pq_outputs {N : Int} {γ0 δ0 γ δ : St} (h : HiR 1 N γ0 δ0 γ δ) : pq (f_Nr_readOutputs γ) (ndO δ) (OuR (HiR 2 N γ0 δ0)) := by
  unfold f_Nr_readOutputs ndO
  refine pq_bb (pq_groups h.1.1) (fun r γ' e δ' k => ?_) (fun r γ' x δ' k => ?_)
  · have k2 := k.er
    refine pq_cl (fun _ => pq_cl (fun _ => pq_cl (fun _ => pq_cl (fun _ => pq_al ?_))))
    generalize hg : setA γ' 27 _ _ = γ2
    rw [k2.1]
    exact pq_some (Or.inl ⟨e.1, e.2, rfl, rfl, by show γ2 1 7 = e.1; rw [← hg, stA, if_neg (by omega)]; exact k2.2.1, by show γ2 1 8 = e.2; rw [← hg, stA, if_neg (by omega)]; exact k2.2.2.1, k2.2.2.2⟩)
  · obtain ⟨k3, k4⟩ := k.go
    subst k3
    have hh := h.dg k4.1
    have ⟨⟨a1, a2⟩, a3, a4, a5, a6, a7, a8⟩ := hh
    have r := a1.2.2.2.1
    have d18 : δ' 0 18 = δ0 0 18 := a5 0 18 (by omega) (by omega) (by omega)
    refine pq_cl (fun _ => pq_cl (fun _ => pq_cl (fun _ => pq_cl (fun _ => pq_al (pq_cr (fun _ => pq_cr (fun _ => pq_cr (fun _ => pq_cr (fun _ => pq_cr (fun _ => pq_ar ?_))))))))))
    have v : γ' 28 (γ' 3 9) = δ' 0 19 - δ' 4 (δ' 0 18) := by rw [r.1]; exact r.2.2.2.1
    rw [v, r.1, d18, a7 (by omega)]
    generalize hw : δ' 0 19 - δ' 4 (δ0 0 18) - δ' 5 (δ0 0 18) = w
    have so : ∀ j k, j ≠ 27 → setA γ' 27 (δ0 0 18) w j k = γ' j k := fun j k q => by rw [stA, if_neg (by omega)]
    have do' : ∀ j k, j ≠ 6 → setA δ' 6 (δ0 0 18) w j k = δ' j k := fun j k q => by rw [stA, if_neg (by omega)]
    have e19 := do' 0 19 (by omega)
    refine pq_some (OuR.ok ⟨⟨?_, a2.fr (fun j k q => so j k (by omega)) (fun j k q => do' j k (by omega))⟩, by rw [so 29 _ (by omega)]; exact a3, fun j k q1 q2 q3 q4 q5 q6 => ?_, fun j k q1 q2 q3 => ?_, by rw [e19]; exact a6, fun q => ?_, fun _ => ?_⟩)
    · rw [e19]
      exact a1.fr2 (a1.1.fr (fun j k q => so j k (by omega)) (fun k _ _ => so 1 k (by omega)) (so 2 8 (by omega)) (funext fun k => do' 1 k (by omega)) (fun k _ => do' 0 k (by omega))) (fun j k q1 q2 q3 => so j k q3) (fun j k q1 q2 q3 => do' j k q3)
    · rw [stA, if_neg (by omega)]; exact a4 j k q1 q2 q3 q4 q5 q6
    · rw [stA, if_neg (by omega)]; exact a5 j k q1 q2 q3
    · rw [so 26 _ (by omega), do' 5 _ (by omega)]; exact a7 (by omega)
    · rw [stA, if_pos ⟨rfl, rfl⟩, stA, if_pos ⟨rfl, rfl⟩]
theorem HiR.tk {i N : Int} {γ0 δ0 γ δ : St} (h : HiR i N γ0 δ0 γ δ) (k0 : tK δ ≠ 0) (k3 : tK δ ≠ 3) : HiR i N γ0 δ0 (nxS γ) (tkS δ) := h.dg (by rw [tkS_o δ 0 19 (by omega)]; exact DcQ.tk h.1.1 k0 k3)
theorem PgR.fr {N : Int} {γ γ' δ δ' : St} (h : PgR N γ δ) (l : LxR N γ' δ') (e : ∀ j k, j ≠ 1 → γ' j k = γ j k) (d : ∀ j k, (j ≠ 0 ∨ k < 5 ∨ 9 < k) → δ' j k = δ j k) : PgR N γ' δ' := by
  have ⟨h1, h3, h4, h5, h6⟩ := h
  have er : ∀ j, j ≠ 1 → γ' j = γ j := fun j q => funext fun k => e j k q
  have dr : ∀ j, j ≠ 0 → δ' j = δ j := fun j q => funext fun k => d j k (by omega)
  refine ⟨l, ?_, ?_, ?_, ?_⟩
  · unfold NnR spW at h3 ⊢
    rw [er 13 (by omega), er 18 (by omega), er 19 (by omega), er 23 (by omega), er 2 (by omega), dr 2 (by omega), dr 3 (by omega), d 0 18 (by omega), d 0 1 (by omega)]
    exact h3
  · rw [er 3 (by omega), d 0 18 (by omega), d 0 19 (by omega)]
    exact h4
  · rw [er 2 (by omega), er 22 (by omega), d 0 18 (by omega)]
    exact h5
  · unfold VdR at h6 ⊢
    rw [er 34 (by omega), er 36 (by omega), er 33 (by omega), dr 12 (by omega), dr 13 (by omega), dr 14 (by omega), d 0 19 (by omega)]
    exact h6
theorem PgR.pk {N : Int} {γ δ : St} (h : PgR N γ δ) : PgR N γ (pkS δ) := h.fr h.1.pk (fun _ _ _ => rfl) (fun j k q => pkS_o δ j k q)
theorem PgR.tk {N : Int} {γ δ : St} (h : PgR N γ δ) (k0 : tK δ ≠ 0) (k3 : tK δ ≠ 3) : PgR N (nxS γ) (tkS δ) := h.fr (h.1.tk k0 k3) (fun j k q => nxS_o γ (by omega)) (fun j k q => tkS_o δ j k q)
/-- the reference's head -/
def ndF (γ : St) : Option Res :=
  bndN (f_M_is γ 0) fun r126 γ127 =>
  if r126 = 0 then
  (ndH γ127)
  else
  (if (γ127 0 18) ≠ 59 then
  (ndH γ127)
  else
  (some (.inl (3, γ127 0 7), γ127)))
theorem node_s (γ : St) : f_M_node γ = bndT (ndF γ) (fun _ δ1 => bndT (vrs δ1) (fun _ δ2 => f_M_node_b242 δ2)) := by
  unfold f_M_node ndF
  simp only [bT_N, bT_I, bT_e, b32_s]
/-- two relations in a row -/
theorem pq_h33 {N : Int} {γ δ : St} (h : PgR N γ δ) : pq (f_Nr_readHead_b33 γ) (ndH δ) (OuR (HiR 2 N γ δ)) := by
  unfold f_Nr_readHead_b33 ndH
  refine pq_bb (pq_expectW h.1 (w := 0) (c := 20) (by omega) (by decide)) (fun r γ' e δ' k => ?_) (fun r γ' x δ' k => ?_)
  · rw [if_pos k.er.1]; exact pq_some k.hand
  obtain ⟨k3, k4, k5, k6, k7⟩ := k.go
  subst k3
  subst k5
  subst k6
  have t1 : tK δ = 1 := k7.1
  have p1 := h.tk (by omega) (by omega)
  rw [if_neg (by decide)]
  refine pq_bb (pq_name p1) (fun r γ' e δ' k => ?_) (fun r γ1 x δ1 k => ?_)
  · rw [if_pos k.er.1]; exact pq_some k.hand
  obtain ⟨k3, k4, fc, fg, k29⟩ := k.go
  subst k3
  rw [if_neg (by decide)]
  have t18 := tkS_o δ 0 18 (by omega)
  have t19 := tkS_o δ 0 19 (by omega)
  have r1 := h.2.2.1.1
  have g1 : nxS γ 3 9 = δ 0 18 := by rw [nxS_o γ (by omega)]; exact r1
  have d19 : δ1 0 19 = δ 0 19 := by rw [fg 0 19 (by omega) (by omega)]; exact t19
  have hi : HiR 0 N γ δ γ1 δ1 := by
    refine ⟨k4, by rw [t18] at k29; rw [k29, nxS_o γ (by omega)], fun j k q1 q2 q3 q4 q5 q6 => ?_, fun j k q1 q2 q3 => ?_, by omega, fun q => absurd q (by omega), fun q => absurd q (by omega)⟩
    · rw [fc j k q1 (by rw [g1]; exact q4), nxS_o γ (by omega)]
    · rw [fg j k (by omega) (by rw [t18]; omega), tkS_o δ j k (by omega)]
  refine pq_bb (pq_inputs hi) (fun r γ' e δ' k => ?_) (fun r γ2 x δ2 k => ?_)
  · rw [if_pos k.er.1]; exact pq_some k.hand
  obtain ⟨k3, k4⟩ := k.go
  subst k3
  rw [if_neg (by decide)]
  refine pq_bb (pq_expectW k4.1.1.1 (w := 1) (c := 21) (by omega) (by decide)) (fun r γ' e δ' k => ?_) (fun r γ' x δ' k => ?_)
  · rw [if_pos k.er.1]; exact pq_some k.hand
  obtain ⟨k3, k8, k5, k6, k7⟩ := k.go
  subst k3
  subst k5
  subst k6
  have t1 : tK δ2 = 1 := k7.1
  rw [if_neg (by decide)]
  refine pq_bb (pq_outputs (k4.tk (by omega) (by omega))) (fun r γ' e δ' k => ?_) (fun r γ3 x δ3 k => ?_)
  · rw [if_pos k.er.1]; exact pq_some k.hand
  obtain ⟨k3, k4⟩ := k.go
  subst k3
  rw [if_neg (by decide)]
  refine pq_01 (α := Int) (pq_mono (pq_expect k4.1.1.1 (a := 59) (c := 7) rfl (by decide) (by decide) (by decide)) (fun y z k => ?_))
  exact k.im (fun γ' δ' q => by
    obtain ⟨q1, q2, q3, q4⟩ := q
    rw [q2, q3]
    exact k4.tk (by omega) (by omega))
theorem HiR.p0 {i N : Int} {γ0 δ0 γ δ : St} (h : HiR i N γ0 (pkS δ0) γ δ) : HiR i N γ0 δ0 γ δ := by
  have ⟨a1, a3, a4, a5, a6, a7, a8⟩ := h
  rw [pkS_o δ0 0 18 (by omega)] at a3 a4 a5 a7 a8
  rw [pkS_o δ0 0 19 (by omega)] at a4 a5 a6
  exact ⟨a1, a3, a4, fun j k q1 q2 q3 => (a5 j k q1 q2 q3).trans (pkS_o δ0 j k (by omega)), a6, a7, a8⟩
theorem pq_head {N : Int} {γ δ : St} (h : PgR N γ δ) : pq (f_Nr_readHead γ) (ndF δ) (OuR (HiR 2 N γ δ)) := by
  have l := h.1.1
  unfold f_Nr_readHead ndF
  refine pq_bl kind_pc (fun r γ1 e => ?_)
  cases e
  have kw := l.kw (w := 0) (by omega)
  have go : pq (f_Nr_readHead_b33 γ) (ndH (pkS δ)) (OuR (HiR 2 N γ δ)) := pq_mono (pq_h33 h.pk) (fun y z k => k.im (fun γ' δ' q => q.p0))
  refine pq_yn (w_is l.1 0) (fun q => ?_) (fun q => ?_)
  · have e := kw.2 q
    rw [if_neg (show ¬ (γ 14 (γ 1 6) ≠ 20) by omega), if_neg (show ¬ ((1 : Int) = 0) by decide), pkS_o δ 0 18 (by omega), h.2.2.1.1]
    by_cases c : δ 0 18 ≠ 59
    · rw [if_pos c, if_pos c]; exact go
    · rw [if_neg c, if_neg c]
      exact pq_fail h.1 (by decide) (pk_7 δ)
  · have e : γ 14 (γ 1 6) ≠ 20 := fun r => q (kw.1 (by omega))
    rw [if_pos e, if_pos rfl]
    exact go
