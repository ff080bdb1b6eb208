/-! equality: keep, back, causes -/
section CC
variable {γ δ : St} {w a0 a1 c : Int}
theorem cpA_at {γ : St} {a b g : Nat} {n k : Int} : cpA γ a b n g k = if g = b ∧ 0 ≤ k ∧ k < n then γ a k else γ g k := rfl
theorem lkp_pc : pc (e_L_keep γ w) (fun y => (y = (1, γ, w) ∧ (γ 0 12 < 0 ∨ γ 0 13 = 0)) ∨ (y.1 = 0 ∧ (0 ≤ γ 0 12 ∧ γ 0 13 ≠ 0) ∧ ∀ j k, y.2.1 j k = if j = 0 ∧ k = 14 then γ 0 13 else if j = 77 ∧ 0 ≤ k ∧ k < γ 11 5 then γ 76 k else if j = 82 ∧ 0 ≤ k ∧ k < γ 8 11 then γ 81 k else γ j k)) := by
  unfold e_L_keep
  refine hclp (R := fun z => (0 ≤ γ 0 12 ∧ γ 0 13 ≠ 0) ∧ ∀ j k, z.2 j k = if j = 0 ∧ k = 14 then γ 0 13 else if j = 77 ∧ 0 ≤ k ∧ k < γ 11 5 then γ 76 k else if j = 82 ∧ 0 ≤ k ∧ k < γ 8 11 then γ 81 k else γ j k) (E := fun x => x = 1 ∧ (γ 0 12 < 0 ∨ γ 0 13 = 0)) ?_ ?_ (fun r γ' q => pc_s (Or.inr ⟨rfl, q⟩)) (fun x q => by rw [q.1]; exact pc_s (Or.inl ⟨rfl, q.2⟩))
  · unfold f_S_keep f_S_keep_b14
    refine pc_i (fun _ => pc_n) (fun q => pc_i (fun q2 => pc_b (P := fun z => ∀ j k, z.2 j k = if j = 77 ∧ 0 ≤ k ∧ k < γ 11 5 then γ 76 k else if j = 82 ∧ 0 ≤ k ∧ k < γ 8 11 then γ 81 k else γ j k) ?_ (fun r γ' p => pc_a (pc_s ⟨⟨by omega, q2⟩, fun j k => ?_⟩))) (fun _ => pc_n))
    · unfold f_Pg_store
      refine pc_c (fun _ => pc_a ?_)
      have hA : ∀ j k, cpA γ 81 82 (γ 8 11) j k = if j = 82 ∧ 0 ≤ k ∧ k < γ 8 11 then γ 81 k else γ j k := fun j k => rfl
      generalize cpA γ 81 82 (γ 8 11) = A at *
      refine pc_c (fun _ => pc_a (pc_s (fun j k => ?_)))
      show cpA A 76 77 (A 11 5) j k = _
      have x1 : A 11 5 = γ 11 5 := by rw [hA, if_neg (by omega)]
      have x2 : A 76 k = γ 76 k := by rw [hA, if_neg (by omega)]
      rw [cpA_at, x1, x2, hA j k]
    · have p : ∀ j k, γ' j k = if j = 77 ∧ 0 ≤ k ∧ k < γ 11 5 then γ 76 k else if j = 82 ∧ 0 ≤ k ∧ k < γ 8 11 then γ 81 k else γ j k := p
      have p13 : γ' 0 13 = γ 0 13 := by rw [p, if_neg (by omega), if_neg (by omega)]
      show setA γ' 0 14 (γ' 0 13) j k = _
      rw [stA, p13, p j k]
  · unfold g_S_keep g_S_keep_b14
    exact pc_i (fun q => pc_s ⟨rfl, Or.inl q⟩) (fun q => pc_i (fun _ => pc_n) (fun q2 => pc_s ⟨rfl, by omega⟩))
theorem lbk_pc : pc (e_L_back γ w) (fun y => (y = (1, γ, w) ∧ γ 0 14 = 0) ∨ (y.1 = 0 ∧ y.2.2 = γ 0 13 ∧ γ 0 14 ≠ 0 ∧ ∀ j k, y.2.1 j k = if j = 0 ∧ k = 13 then γ 0 14 else if j = 76 ∧ 0 ≤ k ∧ k < γ 11 5 then γ 77 k else if j = 81 ∧ 0 ≤ k ∧ k < γ 8 11 then γ 82 k else γ j k)) := by
  unfold e_L_back
  refine hclp (R := fun z => z.1 = γ 0 13 ∧ γ 0 14 ≠ 0 ∧ ∀ j k, z.2 j k = if j = 0 ∧ k = 13 then γ 0 14 else if j = 76 ∧ 0 ≤ k ∧ k < γ 11 5 then γ 77 k else if j = 81 ∧ 0 ≤ k ∧ k < γ 8 11 then γ 82 k else γ j k) (E := fun x => x = 1 ∧ γ 0 14 = 0) ?_ ?_ (fun r γ' q => pc_s (Or.inr ⟨rfl, q⟩)) (fun x q => by rw [q.1]; exact pc_s (Or.inl ⟨rfl, q.2⟩))
  · unfold f_S_back
    refine pc_i (fun q => pc_a (pc_b (P := fun z => ∀ j k, z.2 j k = if j = 76 ∧ 0 ≤ k ∧ k < γ 11 5 then γ 77 k else if j = 81 ∧ 0 ≤ k ∧ k < γ 8 11 then γ 82 k else γ j k) ?_ (fun r γ' p => pc_a (pc_s ⟨rfl, q, fun j k => ?_⟩)))) (fun _ => pc_n)
    · unfold f_Pg_recall
      refine pc_c (fun _ => pc_a ?_)
      have hA : ∀ j k, cpA γ 82 81 (γ 8 11) j k = if j = 81 ∧ 0 ≤ k ∧ k < γ 8 11 then γ 82 k else γ j k := fun j k => rfl
      generalize cpA γ 82 81 (γ 8 11) = A at *
      refine pc_c (fun _ => pc_a (pc_s (fun j k => ?_)))
      show cpA A 77 76 (A 11 5) j k = _
      have x1 : A 11 5 = γ 11 5 := by rw [hA, if_neg (by omega)]
      have x2 : A 77 k = γ 77 k := by rw [hA, if_neg (by omega)]
      rw [cpA_at, x1, x2, hA j k]
    · have p : ∀ j k, γ' j k = if j = 76 ∧ 0 ≤ k ∧ k < γ 11 5 then γ 77 k else if j = 81 ∧ 0 ≤ k ∧ k < γ 8 11 then γ 82 k else γ j k := p
      have p14 : γ' 0 14 = γ 0 14 := by rw [p, if_neg (by omega), if_neg (by omega)]
      show setA γ' 0 13 (γ' 0 14) j k = _
      rw [stA, p14, p j k]
  · unfold g_S_back
    exact pc_i (fun _ => pc_a pc_n) (fun q => pc_s ⟨rfl, by omega⟩)
def KpP (δ : St) (z : Int × St) : Prop := (z = (0, setA δ 0 2 1) ∧ (δ 0 49 < 0 ∨ δ 0 72 = 0)) ∨ ((0 ≤ δ 0 49 ∧ δ 0 72 ≠ 0) ∧ ∀ j k, z.2 j k = if j = 58 ∧ 0 ≤ k ∧ k < δ 0 51 then δ 55 k else if j = 57 ∧ 0 ≤ k ∧ k < δ 0 51 then δ 51 k else if j = 56 ∧ 0 ≤ k ∧ k < δ 0 52 then δ 52 k else if j = 0 ∧ k = 82 then δ 0 72 else if j = 0 ∧ k = 83 then 1 else δ j k)
theorem mkp_pc : pc (f_M_keep δ) (KpP (setA δ 0 2 0)) := by
  unfold f_M_keep
  refine pc_a ?_
  generalize setA δ 0 2 0 = δ1
  have bad : (δ1 0 49 < 0 ∨ δ1 0 72 = 0) → pc (f_M_keep_b21 δ1 1) (KpP δ1) := fun q => by
    unfold f_M_keep_b21 f_M_keep_b26
    rw [bndN_eq rf_1, if_neg (by decide)]
    exact pc_s (Or.inl ⟨rfl, q⟩)
  refine pc_i (fun q => bad (Or.inl q)) (fun q => pc_i (fun q2 => ?_) (fun q2 => bad (by omega)))
  unfold f_M_keep_b26
  rw [bndN_eq rf_0, if_pos rfl]
  refine pc_a (pc_a ?_)
  have hA : ∀ j k, setA (setA δ1 0 83 1) 0 82 (setA δ1 0 83 1 0 72) j k = if j = 0 ∧ k = 82 then δ1 0 72 else if j = 0 ∧ k = 83 then 1 else δ1 j k := fun j k => by
    rw [show setA δ1 0 83 1 0 72 = δ1 0 72 by rw [stA, if_neg (by omega)], stA, stA]
  generalize setA (setA δ1 0 83 1) 0 82 (setA δ1 0 83 1 0 72) = A at *
  have a0 : ∀ (j : Nat) (k : Int), (j = 0 → k ≠ 82 ∧ k ≠ 83) → A j k = δ1 j k := fun j k q => by rw [hA, if_neg (by omega), if_neg (by omega)]
  rw [a0 0 52 (by omega)]
  refine pc_c (fun _ => pc_a ?_)
  have hB : ∀ j k, cpA A 52 56 (δ1 0 52) j k = if j = 56 ∧ 0 ≤ k ∧ k < δ1 0 52 then δ1 52 k else A j k := fun j k => by rw [cpA_at, a0 52 k (by omega)]
  generalize cpA A 52 56 (δ1 0 52) = B at *
  have b0 : ∀ (j : Nat) (k : Int), (j = 0 → k ≠ 82 ∧ k ≠ 83) → j ≠ 56 → B j k = δ1 j k := fun j k q q2 => by rw [hB, if_neg (by omega), a0 j k q]
  rw [b0 0 51 (by omega) (by omega)]
  refine pc_c (fun _ => pc_a ?_)
  have hE : ∀ j k, cpA B 51 57 (δ1 0 51) j k = if j = 57 ∧ 0 ≤ k ∧ k < δ1 0 51 then δ1 51 k else B j k := fun j k => by rw [cpA_at, b0 51 k (by omega) (by omega)]
  generalize cpA B 51 57 (δ1 0 51) = E at *
  have c0 : ∀ (j : Nat) (k : Int), (j = 0 → k ≠ 82 ∧ k ≠ 83) → j ≠ 56 → j ≠ 57 → E j k = δ1 j k := fun j k q q2 q3 => by rw [hE, if_neg (by omega), b0 j k q q2]
  refine pc_c (fun _ => pc_a (pc_s (Or.inr ⟨⟨by omega, q2⟩, fun j k => ?_⟩)))
  show cpA E 55 58 (E 0 51) j k = _
  rw [cpA_at, c0 0 51 (by omega) (by omega) (by omega), c0 55 k (by omega) (by omega) (by omega), hE j k, hB j k, hA j k]
def BkP (δ : St) (z : Int × St) : Prop := (z = (0, setA δ 0 2 1) ∧ δ 0 83 = 0) ∨ (z.1 = δ 0 72 ∧ δ 0 83 ≠ 0 ∧ ∀ j k, z.2 j k = if j = 55 ∧ 0 ≤ k ∧ k < δ 0 51 then δ 58 k else if j = 51 ∧ 0 ≤ k ∧ k < δ 0 51 then δ 57 k else if j = 52 ∧ 0 ≤ k ∧ k < δ 0 52 then δ 56 k else if j = 0 ∧ k = 72 then δ 0 82 else δ j k)
theorem mbk_pc : pc (f_M_back δ) (BkP (setA δ 0 2 0)) := by
  unfold f_M_back
  refine pc_a ?_
  generalize setA δ 0 2 0 = δ1
  refine pc_i (fun q => ?_) (fun q => ?_)
  · unfold f_M_back_b19
    rw [bndN_eq rf_0, if_pos rfl]
    refine pc_a (pc_a ?_)
    have hA : ∀ j k, setA δ1 0 72 (δ1 0 82) j k = if j = 0 ∧ k = 72 then δ1 0 82 else δ1 j k := fun j k => by rw [stA]
    generalize setA δ1 0 72 (δ1 0 82) = A at *
    have a0 : ∀ (j : Nat) (k : Int), (j = 0 → k ≠ 72) → A j k = δ1 j k := fun j k q => by rw [hA, if_neg (by omega)]
    rw [a0 0 52 (by omega)]
    refine pc_c (fun _ => pc_a ?_)
    have hB : ∀ j k, cpA A 56 52 (δ1 0 52) j k = if j = 52 ∧ 0 ≤ k ∧ k < δ1 0 52 then δ1 56 k else A j k := fun j k => by rw [cpA_at, a0 56 k (by omega)]
    generalize cpA A 56 52 (δ1 0 52) = B at *
    have b0 : ∀ (j : Nat) (k : Int), (j = 0 → k ≠ 72) → j ≠ 52 → B j k = δ1 j k := fun j k q q2 => by rw [hB, if_neg (by omega), a0 j k q]
    rw [b0 0 51 (by omega) (by omega)]
    refine pc_c (fun _ => pc_a ?_)
    have hE : ∀ j k, cpA B 57 51 (δ1 0 51) j k = if j = 51 ∧ 0 ≤ k ∧ k < δ1 0 51 then δ1 57 k else B j k := fun j k => by rw [cpA_at, b0 57 k (by omega) (by omega)]
    generalize cpA B 57 51 (δ1 0 51) = E at *
    have c0 : ∀ (j : Nat) (k : Int), (j = 0 → k ≠ 72) → j ≠ 52 → j ≠ 51 → E j k = δ1 j k := fun j k q q2 q3 => by rw [hE, if_neg (by omega), b0 j k q q2]
    refine pc_c (fun _ => pc_a (pc_s (Or.inr ⟨rfl, q, fun j k => ?_⟩)))
    show cpA E 58 55 (E 0 51) j k = _
    rw [cpA_at, c0 0 51 (by omega) (by omega) (by omega), c0 58 k (by omega) (by omega) (by omega), hE j k, hB j k, hA j k]
  · unfold f_M_back_b19
    rw [bndN_eq rf_1, if_neg (by decide)]
    exact pc_s (Or.inl ⟨rfl, by omega⟩)
theorem iv_keep (hI : Inv γ δ) : pq (e_L_keep γ w) (f_M_keep δ) (fun y z => z.2 0 2 = y.1 ∧ Inv y.2.1 z.2) := by
  intro y z e1 e2
  have s := lkp_pc y e1
  have m := mkp_pc z e2
  have ks := kl_keep y e1
  have h := hI.s2 (v := 0)
  have z2 : setA δ 0 2 0 0 2 = 0 := s02_at
  generalize setA δ 0 2 0 = δ1 at *
  obtain ⟨y1, γ2, yw⟩ := y
  obtain ⟨z1, δ2⟩ := z
  unfold KpP at m
  have ks : KS γ γ2 := ks
  rcases h.2 with q | q
  · rcases s with ⟨s1, s2⟩ | ⟨s1, s2⟩
    · rcases m with ⟨m1, m2⟩ | ⟨m1, m2⟩
      · rw [s1, m1]; exact ⟨s02_at (δ := δ1), h.s2⟩
      · exfalso; omega
    · exfalso; omega
  · have sz := q.sz
    rcases s with ⟨s1, s2⟩ | ⟨s1, s2, g⟩
    · rcases m with ⟨m1, m2⟩ | ⟨m1, m2⟩
      · rw [s1, m1]; exact ⟨s02_at (δ := δ1), h.s2⟩
      · exfalso; omega
    · rcases m with ⟨m1, m2⟩ | ⟨m2, d⟩
      · exfalso; omega
      · have g : ∀ j k, γ2 j k = if j = 0 ∧ k = 14 then γ 0 13 else if j = 77 ∧ 0 ≤ k ∧ k < γ 11 5 then γ 76 k else if j = 82 ∧ 0 ≤ k ∧ k < γ 8 11 then γ 81 k else γ j k := g
        have d : ∀ j k, δ2 j k = if j = 58 ∧ 0 ≤ k ∧ k < δ1 0 51 then δ1 55 k else if j = 57 ∧ 0 ≤ k ∧ k < δ1 0 51 then δ1 51 k else if j = 56 ∧ 0 ≤ k ∧ k < δ1 0 52 then δ1 52 k else if j = 0 ∧ k = 82 then δ1 0 72 else if j = 0 ∧ k = 83 then 1 else δ1 j k := d
        have gs : ∀ (j : Nat) (k : Int), (j = 0 → k ≠ 14) → j ≠ 77 → j ≠ 82 → γ2 j k = γ j k := fun j k q1 q2 q3 => by rw [g, if_neg (by omega), if_neg (by omega), if_neg (by omega)]
        have ds : ∀ (j : Nat) (k : Int), (j = 0 → k ≠ 82 ∧ k ≠ 83) → j ≠ 58 → j ≠ 57 → j ≠ 56 → δ2 j k = δ1 j k := fun j k q1 q2 q3 q4 => by rw [d, if_neg (by omega), if_neg (by omega), if_neg (by omega), if_neg (by omega), if_neg (by omega)]
        have km : KM δ1 δ2 := fun j k w1 w2 w3 w4 => ds j k (by omega) (by omega) (by omega) (by omega)
        have s1 : y1 = 0 := s1
        refine ⟨by show δ2 0 2 = y1; rw [ds 0 2 (by omega) (by omega) (by omega) (by omega), s1]; exact z2, h.1.kp ks km, Or.inr ?_⟩
        obtain ⟨G, D, σ, κ, P, τ, V, S, ⟨st, tb⟩, ⟨b1, b2, b3, b4, b5⟩, v, k⟩ := q
        have g8 : γ 8 11 = G 8 11 := b1.1 8 11 (by omega) (by omega) (by omega) (by omega) (by omega) (by omega) (by omega)
        have d52 : δ1 0 52 = D 0 52 := b2 0 52 (by omega) (by omega) (by omega) (by omega)
        have e18 : δ1 0 18 = D 0 18 := b2 0 18 (by omega) (by omega) (by omega) (by omega)
        have r4 : δ1 4 = D 4 := funext fun k => b2 4 k (by omega) (by omega) (by omega) (by omega)
        have nv : nvN D (D 0 18 - 1) ≤ δ1 0 51 := by
          have t := sz.2.2.2.2.2.2.2.1
          rw [sz.1.2.2, e18, r4] at t
          exact t
        refine ⟨G, D, σ, κ, P, τ, V, S, ⟨st, tb⟩, ⟨b1.fr (fun j k w1 w2 w3 w4 w5 w6 w7 w8 w9 w10 w11 w12 => gs j k (by omega) (by omega) (by omega)) ⟨gs 11 9 (by omega) (by omega) (by omega), gs 11 17 (by omega) (by omega) (by omega)⟩ (fun s _ => gs 79 s (by omega) (by omega) (by omega)) (gs 87 0 (by omega) (by omega) (by omega)), b2.tr km, ?_, ?_, fun i w1 w2 => ?_⟩, ⟨?_, fun n k w1 w2 => ?_⟩, Or.inr ⟨?_, ?_, ?_, ?_, fun k w1 w2 => ?_⟩⟩
        · show γ2 0 12 = _ ∧ γ2 11 4 = _ ∧ γ2 11 5 = _
          rw [gs 0 12 (by omega) (by omega) (by omega), gs 11 4 (by omega) (by omega) (by omega), gs 11 5 (by omega) (by omega) (by omega)]; exact b3
        · exact DyR.ag st b4 (fun i _ _ => gs 81 i (by omega) (by omega) (by omega)) (fun i _ _ => ds 52 i (by omega) (by omega) (by omega) (by omega))
        · show γ2 12 i = δ2 50 i ∧ (_ → Bl (δ2 50 i))
          rw [gs 12 i (by omega) (by omega) (by omega), ds 50 i (by omega) (by omega) (by omega) (by omega)]; exact b5 i w1 w2
        · show γ2 0 13 = δ2 0 72
          rw [gs 0 13 (by omega) (by omega) (by omega), ds 0 72 (by omega) (by omega) (by omega) (by omega)]; exact v.1
        · show γ2 76 k = if δ2 55 k = 0 then 1099511627776 else δ2 51 k
          rw [gs 76 k (by omega) (by omega) (by omega), ds 55 k (by omega) (by omega) (by omega) (by omega), ds 51 k (by omega) (by omega) (by omega) (by omega)]
          exact v.2 s2.2 k w1 w2
        · show δ2 0 83 ≠ 0
          rw [d, if_neg (by omega), if_neg (by omega), if_neg (by omega), if_neg (by omega), if_pos ⟨rfl, rfl⟩]; decide
        · show γ2 0 14 = δ2 0 82
          rw [g, if_pos ⟨rfl, rfl⟩, d, if_neg (by omega), if_neg (by omega), if_neg (by omega), if_pos ⟨rfl, rfl⟩]; exact v.1
        · show γ2 0 14 ≠ 0
          rw [g, if_pos ⟨rfl, rfl⟩]; exact s2.2
        · exact DyR.ag st b4 (fun i _ _ => by show γ2 82 i = _; rw [g, if_neg (by omega), if_neg (by omega), if_pos (by omega)]) (fun i _ _ => by show δ2 56 i = _; rw [d, if_neg (by omega), if_neg (by omega), if_pos (by omega)])
        · have g77 : γ2 77 k = γ 76 k := by rw [g, if_neg (by omega), if_pos (by omega)]
          have d58 : δ2 58 k = δ1 55 k := by rw [d, if_pos (by omega)]
          have d57 : δ2 57 k = δ1 51 k := by rw [d, if_neg (by omega), if_pos (by omega)]
          show γ2 77 k = if δ2 58 k = 0 then 1099511627776 else δ2 57 k
          rw [g77, d58, d57]
          exact v.2 s2.2 k w1 w2
theorem iv_back (hI : Inv γ δ) : pq (e_L_back γ w) (f_M_back δ) AnQ := by
  intro y z e1 e2
  have s := lbk_pc y e1
  have m := mbk_pc z e2
  have ks := kl_back y e1
  have h := hI.s2 (v := 0)
  have z2 : setA δ 0 2 0 0 2 = 0 := s02_at
  generalize setA δ 0 2 0 = δ1 at *
  obtain ⟨y1, γ2, yw⟩ := y
  obtain ⟨z1, δ2⟩ := z
  unfold BkP at m
  have ks : KS γ γ2 := ks
  rcases h.2 with q | q
  · rcases s with ⟨s1, s2⟩ | ⟨s1, s2⟩
    · rcases m with ⟨m1, m2⟩ | ⟨m1, m2⟩
      · rw [s1, m1]; exact an_rf h (by decide)
      · exfalso; omega
    · exfalso; omega
  · have sz := q.sz
    have q' := q
    obtain ⟨G, D, σ, κ, P, τ, V, S, ⟨st, tb⟩, ⟨b1, b2, b3, b4, b5⟩, v, k⟩ := q
    rcases k with k | ⟨k1, k2, k3, k4, k5⟩
    · rcases s with ⟨s1, s2⟩ | ⟨s1, s2⟩
      · rcases m with ⟨m1, m2⟩ | ⟨m1, m2⟩
        · rw [s1, m1]; exact an_rf h (by decide)
        · exfalso; omega
      · exfalso; omega
    · rcases s with ⟨s1, s2⟩ | ⟨s1, s2, s3, g⟩
      · exfalso; omega
      · rcases m with ⟨m1, m2⟩ | ⟨m1, m2, d⟩
        · exfalso; omega
        · have g : ∀ j k, γ2 j k = if j = 0 ∧ k = 13 then γ 0 14 else if j = 76 ∧ 0 ≤ k ∧ k < γ 11 5 then γ 77 k else if j = 81 ∧ 0 ≤ k ∧ k < γ 8 11 then γ 82 k else γ j k := g
          have d : ∀ j k, δ2 j k = if j = 55 ∧ 0 ≤ k ∧ k < δ1 0 51 then δ1 58 k else if j = 51 ∧ 0 ≤ k ∧ k < δ1 0 51 then δ1 57 k else if j = 52 ∧ 0 ≤ k ∧ k < δ1 0 52 then δ1 56 k else if j = 0 ∧ k = 72 then δ1 0 82 else δ1 j k := d
          have gs : ∀ (j : Nat) (k : Int), (j = 0 → k ≠ 13) → j ≠ 76 → j ≠ 81 → γ2 j k = γ j k := fun j k q1 q2 q3 => by rw [g, if_neg (by omega), if_neg (by omega), if_neg (by omega)]
          have ds : ∀ (j : Nat) (k : Int), (j = 0 → k ≠ 72) → j ≠ 55 → j ≠ 51 → j ≠ 52 → δ2 j k = δ1 j k := fun j k q1 q2 q3 q4 => by rw [d, if_neg (by omega), if_neg (by omega), if_neg (by omega), if_neg (by omega)]
          have km : KM δ1 δ2 := fun j k w1 w2 w3 w4 => ds j k (by omega) (by omega) (by omega) (by omega)
          have s1 : y1 = 0 := s1
          have s2 : yw = γ 0 13 := s2
          have m1 : z1 = δ1 0 72 := m1
          refine ⟨by show δ2 0 2 = y1; rw [ds 0 2 (by omega) (by omega) (by omega) (by omega), s1]; exact z2, fun _ => by show yw = z1; rw [s2, m1]; exact v.1, h.1.kp ks km, Or.inr ?_⟩
          have g8 : γ 8 11 = G 8 11 := b1.1 8 11 (by omega) (by omega) (by omega) (by omega) (by omega) (by omega) (by omega)
          have d52 : δ1 0 52 = D 0 52 := b2 0 52 (by omega) (by omega) (by omega) (by omega)
          have e18 : δ1 0 18 = D 0 18 := b2 0 18 (by omega) (by omega) (by omega) (by omega)
          have r4 : δ1 4 = D 4 := funext fun k => b2 4 k (by omega) (by omega) (by omega) (by omega)
          have nv : nvN D (D 0 18 - 1) ≤ δ1 0 51 := by
            have t := sz.2.2.2.2.2.2.2.1
            rw [sz.1.2.2, e18, r4] at t
            exact t
          refine ⟨G, D, σ, κ, P, τ, V, S, ⟨st, tb⟩, ⟨b1.fr (fun j k w1 w2 w3 w4 w5 w6 w7 w8 w9 w10 w11 w12 => gs j k (by omega) (by omega) (by omega)) ⟨gs 11 9 (by omega) (by omega) (by omega), gs 11 17 (by omega) (by omega) (by omega)⟩ (fun s _ => gs 79 s (by omega) (by omega) (by omega)) (gs 87 0 (by omega) (by omega) (by omega)), b2.tr km, ?_, ?_, fun i w1 w2 => ?_⟩, ⟨?_, fun n k w1 w2 => ?_⟩, Or.inr ⟨?_, ?_, ?_, ?_, fun k w1 w2 => ?_⟩⟩
          · show γ2 0 12 = _ ∧ γ2 11 4 = _ ∧ γ2 11 5 = _
            rw [gs 0 12 (by omega) (by omega) (by omega), gs 11 4 (by omega) (by omega) (by omega), gs 11 5 (by omega) (by omega) (by omega)]; exact b3
          · exact DyR.ag st k4 (fun i _ _ => by show γ2 81 i = _; rw [g, if_neg (by omega), if_neg (by omega), if_pos (by omega)]) (fun i _ _ => by show δ2 52 i = _; rw [d, if_neg (by omega), if_neg (by omega), if_pos (by omega)])
          · show γ2 12 i = δ2 50 i ∧ (_ → Bl (δ2 50 i))
            rw [gs 12 i (by omega) (by omega) (by omega), ds 50 i (by omega) (by omega) (by omega) (by omega)]; exact b5 i w1 w2
          · show γ2 0 13 = δ2 0 72
            rw [g, if_pos ⟨rfl, rfl⟩, d, if_neg (by omega), if_neg (by omega), if_neg (by omega), if_pos ⟨rfl, rfl⟩]; exact k2
          · have g76 : γ2 76 k = γ 77 k := by rw [g, if_neg (by omega), if_pos (by omega)]
            have d55 : δ2 55 k = δ1 58 k := by rw [d, if_pos (by omega)]
            have d51 : δ2 51 k = δ1 57 k := by rw [d, if_neg (by omega), if_pos (by omega)]
            show γ2 76 k = if δ2 55 k = 0 then 1099511627776 else δ2 51 k
            rw [g76, d55, d51]
            exact k5 k w1 w2
          · show δ2 0 83 ≠ 0
            rw [ds 0 83 (by omega) (by omega) (by omega) (by omega)]; exact k1
          · show γ2 0 14 = δ2 0 82
            rw [gs 0 14 (by omega) (by omega) (by omega), ds 0 82 (by omega) (by omega) (by omega) (by omega)]; exact k2
          · show γ2 0 14 ≠ 0
            rw [gs 0 14 (by omega) (by omega) (by omega)]; exact k3
          · exact DyR.ag st k4 (fun i _ _ => gs 82 i (by omega) (by omega) (by omega)) (fun i _ _ => ds 56 i (by omega) (by omega) (by omega) (by omega))
          · show γ2 77 k = if δ2 58 k = 0 then 1099511627776 else δ2 57 k
            rw [gs 77 k (by omega) (by omega) (by omega), ds 58 k (by omega) (by omega) (by omega) (by omega), ds 57 k (by omega) (by omega) (by omega) (by omega)]
            exact k5 k w1 w2
end CC
