/-! equality: value, about, restart, keep, back -/
section CB
variable {γ δ : St} {w a0 a1 c : Int}
theorem isV_0 {k : Int} : isV γ k = 0 ↔ (γ 0 12 < 0 ∨ k < 0 ∨ γ 28 (γ 0 12) ≤ k) := by
  unfold isV
  by_cases q : γ 0 12 < 0
  · rw [if_pos q]; exact ⟨fun _ => Or.inl q, fun _ => rfl⟩
  · rw [if_neg q]
    by_cases q1 : k < 0
    · rw [if_pos q1]; exact ⟨fun _ => Or.inr (Or.inl q1), fun _ => rfl⟩
    · rw [if_neg q1]
      by_cases q2 : γ 28 (γ 0 12) ≤ k
      · rw [if_pos q2]; exact ⟨fun _ => Or.inr (Or.inr q2), fun _ => rfl⟩
      · rw [if_neg q2]; omega
def mvE (δ : St) : Int := if 0 ≤ δ 0 49 then δ 4 (δ 0 49 + 1) - δ 4 (δ 0 49) else 0
/-- a variable of the one is one of the other -/
theorem Inv.va (h : Inv γ δ) {k : Int} : isV γ k = 0 ↔ (k < 0 ∨ mvE δ ≤ k) := by
  rw [isV_0]
  unfold mvE
  rcases h.2 with q | q
  · rw [if_neg (by omega)]; omega
  · have ⟨z1, z2, _⟩ := q.sz
    rw [if_pos (by omega)]; omega
theorem Inv.pr (h : Inv γ δ) {k : Int} (n : isV γ k ≠ 0) : PrX γ δ ∧ 0 ≤ k ∧ k < δ 4 (δ 0 49 + 1) - δ 4 (δ 0 49) := by
  have v := mt isV_0.2 n
  rcases h.2 with q | q
  · exfalso; omega
  · have ⟨z1, z2, _⟩ := q.sz
    exact ⟨q, by omega, by omega⟩
-- value
def VaP (δ : St) (a0 : Int) (z : Int × St) : Prop := (z = (0, setA δ 0 2 1) ∧ (a0 < 0 ∨ mvE δ ≤ a0)) ∨ (z = (0, setA δ 0 2 2) ∧ (0 ≤ a0 ∧ a0 < mvE δ) ∧ δ 0 72 = 0) ∨ (z = (if δ 55 a0 = 0 then 1099511627776 else δ 51 a0, δ) ∧ (0 ≤ a0 ∧ a0 < mvE δ) ∧ δ 0 72 ≠ 0)
theorem mva_pc : pc (f_M_value δ a0) (VaP (setA δ 0 2 0) a0) := by
  unfold f_M_value
  refine pc_a ?_
  generalize setA δ 0 2 0 = δ1
  have bad : (a0 < 0 ∨ mvE δ1 ≤ a0) → pc (f_M_value_b19 δ1 a0 1) (VaP δ1 a0) := fun q => by
    unfold f_M_value_b19 f_M_value_b24
    rw [bndN_eq rf_1, if_pos (by decide)]
    exact pc_s (Or.inl ⟨rfl, q⟩)
  refine pc_i (fun q => bad (Or.inl q)) (fun q => pc_b mv_pc (fun r γ' p => ?_))
  have p1 : γ' = δ1 := p.1
  have p2 : r = mvE δ1 := p.2
  subst p1
  refine pc_i (fun q2 => ?_) (fun q2 => bad (by omega))
  unfold f_M_value_b24
  rw [bndN_eq rf_0, if_neg (by decide)]
  refine pc_i (fun q3 => ?_) (fun q3 => ?_)
  · unfold f_M_value_b44
    rw [bndN_eq rf_0, if_pos rfl]
    exact pc_c (fun _ => pc_i (fun q4 => pc_s (Or.inr (Or.inr ⟨by rw [if_pos q4], by omega, q3⟩))) (fun q4 => pc_c (fun _ => pc_s (Or.inr (Or.inr ⟨by rw [if_neg q4], by omega, q3⟩)))))
  · unfold f_M_value_b44
    rw [bndN_eq rf_1, if_neg (by decide)]
    exact pc_s (Or.inr (Or.inl ⟨rfl, by omega, by omega⟩))
theorem lva_pc (hC : ClsI c γ) : pc (e_L_value γ w a0) (fun y => (y = (1, γ, w) ∧ isV γ a0 = 0) ∨ (y = (2, γ, w) ∧ isV γ a0 ≠ 0 ∧ γ 0 13 = 0) ∨ (y = (0, γ, γ 76 a0) ∧ isV γ a0 ≠ 0 ∧ γ 0 13 ≠ 0)) := by
  have e := isV_eq (k := a0) hC
  unfold e_L_value
  refine hclp (R := fun z => z = (γ 76 a0, γ) ∧ isV γ a0 ≠ 0 ∧ γ 0 13 ≠ 0) (E := fun x => (x = 3 ∧ isV γ a0 = 0) ∨ (x = 1 ∧ isV γ a0 ≠ 0 ∧ γ 0 13 = 0)) ?_ ?_ (fun r γ' q => pc_s (Or.inr (Or.inr ⟨by rw [(Prod.mk.inj q.1).1, (Prod.mk.inj q.1).2], q.2⟩))) (fun x q => ?_)
  · unfold f_S_value
    rw [bndN_eq e.1]
    exact pc_i (fun q => pc_i (fun q2 => pc_c (fun _ => pc_s ⟨rfl, q, q2⟩)) (fun _ => pc_n)) (fun _ => pc_n)
  · unfold g_S_value
    rw [bndR_eq e.2 (isV_b γ a0)]
    exact pc_i (fun q => pc_i (fun q2 => pc_n) (fun q2 => pc_s (Or.inr ⟨rfl, q, by omega⟩))) (fun q => pc_s (Or.inl ⟨rfl, by omega⟩))
  · rcases q with ⟨q, r⟩ | ⟨q, r⟩
    · rw [q]; exact pc_s (Or.inl ⟨rfl, r⟩)
    · rw [q]; exact pc_s (Or.inr (Or.inl ⟨rfl, r⟩))
theorem iv_value (hC : ClsI c γ) (hI : Inv γ δ) : pq (e_L_value γ w a0) (f_M_value δ a0) AnQ := by
  intro y z e1 e2
  have s := lva_pc hC y e1
  have m := mva_pc z e2
  have h := hI.s2 (v := 0)
  have z2 : setA δ 0 2 0 0 2 = 0 := s02_at
  generalize setA δ 0 2 0 = δ1 at *
  unfold VaP at m
  have va := h.va (k := a0)
  rcases s with ⟨s1, s2⟩ | ⟨s1, s2⟩ | ⟨s1, s2⟩
  · rcases m with ⟨m1, m2⟩ | ⟨m1, m2⟩ | ⟨m1, m2⟩
    · rw [s1, m1]; exact an_rf h (by decide)
    · exfalso; omega
    · exfalso; omega
  · have p := h.pr s2.1
    have z3 := p.1.sz.2.2.1
    rcases m with ⟨m1, m2⟩ | ⟨m1, m2⟩ | ⟨m1, m2⟩
    · exfalso; omega
    · rw [s1, m1]; exact an_rf h (by decide)
    · exfalso; omega
  · have p := h.pr s2.1
    have z3 := p.1.sz.2.2.1
    have z1 := p.1.sz.1
    rcases m with ⟨m1, m2⟩ | ⟨m1, m2⟩ | ⟨m1, m2⟩
    · exfalso; omega
    · exfalso; omega
    · rw [s1, m1]
      refine ⟨z2, fun _ => ?_, h⟩
      obtain ⟨G, D, σ, κ, P, τ, V, S, ⟨st, tb⟩, ⟨b1, b2, b3, b4, b5⟩, v, k⟩ := p.1
      have e18 : δ1 0 18 = D 0 18 := b2 0 18 (by omega) (by omega) (by omega) (by omega)
      have r4 : δ1 4 = D 4 := funext fun k => b2 4 k (by omega) (by omega) (by omega) (by omega)
      have p2 := p.2
      rw [z1.2.2, e18, r4] at p2
      exact v.2 s2.2 a0 p2.1 p2.2
-- about
def abM (δ : St) (a0 a1 : Int) : Int := if a1 = 0 then (if δ 5 (δ 0 49) ≤ a0 then (if δ 5 (δ 0 49) + δ 6 (δ 0 49) ≤ a0 then 2 else 1) else 0) else if a1 = 1 then (if δ 14 (δ 4 (δ 0 49) + a0) = 0 then 0 else 1) else if a1 = 2 then (if 0 ≤ δ 12 (δ 4 (δ 0 49) + a0) then idiv (δ 12 (δ 4 (δ 0 49) + a0)) 2 else -1) else (if 0 ≤ δ 12 (δ 4 (δ 0 49) + a0) then iand (δ 12 (δ 4 (δ 0 49) + a0)) 1 else 0)
def abS (γ : St) (a0 a1 : Int) : Int := if a1 = 0 then (if γ 26 (γ 0 12) ≤ a0 then (if γ 26 (γ 0 12) + γ 27 (γ 0 12) ≤ a0 then 2 else 1) else 0) else if a1 = 1 then γ 33 (γ 25 (γ 0 12) + a0) else if a1 = 2 then (if 0 ≤ γ 34 (γ 25 (γ 0 12) + a0) then ishr (γ 34 (γ 25 (γ 0 12) + a0)) 1 else -1) else (if 0 ≤ γ 34 (γ 25 (γ 0 12) + a0) then iand (γ 34 (γ 25 (γ 0 12) + a0)) 1 else 0)
def AbP (δ : St) (a0 a1 : Int) (z : Int × St) : Prop := (z = (0, setA δ 0 2 1) ∧ (a0 < 0 ∨ mvE δ ≤ a0)) ∨ (z = (0, setA δ 0 2 2) ∧ (0 ≤ a0 ∧ a0 < mvE δ) ∧ (a1 < 0 ∨ 3 < a1)) ∨ (z = (abM δ a0 a1, δ) ∧ (0 ≤ a0 ∧ a0 < mvE δ) ∧ 0 ≤ a1 ∧ a1 ≤ 3)
theorem mab_pc : pc (f_M_about δ a0 a1) (AbP (setA δ 0 2 0) a0 a1) := by
  unfold f_M_about
  refine pc_a ?_
  generalize setA δ 0 2 0 = δ1
  have bad : (a0 < 0 ∨ mvE δ1 ≤ a0) → pc (f_M_about_b19 δ1 a0 a1 1) (AbP δ1 a0 a1) := fun q => by
    unfold f_M_about_b19 f_M_about_b24
    rw [bndN_eq rf_1, if_pos (by decide)]
    exact pc_s (Or.inl ⟨rfl, q⟩)
  refine pc_i (fun q => bad (Or.inl q)) (fun q => pc_b mv_pc (fun r γ' p => ?_))
  have p1 : γ' = δ1 := p.1
  have p2 : r = mvE δ1 := p.2
  subst p1
  refine pc_i (fun q2 => ?_) (fun q2 => bad (by omega))
  unfold f_M_about_b24
  rw [bndN_eq rf_0, if_neg (by decide)]
  have b2 : (a1 < 0 ∨ 3 < a1) → pc (f_M_about_b41 γ' a0 a1 2) (AbP γ' a0 a1) := fun q3 => by
    unfold f_M_about_b41 f_M_about_b46
    rw [bndN_eq rf_1, if_neg (by decide)]
    exact pc_s (Or.inr (Or.inl ⟨rfl, by omega, q3⟩))
  refine pc_i (fun q3 => b2 (Or.inl q3)) (fun q3 => pc_i (fun q4 => ?_) (fun q4 => b2 (by omega)))
  unfold f_M_about_b46
  rw [bndN_eq rf_0, if_pos rfl]
  have fin : ∀ x, x = abM γ' a0 a1 → AbP γ' a0 a1 (x, γ') := fun x e => Or.inr (Or.inr ⟨by rw [e], by omega, by omega, q4⟩)
  refine pc_c (fun _ => pc_c (fun _ => pc_a (pc_i (fun k => ?_) (fun k => pc_i (fun k1 => ?_) (fun k1 => pc_i (fun k2 => ?_) (fun k2 => ?_))))))
  · exact pc_c (fun _ => pc_i (fun t => pc_c (fun _ => pc_c (fun _ => pc_c (fun _ => pc_i (fun t2 => pc_s (fin _ (by unfold abM; rw [if_pos k, if_pos t, if_pos t2]))) (fun t2 => pc_s (fin _ (by unfold abM; rw [if_pos k, if_pos t, if_neg t2]))))))) (fun t => pc_s (fin _ (by unfold abM; rw [if_pos k, if_neg t]))))
  · refine pc_c (fun _ => pc_b (P := fun z => z = (if γ' 14 (γ' 4 (γ' 0 49) + a0) = 0 then 0 else 1, γ')) ?_ (fun r γ2 q => ?_))
    · unfold f_M_truth
      exact pc_i (fun t => pc_s (by rw [if_pos t])) (fun t => pc_s (by rw [if_neg t]))
    · rw [(Prod.mk.inj q).1, (Prod.mk.inj q).2]
      exact pc_s (fin _ (by unfold abM; rw [if_neg k, if_pos k1]))
  · exact pc_c (fun _ => pc_i (fun t => pc_c (fun _ => pc_c (fun _ => pc_s (fin _ (by unfold abM; rw [if_neg k, if_neg k1, if_pos k2, if_pos t]))))) (fun t => pc_s (fin _ (by unfold abM; rw [if_neg k, if_neg k1, if_pos k2, if_neg t]))))
  · exact pc_c (fun _ => pc_i (fun t => pc_c (fun _ => pc_s (fin _ (by unfold abM; rw [if_neg k, if_neg k1, if_neg k2, if_pos t])))) (fun t => pc_s (fin _ (by unfold abM; rw [if_neg k, if_neg k1, if_neg k2, if_neg t]))))
theorem lab_pc (hC : ClsI c γ) : pc (e_L_about γ w a0 a1) (fun y => (y = (1, γ, w) ∧ isV γ a0 = 0) ∨ (y = (2, γ, w) ∧ isV γ a0 ≠ 0 ∧ (a1 < 0 ∨ 3 < a1)) ∨ (y = (0, γ, abS γ a0 a1) ∧ isV γ a0 ≠ 0 ∧ 0 ≤ a1 ∧ a1 ≤ 3)) := by
  have e := isV_eq (k := a0) hC
  unfold e_L_about
  refine hclp (R := fun z => z = (abS γ a0 a1, γ) ∧ isV γ a0 ≠ 0 ∧ 0 ≤ a1 ∧ a1 ≤ 3) (E := fun x => (x = 3 ∧ isV γ a0 = 0) ∨ (x = 2 ∧ isV γ a0 ≠ 0 ∧ (a1 < 0 ∨ 3 < a1))) ?_ ?_ (fun r γ' q => pc_s (Or.inr (Or.inr ⟨by rw [(Prod.mk.inj q.1).1, (Prod.mk.inj q.1).2], q.2⟩))) (fun x q => ?_)
  · unfold f_S_about f_S_about_b25
    rw [bndN_eq e.1]
    refine pc_i (fun q => pc_i (fun _ => pc_n) (fun q1 => pc_i (fun q2 => pc_c (fun _ => pc_c (fun _ => pc_c (fun _ => pc_a ?_)))) (fun _ => pc_n))) (fun _ => pc_n)
    have fin : ∀ x, x = abS γ a0 a1 → (x, γ) = (abS γ a0 a1, γ) ∧ isV γ a0 ≠ 0 ∧ 0 ≤ a1 ∧ a1 ≤ 3 := fun x e => ⟨by rw [e], q, by omega, q2⟩
    refine pc_i (fun k => ?_) (fun k => pc_i (fun k1 => ?_) (fun k1 => pc_i (fun k2 => ?_) (fun k2 => ?_)))
    · refine pc_b (P := fun z => z = (abS γ a0 a1, γ)) ?_ (fun r γ2 q => ?_)
      · unfold f_Nd_role
        exact pc_c (fun _ => pc_i (fun t => pc_c (fun _ => pc_c (fun _ => pc_c (fun _ => pc_i (fun t2 => pc_s (by unfold abS; rw [if_pos k, if_pos t, if_pos t2])) (fun t2 => pc_s (by unfold abS; rw [if_pos k, if_pos t, if_neg t2])))))) (fun t => pc_s (by unfold abS; rw [if_pos k, if_neg t])))
      · rw [(Prod.mk.inj q).1, (Prod.mk.inj q).2]
        exact pc_s (fin _ rfl)
    · exact pc_c (fun _ => pc_c (fun _ => pc_c (fun _ => pc_s (fin _ (by unfold abS; rw [if_neg k, if_pos k1])))))
    · exact pc_i (fun t => pc_s (fin _ (by unfold abS; rw [if_neg k, if_neg k1, if_pos k2, if_pos t]))) (fun t => pc_s (fin _ (by unfold abS; rw [if_neg k, if_neg k1, if_pos k2, if_neg t])))
    · exact pc_i (fun t => pc_s (fin _ (by unfold abS; rw [if_neg k, if_neg k1, if_neg k2, if_pos t]))) (fun t => pc_s (fin _ (by unfold abS; rw [if_neg k, if_neg k1, if_neg k2, if_neg t])))
  · unfold g_S_about g_S_about_b25
    rw [bndR_eq e.2 (isV_b γ a0)]
    exact pc_i (fun q => pc_i (fun q2 => pc_s (Or.inr ⟨rfl, q, Or.inl q2⟩)) (fun q2 => pc_i (fun q3 => pc_c (fun _ => pc_c (fun _ => pc_c (fun _ => pc_a (pc_i (fun _ => pc_n) (fun _ => pc_i (fun _ => pc_c (fun _ => pc_c (fun _ => pc_c (fun _ => pc_n)))) (fun _ => pc_i (fun _ => pc_i (fun _ => pc_n) (fun _ => pc_n)) (fun _ => pc_i (fun _ => pc_n) (fun _ => pc_n))))))))) (fun q3 => pc_s (Or.inr ⟨rfl, q, by omega⟩)))) (fun q => pc_s (Or.inl ⟨rfl, by omega⟩))
  · rcases q with ⟨q, r⟩ | ⟨q, r⟩
    · rw [q]; exact pc_s (Or.inl ⟨rfl, r⟩)
    · rw [q]; exact pc_s (Or.inr (Or.inl ⟨rfl, r⟩))
theorem iv_about (hC : ClsI c γ) (hI : Inv γ δ) : pq (e_L_about γ w a0 a1) (f_M_about δ a0 a1) AnQ := by
  intro y z e1 e2
  have s := lab_pc hC y e1
  have m := mab_pc z e2
  have h := hI.s2 (v := 0)
  have z2 : setA δ 0 2 0 0 2 = 0 := s02_at
  generalize setA δ 0 2 0 = δ1 at *
  unfold AbP at m
  have va := h.va (k := a0)
  rcases s with ⟨s1, s2⟩ | ⟨s1, s2⟩ | ⟨s1, s2⟩
  · rcases m with ⟨m1, m2⟩ | ⟨m1, m2⟩ | ⟨m1, m2⟩
    · rw [s1, m1]; exact an_rf h (by decide)
    · exfalso; omega
    · exfalso; omega
  · rcases m with ⟨m1, m2⟩ | ⟨m1, m2⟩ | ⟨m1, m2⟩
    · exfalso; omega
    · rw [s1, m1]; exact an_rf h (by decide)
    · exfalso; omega
  · rcases m with ⟨m1, m2⟩ | ⟨m1, m2⟩ | ⟨m1, m2⟩
    · exfalso; omega
    · exfalso; omega
    · have p := h.pr s2.1
      have ⟨t1, t2, t3, t4, t5⟩ := p.1.sz
      have t := t4 a0 p.2.1 p.2.2
      rw [s1, m1]
      refine ⟨z2, fun _ => ?_, h⟩
      show abS γ a0 a1 = abM δ1 a0 a1
      unfold abS abM
      rw [t2.1, t2.2.1, t2.2.2.1, t.1, t.2.2.1]
      by_cases k : a1 = 0
      · rw [if_pos k, if_pos k]
      · rw [if_neg k, if_neg k]
        by_cases k1 : a1 = 1
        · rw [if_pos k1, if_pos k1]
          by_cases u : δ1 14 (δ1 4 (δ1 0 49) + a0) = 0
          · rw [if_pos u]; exact u
          · rw [if_neg u]; omega
        · rw [if_neg k1, if_neg k1]
          by_cases k2 : a1 = 2
          · rw [if_pos k2, if_pos k2]
            by_cases u : 0 ≤ δ1 12 (δ1 4 (δ1 0 49) + a0)
            · rw [if_pos u, if_pos u, ishr_1 (by omega), idiv_2 u (by omega)]
            · rw [if_neg u, if_neg u]
          · rw [if_neg k2, if_neg k2]
-- restart
theorem lrs_pc : pc (e_L_restart γ w) (fun y => (y = (1, γ, w) ∧ γ 0 12 < 0) ∨ (y = (0, setA (flA γ 81 0 (γ 8 11) 0) 0 13 0, γ 0 13) ∧ 0 ≤ γ 0 12)) := by
  unfold e_L_restart
  refine hclp (R := fun z => z = (γ 0 13, setA (flA γ 81 0 (γ 8 11) 0) 0 13 0) ∧ 0 ≤ γ 0 12) (E := fun x => x = 1 ∧ γ 0 12 < 0) ?_ ?_ (fun r γ' q => pc_s (Or.inr ⟨by rw [(Prod.mk.inj q.1).1, (Prod.mk.inj q.1).2], q.2⟩)) (fun x q => by rw [q.1]; exact pc_s (Or.inl ⟨rfl, q.2⟩))
  · unfold f_S_restart
    refine pc_i (fun q => pc_a (pc_b (P := fun z => z.2 = flA γ 81 0 (γ 8 11) 0) ?_ (fun r γ' p => ?_))) (fun _ => pc_n)
    · unfold f_Pg_clear
      exact pc_c (fun _ => pc_a (pc_s rfl))
    · have p : γ' = flA γ 81 0 (γ 8 11) 0 := p
      rw [p]
      exact pc_a (pc_s ⟨rfl, q⟩)
  · unfold g_S_restart
    exact pc_i (fun _ => pc_a pc_n) (fun q => pc_s ⟨rfl, by omega⟩)
theorem mrs_pc : pc (f_M_restart δ) (fun z => (z = (0, setA (setA δ 0 2 0) 0 2 1) ∧ setA δ 0 2 0 0 49 < 0) ∨ (z = (setA δ 0 2 0 0 72, flA (setA (setA δ 0 2 0) 0 72 0) 52 0 6600 0) ∧ 0 ≤ setA δ 0 2 0 0 49)) := by
  unfold f_M_restart
  refine pc_a ?_
  generalize setA δ 0 2 0 = δ1
  refine pc_i (fun q => ?_) (fun q => ?_)
  · unfold f_M_restart_b19
    rw [bndN_eq rf_0, if_pos rfl]
    exact pc_a (pc_a (pc_a (pc_s (Or.inr ⟨rfl, q⟩))))
  · unfold f_M_restart_b19
    rw [bndN_eq rf_1, if_neg (by decide)]
    exact pc_s (Or.inl ⟨rfl, by omega⟩)
theorem iv_restart (hI : Inv γ δ) : pq (e_L_restart γ w) (f_M_restart δ) AnQ := by
  intro y z e1 e2
  have s := lrs_pc y e1
  have m := mrs_pc z e2
  have h := hI.s2 (v := 0)
  have z2 : setA δ 0 2 0 0 2 = 0 := s02_at
  generalize setA δ 0 2 0 = δ1 at *
  rcases h.2 with q | q
  · rcases s with ⟨s1, s2⟩ | ⟨s1, s2⟩
    · rcases m with ⟨m1, m2⟩ | ⟨m1, m2⟩
      · rw [s1, m1]; exact an_rf h (by decide)
      · exfalso; omega
    · exfalso; omega
  · have sz := q.sz
    rcases s with ⟨s1, s2⟩ | ⟨s1, s2⟩
    · exfalso; omega
    · rcases m with ⟨m1, m2⟩ | ⟨m1, m2⟩
      · exfalso; omega
      · rw [s1, m1]
        have g : ∀ (j : Nat) (k : Int), setA (flA γ 81 0 (γ 8 11) 0) 0 13 0 j k = if j = 0 ∧ k = 13 then 0 else if j = 81 ∧ 0 ≤ k ∧ k < γ 8 11 then 0 else γ j k := fun j k => by rw [stA, flA_at]
        have d : ∀ (j : Nat) (k : Int), flA (setA δ1 0 72 0) 52 0 6600 0 j k = if j = 52 ∧ 0 ≤ k ∧ k < 6600 then 0 else if j = 0 ∧ k = 72 then 0 else δ1 j k := fun j k => by rw [flA_at, stA]
        have km : KM δ1 (flA (setA δ1 0 72 0) 52 0 6600 0) := (KM.rf.set (by omega)).fl (by omega)
        generalize setA (flA γ 81 0 (γ 8 11) 0) 0 13 0 = γ2 at *
        generalize flA (setA δ1 0 72 0) 52 0 6600 0 = δ2 at *
        have gs : ∀ (j : Nat) (k : Int), (j = 0 → k ≠ 13) → j ≠ 81 → γ2 j k = γ j k := fun j k q1 q2 => by rw [g, if_neg (by omega), if_neg (by omega)]
        have ds : ∀ (j : Nat) (k : Int), (j = 0 → k ≠ 72) → j ≠ 52 → δ2 j k = δ1 j k := fun j k q1 q2 => by rw [d, if_neg (by omega), if_neg (by omega)]
        refine ⟨by show δ2 0 2 = 0; rw [ds 0 2 (by omega) (by omega)]; exact z2, fun _ => sz.2.2.1.2.2.2, h.1.kp (fun j k w1 w2 w3 w4 w5 w6 w7 w8 w9 w10 w11 => gs j k (by omega) (by omega)) km, Or.inr ?_⟩
        obtain ⟨G, D, σ, κ, P, τ, V, S, ⟨st, tb⟩, ⟨b1, b2, b3, b4, b5⟩, v, k⟩ := q
        have m52 := st.1.1.2.2.2.2.1
        have g8 : γ 8 11 = G 8 11 := b1.1 8 11 (by omega) (by omega) (by omega) (by omega) (by omega) (by omega) (by omega)
        refine ⟨G, D, σ, κ, P, τ, V, S, ⟨st, tb⟩, ⟨b1.fr (fun j k w1 w2 w3 w4 w5 w6 w7 w8 w9 w10 w11 w12 => gs j k (by omega) w10) ⟨gs 11 9 (by omega) (by omega), gs 11 17 (by omega) (by omega)⟩ (fun s _ => gs 79 s (by omega) (by omega)) (gs 87 0 (by omega) (by omega)), b2.tr km, ?_, ?_, fun i w1 w2 => ?_⟩, ⟨?_, fun n => ?_⟩, ?_⟩
        · show γ2 0 12 = _ ∧ γ2 11 4 = _ ∧ γ2 11 5 = _
          rw [gs 0 12 (by omega) (by omega), gs 11 4 (by omega) (by omega), gs 11 5 (by omega) (by omega)]; exact b3
        · exact DyR.ag (C := fun _ => 0) (M := fun _ => 0) st DyR.zr (fun i q1 q2 => by show γ2 81 i = 0; rw [g, if_neg (by omega), if_pos (by omega)]) (fun i q1 q2 => by show δ2 52 i = 0; rw [d, if_pos (by omega)])
        · show γ2 12 i = δ2 50 i ∧ (_ → Bl (δ2 50 i))
          rw [gs 12 i (by omega) (by omega), ds 50 i (by omega) (by omega)]; exact b5 i w1 w2
        · show γ2 0 13 = δ2 0 72
          rw [g, if_pos ⟨rfl, rfl⟩, d, if_neg (by omega), if_pos ⟨rfl, rfl⟩]
        · exact absurd (show γ2 0 13 = 0 by rw [g, if_pos ⟨rfl, rfl⟩]) n
        · have e56 : δ2 56 = δ1 56 := funext fun k => ds 56 k (by omega) (by omega)
          have e82 : γ2 82 = γ 82 := funext fun k => gs 82 k (by omega) (by omega)
          have e77 : γ2 77 = γ 77 := funext fun k => gs 77 k (by omega) (by omega)
          have e58 : δ2 58 = δ1 58 := funext fun k => ds 58 k (by omega) (by omega)
          have e57 : δ2 57 = δ1 57 := funext fun k => ds 57 k (by omega) (by omega)
          show PrK G D σ τ γ2 δ2
          unfold PrK at k ⊢
          rw [e56, e82, e77, e58, e57, ds 0 83 (by omega) (by omega), gs 0 14 (by omega) (by omega), ds 0 82 (by omega) (by omega)]
          exact k
end CB
