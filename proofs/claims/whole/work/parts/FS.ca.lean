/-! equality: fault, count, feed, end, input, value, about -/
section CA
variable {γ δ : St} {w a0 a1 c : Int}
def AnQ (y : Int × St × Int) (z : Int × St) : Prop := z.2 0 2 = y.1 ∧ (y.1 = 0 → y.2.2 = z.1) ∧ Inv y.2.1 z.2
theorem Inv.s2 {v : Int} (h : Inv γ δ) : Inv γ (setA δ 0 2 v) := h.kc KcS.rf (fun j k q1 q2 q3 q4 => by rw [stA, if_neg (by omega)]) (h.1.kp KS.rf (KM.rf.set (by omega)))
theorem hclp {f : Option (Int × St)} {g : Option (Nat × St)} {ke : Int → St → Option (Int × St × Int)} {he : Nat → Option (Int × St × Int)} {R : Int × St → Prop} {E : Nat → Prop} {P : Int × St × Int → Prop} (hf : pc f R) (hg : pc g (fun z => E z.1)) (h1 : ∀ r γ', R (r, γ') → pc (ke r γ') P) (h2 : ∀ e, E e → pc (he e) P) : pc (hcl f g ke he) P := by
  intro y e1
  unfold hcl at e1
  cases hf' : f with
  | some a => rw [hf'] at e1; exact h1 a.1 a.2 (hf a hf') y e1
  | none =>
    rw [hf'] at e1
    cases hg' : g with
    | none => rw [hg'] at e1; cases e1
    | some b => rw [hg'] at e1; exact h2 b.1 (hg b hg') y e1
theorem s02_at {v : Int} : setA δ 0 2 v 0 2 = v := by rw [stA, if_pos ⟨rfl, rfl⟩]
/-- refused alike -/
theorem an_rf {v : Int} (h : Inv γ δ) (hv : v ≠ 0) : AnQ (v, γ, w) (0, setA δ 0 2 v) := ⟨s02_at (δ := δ), fun q => absurd q hv, h.s2⟩
theorem mv_pc : pc (f_M_mainVariables δ) (fun z => z.2 = δ ∧ z.1 = if 0 ≤ δ 0 49 then δ 4 (δ 0 49 + 1) - δ 4 (δ 0 49) else 0) := by
  unfold f_M_mainVariables
  exact pc_i (fun q => pc_c (fun _ => pc_c (fun _ => pc_c (fun _ => pc_c (fun _ => pc_s ⟨rfl, by rw [if_pos q]⟩))))) (fun q => pc_s ⟨rfl, by rw [if_neg q]⟩)
-- fault
theorem iv_fault (h : Inv γ δ) : pq (f_S_fault γ a0) (f_M_fault δ a0) (fun y z => y.1 = z.1 ∧ Inv y.2 z.2) := by
  intro y z e1 e2
  have c : y.2 = γ ∧ y.1 = (if a0 = 0 then γ 1 7 else if a0 = 1 then γ 1 8 else -1) := by
    revert y
    unfold f_S_fault
    exact pc_i (fun q => pc_s ⟨rfl, by rw [if_pos q]⟩) (fun q => pc_i (fun q2 => pc_s ⟨rfl, by rw [if_neg q, if_pos q2]⟩) (fun q2 => pc_s ⟨rfl, by rw [if_neg q, if_neg q2]⟩))
  have m : z.2 = setA δ 0 2 0 ∧ z.1 = (if a0 = 0 then δ 0 3 else if a0 = 1 then δ 0 4 else -1) := by
    revert z
    unfold f_M_fault
    have s3 : setA δ 0 2 0 0 3 = δ 0 3 := by rw [stA, if_neg (by omega)]
    have s4 : setA δ 0 2 0 0 4 = δ 0 4 := by rw [stA, if_neg (by omega)]
    exact pc_a (pc_i (fun q => pc_i (fun q2 => pc_s ⟨rfl, by rw [if_neg q, if_neg q2]⟩) (fun q2 => pc_s ⟨rfl, by rw [if_neg q, if_pos (by omega)]; exact s4⟩)) (fun q => pc_s ⟨rfl, by rw [if_pos (by omega)]; exact s3⟩))
  have ⟨_, _, _, _, r7, r8⟩ := h.1
  rw [c.1, c.2, m.1, m.2, r7, r8]
  exact ⟨rfl, h.s2⟩
-- count
def CtQ (δ : St) (a r : Int) : Prop := (a = 0 → 0 ≤ δ 0 49 → r = δ 4 (δ 0 49 + 1) - δ 4 (δ 0 49)) ∧ (a = 1 → 0 ≤ δ 0 49 → r = δ 5 (δ 0 49)) ∧ (a = 2 → 0 ≤ δ 0 49 → r = δ 6 (δ 0 49)) ∧ (a = 3 → 0 ≤ δ 0 49 → r = δ 0 51) ∧ (a = 4 → 0 ≤ δ 0 49 → r = δ 34 (δ 0 49)) ∧ (a = 5 → r = δ 0 72) ∧ (a = 6 → 0 ≤ δ 0 49 → r = δ 0 53) ∧ (a = 7 → r = δ 0 1) ∧ (a = 8 → 0 ≤ δ 0 49 → r = δ 0 18) ∧ (a < 0 ∨ 8 < a → r = -1) ∧ (δ 0 49 < 0 → 0 ≤ a → a ≤ 8 → a ≠ 7 → a ≠ 5 → r = 0)
theorem mct_pc : pc (f_M_count δ a0) (fun z => z.2 = setA δ 0 2 0 ∧ CtQ (setA δ 0 2 0) a0 z.1) := by
  unfold f_M_count
  refine pc_a ?_
  generalize setA δ 0 2 0 = δ1
  have two : ∀ {p : Prop} [Decidable p] {x : Int}, (p ↔ 0 ≤ δ1 0 49) → (0 ≤ δ1 0 49 → CtQ δ1 a0 x) → (δ1 0 49 < 0 → CtQ δ1 a0 0) → pc (if p then some (x, δ1) else some ((0 : Int), δ1)) (fun z => z.2 = δ1 ∧ CtQ δ1 a0 z.1) := fun hp h1 h2 => pc_i (fun q => pc_s ⟨rfl, h1 (hp.1 q)⟩) (fun q => pc_s ⟨rfl, h2 (by have := mt hp.2 q; omega)⟩)
  refine pc_i (fun a => pc_b mv_pc (fun r γ' q => pc_s ⟨q.1, ?_⟩)) (fun _ => ?_)
  · have q : r = if 0 ≤ δ1 0 49 then δ1 4 (δ1 0 49 + 1) - δ1 4 (δ1 0 49) else 0 := q.2
    show CtQ δ1 a0 r
    by_cases c : 0 ≤ δ1 0 49
    · rw [if_pos c] at q; unfold CtQ; omega
    · rw [if_neg c] at q; unfold CtQ; omega
  refine pc_i (fun a => pc_i (fun q => pc_c (fun _ => pc_s ⟨rfl, by show CtQ _ _ _; unfold CtQ; omega⟩)) (fun q => pc_s ⟨rfl, by show CtQ _ _ _; unfold CtQ; omega⟩)) (fun _ => ?_)
  refine pc_i (fun a => pc_i (fun q => pc_c (fun _ => pc_s ⟨rfl, by show CtQ _ _ _; unfold CtQ; omega⟩)) (fun q => pc_s ⟨rfl, by show CtQ _ _ _; unfold CtQ; omega⟩)) (fun _ => ?_)
  refine pc_i (fun a => pc_i (fun q => pc_s ⟨rfl, by show CtQ _ _ _; unfold CtQ; omega⟩) (fun q => pc_s ⟨rfl, by show CtQ _ _ _; unfold CtQ; omega⟩)) (fun _ => ?_)
  refine pc_i (fun a => pc_i (fun q => pc_c (fun _ => pc_s ⟨rfl, by show CtQ _ _ _; unfold CtQ; omega⟩)) (fun q => pc_s ⟨rfl, by show CtQ _ _ _; unfold CtQ; omega⟩)) (fun _ => ?_)
  refine pc_i (fun a => pc_s ⟨rfl, by show CtQ _ _ _; unfold CtQ; omega⟩) (fun _ => ?_)
  refine pc_i (fun a => pc_i (fun q => pc_s ⟨rfl, by show CtQ _ _ _; unfold CtQ; omega⟩) (fun q => pc_s ⟨rfl, by show CtQ _ _ _; unfold CtQ; omega⟩)) (fun _ => ?_)
  refine pc_i (fun a => pc_s ⟨rfl, by show CtQ _ _ _; unfold CtQ; omega⟩) (fun _ => ?_)
  exact pc_i (fun a => pc_i (fun q => pc_s ⟨rfl, by show CtQ _ _ _; unfold CtQ; omega⟩) (fun q => pc_s ⟨rfl, by show CtQ _ _ _; unfold CtQ; omega⟩)) (fun _ => pc_s ⟨rfl, by show CtQ _ _ _; unfold CtQ; omega⟩)
def CsQ (γ : St) (a r : Int) : Prop := (a = 0 → 0 ≤ γ 0 12 → r = γ 28 (γ 0 12)) ∧ (a = 1 → 0 ≤ γ 0 12 → r = γ 26 (γ 0 12)) ∧ (a = 2 → 0 ≤ γ 0 12 → r = γ 27 (γ 0 12)) ∧ (a = 3 → 0 ≤ γ 0 12 → r = γ 8 8) ∧ (a = 4 → 0 ≤ γ 0 12 → r = γ 31 (γ 0 12)) ∧ (a = 5 → 0 ≤ γ 0 12 → r = γ 0 13) ∧ (a = 6 → 0 ≤ γ 0 12 → r = γ 8 11) ∧ (a = 7 → r = γ 0 10) ∧ (a = 8 → 0 ≤ γ 0 12 → r = γ 3 9) ∧ (a < 0 ∨ 8 < a → r = -1) ∧ (γ 0 12 < 0 → 0 ≤ a → a ≤ 8 → a ≠ 7 → r = 0)
theorem sct_pc : pc (f_S_count γ a0) (fun z => z.2 = γ ∧ CsQ γ a0 z.1) := by
  unfold f_S_count
  have cp : 0 ≤ γ 0 12 → 0 ≤ a0 → a0 ≤ 8 → a0 ≠ 7 → pc (f_S_countOfProgram γ a0) (fun z => z.2 = γ ∧ CsQ γ a0 z.1) := fun h1 h2 h3 h4 => by
    unfold f_S_countOfProgram
    refine pc_i (fun a => pc_c (fun _ => pc_s ⟨rfl, by show CsQ _ _ _; unfold CsQ; omega⟩)) (fun _ => ?_)
    refine pc_i (fun a => pc_c (fun _ => pc_s ⟨rfl, by show CsQ _ _ _; unfold CsQ; omega⟩)) (fun _ => ?_)
    refine pc_i (fun a => pc_c (fun _ => pc_s ⟨rfl, by show CsQ _ _ _; unfold CsQ; omega⟩)) (fun _ => ?_)
    refine pc_i (fun a => pc_s ⟨rfl, by show CsQ _ _ _; unfold CsQ; omega⟩) (fun _ => ?_)
    refine pc_i (fun a => pc_c (fun _ => pc_s ⟨rfl, by show CsQ _ _ _; unfold CsQ; omega⟩)) (fun _ => ?_)
    refine pc_i (fun a => pc_s ⟨rfl, by show CsQ _ _ _; unfold CsQ; omega⟩) (fun _ => ?_)
    exact pc_i (fun a => pc_s ⟨rfl, by show CsQ _ _ _; unfold CsQ; omega⟩) (fun _ => pc_s ⟨rfl, by show CsQ _ _ _; unfold CsQ; omega⟩)
  refine pc_i (fun a => pc_i (fun q => pc_s ⟨rfl, by show CsQ _ _ _; unfold CsQ; omega⟩) (fun q => pc_i (fun q2 => pc_i (fun q3 => pc_b (cp q3 (by omega) q2 a) (fun r γ' k => pc_s k)) (fun q3 => pc_s ⟨rfl, by show CsQ _ _ _; unfold CsQ; omega⟩)) (fun q2 => pc_s ⟨rfl, by show CsQ _ _ _; unfold CsQ; omega⟩))) (fun a => pc_s ⟨rfl, by show CsQ _ _ _; unfold CsQ; omega⟩)
theorem iv_count (hI : Inv γ δ) : pq (f_S_count γ a0) (f_M_count δ a0) (fun y z => y.1 = z.1 ∧ Inv y.2 z.2) := by
  intro y z e1 e2
  have s := sct_pc y e1
  have m := mct_pc z e2
  have h := hI.s2 (v := 0)
  rw [s.1, m.1]
  generalize setA δ 0 2 0 = δ1 at *
  refine ⟨?_, h⟩
  have r10 := h.1.2.1
  have s := s.2
  have m := m.2
  by_cases a7 : a0 = 7
  · exact (s.2.2.2.2.2.2.2.1 a7).trans (r10.trans (m.2.2.2.2.2.2.2.1 a7).symm)
  by_cases ao : a0 < 0 ∨ 8 < a0
  · exact (s.2.2.2.2.2.2.2.2.2.1 ao).trans (m.2.2.2.2.2.2.2.2.2.1 ao).symm
  rcases h.2 with q | q
  · by_cases a5 : a0 = 5
    · exact (s.2.2.2.2.2.2.2.2.2.2 (by omega) (by omega) (by omega) a7).trans (q.2.2.2.1.symm.trans (m.2.2.2.2.2.1 a5).symm)
    · exact (s.2.2.2.2.2.2.2.2.2.2 (by omega) (by omega) (by omega) a7).trans (m.2.2.2.2.2.2.2.2.2.2 (by omega) (by omega) (by omega) a7 a5).symm
  · have ⟨z1, z2, z3, _⟩ := q.sz
    have p : 0 ≤ δ1 0 49 := by omega
    have p' := z1.1
    by_cases x : a0 = 0
    · exact (s.1 x p').trans (z2.2.2.2.1.trans (m.1 x p).symm)
    by_cases x : a0 = 1
    · exact (s.2.1 x p').trans (z2.2.1.trans (m.2.1 x p).symm)
    by_cases x : a0 = 2
    · exact (s.2.2.1 x p').trans (z2.2.2.1.trans (m.2.2.1 x p).symm)
    by_cases x : a0 = 3
    · exact (s.2.2.2.1 x p').trans (z3.1.trans (m.2.2.2.1 x p).symm)
    by_cases x : a0 = 4
    · exact (s.2.2.2.2.1 x p').trans (z2.2.2.2.2.trans (m.2.2.2.2.1 x p).symm)
    by_cases x : a0 = 5
    · exact (s.2.2.2.2.2.1 x p').trans (z3.2.2.2.trans (m.2.2.2.2.2.1 x).symm)
    by_cases x : a0 = 6
    · exact (s.2.2.2.2.2.2.1 x p').trans (z3.2.1.trans (m.2.2.2.2.2.2.1 x p).symm)
    have x : a0 = 8 := by omega
    exact (s.2.2.2.2.2.2.2.2.1 x p').trans (z3.2.2.1.trans (m.2.2.2.2.2.2.2.2.1 x p).symm)
-- end
theorem iv_end (hI : Inv γ δ) : pq (e_L_end γ w a0) (f_M_end δ a0) (fun y z => z.2 0 2 = y.1 ∧ Inv y.2.1 z.2) := by
  intro y z e1 e2
  have h := hI.s2 (v := 0)
  have z2 : setA δ 0 2 0 0 2 = 0 := s02_at
  have m : (z = (0, setA (setA δ 0 2 0) 0 2 1) ∧ (a0 < 0 ∨ setA δ 0 2 0 0 1 < a0)) ∨ (z = (a0, setA (setA δ 0 2 0) 0 1 a0) ∧ 0 ≤ a0 ∧ a0 ≤ setA δ 0 2 0 0 1) := by
    revert z
    unfold f_M_end
    refine pc_a ?_
    generalize setA δ 0 2 0 = δ1
    have bad : (a0 < 0 ∨ δ1 0 1 < a0) → pc (f_M_end_b19 δ1 a0 1) (fun z => (z = (0, setA δ1 0 2 1) ∧ (a0 < 0 ∨ δ1 0 1 < a0)) ∨ (z = (a0, setA δ1 0 1 a0) ∧ 0 ≤ a0 ∧ a0 ≤ δ1 0 1)) := fun q => by
      unfold f_M_end_b19 f_M_end_b24
      rw [bndN_eq rf_1, if_neg (by decide)]
      exact pc_s (Or.inl ⟨rfl, q⟩)
    refine pc_i (fun q => bad (Or.inl q)) (fun q => pc_i (fun q2 => ?_) (fun q2 => bad (by omega)))
    unfold f_M_end_b24
    rw [bndN_eq rf_0, if_pos rfl]
    exact pc_a (pc_s (Or.inr ⟨rfl, by omega, q2⟩))
  have s : (y = (1, γ, w) ∧ (a0 < 0 ∨ γ 0 10 < a0)) ∨ (y = (0, setA γ 0 10 a0, a0) ∧ 0 ≤ a0 ∧ a0 ≤ γ 0 10) := by
    revert y
    unfold e_L_end
    refine hclp (R := fun z => z = (a0, setA γ 0 10 a0) ∧ 0 ≤ a0 ∧ a0 ≤ γ 0 10) (E := fun e => e = 2 ∧ (a0 < 0 ∨ γ 0 10 < a0)) ?_ ?_ (fun r γ' q => pc_s (Or.inr ⟨by rw [(Prod.mk.inj q.1).1, (Prod.mk.inj q.1).2], q.2⟩)) (fun e q => pc_i (fun _ => pc_s (Or.inl ⟨rfl, q.2⟩)) (fun _ => pc_n))
    · unfold f_S_end f_S_end_b12
      exact pc_i (fun _ => pc_n) (fun q => pc_i (fun q2 => pc_a (pc_s ⟨rfl, by omega, q2⟩)) (fun _ => pc_n))
    · unfold g_S_end g_S_end_b12
      exact pc_i (fun q => pc_s ⟨rfl, Or.inl q⟩) (fun q => pc_i (fun q2 => pc_n) (fun q2 => pc_s ⟨rfl, by omega⟩))
  generalize setA δ 0 2 0 = δ1 at *
  have ⟨r1, r2, r3, r4, r5, r6⟩ := h.1
  rcases s with ⟨s1, s2⟩ | ⟨s1, s2⟩
  · rcases m with ⟨m1, m2⟩ | ⟨m1, m2⟩
    · rw [s1, m1]; exact ⟨s02_at (δ := δ1), h.s2⟩
    · exfalso; omega
  · rcases m with ⟨m1, m2⟩ | ⟨m1, m2⟩
    · exfalso; omega
    · rw [s1, m1]
      refine ⟨by show setA δ1 0 1 a0 0 2 = 0; rw [stA, if_neg (by omega)]; exact z2, h.kc (fun j k q1 q2 q3 q4 q5 => ?_) (fun j k q1 q2 q3 q4 => ?_) ⟨fun i q1 q2 => ?_, ?_, fun k q1 q2 => ?_, ?_, ?_, ?_⟩⟩
      · show setA γ 0 10 a0 j k = _; rw [stA, if_neg (by omega)]
      · show setA δ1 0 1 a0 j k = _; rw [stA, if_neg (by omega)]
      · show setA γ 0 10 a0 13 i = _; rw [stA, if_neg (by omega)]; exact r1 i q1 q2
      · show setA γ 0 10 a0 0 10 = setA δ1 0 1 a0 0 1; rw [stA, if_pos ⟨rfl, rfl⟩, stA, if_pos ⟨rfl, rfl⟩]
      · have q2 : k < setA δ1 0 1 a0 0 1 := q2
        rw [stA, if_pos ⟨rfl, rfl⟩] at q2
        show setA δ1 0 1 a0 1 k = setA γ 0 10 a0 13 k; rw [stA, if_neg (by omega), stA, if_neg (by omega)]
        exact r3 k q1 (by omega)
      · show setA γ 0 10 a0 0 11 = setA δ1 0 1 a0 0 55; rw [stA, if_neg (by omega), stA, if_neg (by omega)]; exact r4
      · show setA γ 0 10 a0 1 7 = setA δ1 0 1 a0 0 3; rw [stA, if_neg (by omega), stA, if_neg (by omega)]; exact r5
      · show setA γ 0 10 a0 1 8 = setA δ1 0 1 a0 0 4; rw [stA, if_neg (by omega), stA, if_neg (by omega)]; exact r6
-- feed
theorem iv_feed {a2 a3 a4 : Int} (h : Inv γ δ) (hl : 0 ≤ γ 0 10 ∧ γ 0 10 ≤ 60000) : pq (e_L_feed γ w a0 a1 a2 a3 a4) (f_M_feed δ a0 a1 a2 a3 a4) (fun y z => y.1 = 0 → Inv y.2.1 z.2) := by
  intro y z e1 e2
  revert y
  unfold e_L_feed
  have r2 := h.1.2.1
  refine hclp (R := fun y => Inv γ δ → Inv y.2 z.2) (E := fun _ => True) (fun y e1 h => ?_) (fun _ _ => trivial) (fun r γ' q => pc_s (fun _ => q h)) (fun e _ => pc_i (fun _ => pc_s (fun q => by exfalso; have q : (1 : Int) = 0 := q; omega)) (fun _ => pc_n))
  have s := s_feed y e1
  have m := m_feed2 (by omega) z e2
  exact h.kc (fun j k q1 q2 q3 q4 q5 => by rw [s, if_neg (by omega), if_neg (by omega)]) (fun j k q1 q2 q3 q4 => by rw [m j k (by omega), if_neg (by omega), if_neg (by omega)]) (rl_feed h.1 hl y z e1 e2)
-- input
def MiP (δ : St) (a0 a1 : Int) (z : Int × St) : Prop := (z = (0, setA δ 0 2 1) ∧ (δ 0 49 < 0 ∨ a0 < 0 ∨ δ 5 (δ 0 49) ≤ a0)) ∨ (z = (0, setA δ 0 2 2) ∧ (0 ≤ δ 0 49 ∧ 0 ≤ a0 ∧ a0 < δ 5 (δ 0 49)) ∧ δ 14 (δ 4 (δ 0 49) + a0) ≠ 0 ∧ (a1 < 0 ∨ 1 < a1)) ∨ (z = (δ 50 a0, setA δ 50 a0 a1) ∧ (0 ≤ δ 0 49 ∧ 0 ≤ a0 ∧ a0 < δ 5 (δ 0 49)) ∧ (δ 14 (δ 4 (δ 0 49) + a0) = 0 ∨ 0 ≤ a1 ∧ a1 ≤ 1))
theorem mi_pc : pc (f_M_input δ a0 a1) (MiP (setA δ 0 2 0) a0 a1) := by
  unfold f_M_input
  refine pc_a ?_
  generalize setA δ 0 2 0 = δ1
  have bad : (δ1 0 49 < 0 ∨ a0 < 0 ∨ δ1 5 (δ1 0 49) ≤ a0) → pc (f_M_input_b18 δ1 a0 a1 1) (MiP δ1 a0 a1) := fun q => by
    unfold f_M_input_b18 f_M_input_b23
    rw [bndN_eq rf_1, if_pos (by decide)]
    exact pc_s (Or.inl ⟨rfl, q⟩)
  refine pc_i (fun q => bad (Or.inl q)) (fun q => pc_i (fun q2 => ?_) (fun q2 => bad (by omega)))
  unfold f_M_input_b23
  rw [bndN_eq rf_0, if_neg (by decide)]
  refine pc_c (fun _ => pc_i (fun q3 => ?_) (fun q3 => ?_))
  · unfold f_M_input_b49
    rw [bndN_eq rf_0, if_neg (by decide)]
    have gd : (δ1 14 (δ1 4 (δ1 0 49) + a0) = 0 ∨ 0 ≤ a1 ∧ a1 ≤ 1) → pc (f_M_input_b89 δ1 a0 a1 2) (MiP δ1 a0 a1) := fun q4 => by
      unfold f_M_input_b89 f_M_input_b90
      rw [bndN_eq rf_0, if_pos rfl]
      exact pc_c (fun _ => pc_a (pc_c (fun _ => pc_a (pc_s (Or.inr (Or.inr ⟨rfl, ⟨by omega, q2, q3⟩, q4⟩))))))
    have bd : δ1 14 (δ1 4 (δ1 0 49) + a0) ≠ 0 → (a1 < 0 ∨ 1 < a1) → pc (f_M_input_b85 δ1 a0 a1 2) (MiP δ1 a0 a1) := fun q4 q5 => by
      unfold f_M_input_b85 f_M_input_b90
      rw [bndN_eq rf_1, if_neg (by decide)]
      exact pc_s (Or.inr (Or.inl ⟨rfl, ⟨by omega, q2, q3⟩, q4, q5⟩))
    exact pc_c (fun _ => pc_c (fun _ => pc_c (fun _ => pc_i (fun q4 => gd (Or.inl q4)) (fun q4 => pc_i (fun q5 => bd q4 (Or.inl q5)) (fun q5 => pc_i (fun q6 => gd (Or.inr ⟨by omega, q6⟩)) (fun q6 => bd q4 (by omega)))))))
  · unfold f_M_input_b49
    rw [bndN_eq rf_1, if_pos (by decide)]
    exact pc_s (Or.inl ⟨rfl, by omega⟩)
theorem li_pc : pc (e_L_input γ w a0 a1) (fun y => (y = (1, γ, w) ∧ (γ 0 12 < 0 ∨ a0 < 0 ∨ γ 26 (γ 0 12) ≤ a0)) ∨ (y = (2, γ, w) ∧ (0 ≤ γ 0 12 ∧ 0 ≤ a0 ∧ a0 < γ 26 (γ 0 12)) ∧ γ 33 (γ 25 (γ 0 12) + a0) = 1 ∧ a1 ≠ 0 ∧ a1 ≠ 1) ∨ (y = (0, setA γ 12 a0 a1, γ 12 a0) ∧ (0 ≤ γ 0 12 ∧ 0 ≤ a0 ∧ a0 < γ 26 (γ 0 12)) ∧ (γ 33 (γ 25 (γ 0 12) + a0) ≠ 1 ∨ a1 = 0 ∨ a1 = 1))) := by
  unfold e_L_input
  refine hclp (R := fun z => z = (γ 12 a0, setA γ 12 a0 a1) ∧ (0 ≤ γ 0 12 ∧ 0 ≤ a0 ∧ a0 < γ 26 (γ 0 12)) ∧ (γ 33 (γ 25 (γ 0 12) + a0) ≠ 1 ∨ a1 = 0 ∨ a1 = 1)) (E := fun e => (e = 3 ∧ (γ 0 12 < 0 ∨ a0 < 0 ∨ γ 26 (γ 0 12) ≤ a0)) ∨ (e = 2 ∧ (0 ≤ γ 0 12 ∧ 0 ≤ a0 ∧ a0 < γ 26 (γ 0 12)) ∧ γ 33 (γ 25 (γ 0 12) + a0) = 1 ∧ a1 ≠ 0 ∧ a1 ≠ 1)) ?_ ?_ (fun r γ' q => pc_s (Or.inr (Or.inr ⟨by rw [(Prod.mk.inj q.1).1, (Prod.mk.inj q.1).2], q.2⟩))) (fun e q => ?_)
  · unfold f_S_input f_S_input_b27 f_S_input_b78
    exact pc_i (fun _ => pc_n) (fun q1 => pc_i (fun _ => pc_n) (fun q2 => pc_c (fun _ => pc_i (fun q3 => pc_c (fun _ => pc_c (fun _ => pc_c (fun _ => pc_i (fun q4 => pc_c (fun _ => pc_a (pc_c (fun _ => pc_a (pc_s ⟨rfl, by omega, Or.inl q4⟩))))) (fun q4 => pc_i (fun q5 => pc_c (fun _ => pc_a (pc_c (fun _ => pc_a (pc_s ⟨rfl, by omega, Or.inr (Or.inl q5)⟩))))) (fun q5 => pc_i (fun q6 => pc_c (fun _ => pc_a (pc_c (fun _ => pc_a (pc_s ⟨rfl, by omega, Or.inr (Or.inr q6)⟩))))) (fun _ => pc_n))))))) (fun _ => pc_n))))
  · unfold g_S_input g_S_input_b27 g_S_input_b78
    exact pc_i (fun q1 => pc_s (Or.inl ⟨rfl, Or.inl q1⟩)) (fun q1 => pc_i (fun q2 => pc_s (Or.inl ⟨rfl, by omega⟩)) (fun q2 => pc_c (fun _ => pc_i (fun q3 => pc_c (fun _ => pc_c (fun _ => pc_c (fun _ => pc_i (fun q4 => pc_c (fun _ => pc_a pc_n)) (fun q4 => pc_i (fun q5 => pc_c (fun _ => pc_a pc_n)) (fun q5 => pc_i (fun q6 => pc_c (fun _ => pc_a pc_n)) (fun q6 => pc_s (Or.inr ⟨rfl, by omega, by omega, q5, q6⟩)))))))) (fun q3 => pc_s (Or.inl ⟨rfl, by omega⟩)))))
  · rcases q with ⟨q, r⟩ | ⟨q, r⟩
    · rw [q]; exact pc_s (Or.inl ⟨rfl, r⟩)
    · rw [q]; exact pc_s (Or.inr (Or.inl ⟨rfl, r⟩))
theorem PrX.inp (h : PrX γ δ) (q0 : 0 ≤ a0) (q1 : a0 < δ 5 (δ 0 49)) (hb : δ 14 (δ 4 (δ 0 49) + a0) = 0 ∨ 0 ≤ a1 ∧ a1 ≤ 1) : γ 12 a0 = δ 50 a0 ∧ PrX (setA γ 12 a0 a1) (setA δ 50 a0 a1) := by
  have sz := h.sz
  obtain ⟨G, D, σ, κ, P, τ, V, S, ⟨st, tb⟩, ⟨b1, b2, b3, b4, b5⟩, v, k⟩ := h
  have l := st.1.1
  have m0 := l.2.2.2.2.2.2.2.1
  have m18 := l.2.1
  have ix := (l.2.2.2.2.2.2.2.2.1 0 (by omega) (by have := l.2.2.1; omega)).1.2.2.2.2
  have d0 : ∀ k, k ≠ 2 → k ≠ 72 → k ≠ 82 → k ≠ 83 → δ 0 k = D 0 k := fun k q1 q2 q3 q4 => b2 0 k (by omega) (by omega) (by omega) (by omega)
  have dr : ∀ j : Nat, 1 ≤ j → j < 46 → δ j = D j := fun j q1 q2 => funext fun k => b2 j k (by omega) (by omega) (by omega) (by omega)
  have e49 : δ 0 49 = D 0 18 - 1 := by have := d0 18 (by omega) (by omega) (by omega) (by omega); omega
  have szl := sz.2.2.2.2
  have s1 : ∀ (j : Nat) (k : Int), j ≠ 12 → setA γ 12 a0 a1 j k = γ j k := fun j k q => by rw [stA, if_neg (by omega)]
  have m1 : ∀ (j : Nat) (k : Int), j ≠ 50 → setA δ 50 a0 a1 j k = δ j k := fun j k q => by rw [stA, if_neg (by omega)]
  rw [e49, dr 4 (by omega) (by omega), dr 5 (by omega) (by omega), dr 6 (by omega) (by omega)] at szl
  rw [e49, dr 5 (by omega) (by omega)] at q1
  rw [e49, dr 14 (by omega) (by omega), dr 4 (by omega) (by omega)] at hb
  have ty : tyV D a0 = D 14 (D 4 (D 0 18 - 1) + a0) := by
    have i := ix a0 q0 (by rw [m0.1]; show a0 < D 4 (D 0 18 - 1 + 1) - D 4 (D 0 18 - 1); omega)
    rw [m0.2.2, Int.zero_add] at i
    unfold tyV
    rw [i.1, i.2, m0.1]
  refine ⟨(b5 a0 q0 q1).1, G, D, σ, κ, P, τ, V, S, ⟨st, tb⟩, ⟨b1.fr (fun j k _ _ _ w _ _ _ _ _ _ _ _ => by rw [stA, if_neg (by omega)]) ⟨by rw [stA, if_neg (by omega)], by rw [stA, if_neg (by omega)]⟩ (fun s _ => by rw [stA, if_neg (by omega)]) (by rw [stA, if_neg (by omega)]), b2.set (by omega), ?_, ?_, fun i w1 w2 => ?_⟩, ?_, ?_⟩
  · rw [stA, if_neg (by omega), stA, if_neg (by omega), stA, if_neg (by omega)]; exact b3
  · exact b4.ag st (fun i _ _ => by rw [stA, if_neg (by omega)]) (fun i _ _ => by rw [stA, if_neg (by omega)])
  · rw [stA, stA]
    by_cases e : i = a0
    · rw [if_pos ⟨rfl, e⟩, if_pos ⟨rfl, e⟩]
      refine ⟨rfl, fun t => ?_⟩
      rw [e, ty] at t
      unfold Bl; omega
    · rw [if_neg (fun r => e r.2), if_neg (fun r => e r.2)]; exact b5 i w1 w2
  · unfold PrV at v ⊢
    refine ⟨by rw [stA, if_neg (by omega), stA, if_neg (by omega)]; exact v.1, fun n k w1 w2 => ?_⟩
    rw [stA, if_neg (by omega)] at n
    rw [s1 76 k (by omega), m1 55 k (by omega), m1 51 k (by omega)]
    exact v.2 n k w1 w2
  · rcases k with k | ⟨k1, k2, k3, k4, k5⟩
    · exact Or.inl (by rw [stA, if_neg (by omega), stA, if_neg (by omega)]; exact k)
    · refine Or.inr ⟨by rw [stA, if_neg (by omega)]; exact k1, by rw [stA, if_neg (by omega), stA, if_neg (by omega)]; exact k2, by rw [stA, if_neg (by omega)]; exact k3, k4.ag st (fun i _ _ => by rw [stA, if_neg (by omega)]) (fun i _ _ => by rw [stA, if_neg (by omega)]), fun k w1 w2 => ?_⟩
      rw [s1 77 k (by omega), m1 58 k (by omega), m1 57 k (by omega)]
      exact k5 k w1 w2
theorem iv_input (hI : Inv γ δ) : pq (e_L_input γ w a0 a1) (f_M_input δ a0 a1) AnQ := by
  intro y z e1 e2
  have s := li_pc y e1
  have m := mi_pc z e2
  have h := hI.s2 (v := 0)
  have z2 : setA δ 0 2 0 0 2 = 0 := s02_at
  generalize setA δ 0 2 0 = δ1 at *
  unfold MiP at m
  rcases h.2 with q | q
  · rcases s with ⟨s1, s2⟩ | ⟨s1, s2⟩ | ⟨s1, s2⟩
    · rcases m with ⟨m1, m2⟩ | ⟨m1, m2⟩ | ⟨m1, m2⟩
      · rw [s1, m1]; exact an_rf h (by decide)
      · exfalso; omega
      · exfalso; omega
    · exfalso; omega
    · exfalso; omega
  · have sz := q.sz
    have ⟨t1, t2, t3, t4, t5⟩ := sz
    rw [t2.1] at s
    rcases s with ⟨s1, s2⟩ | ⟨s1, s2, s3⟩ | ⟨s1, s2, s3⟩
    · rcases m with ⟨m1, m2⟩ | ⟨m1, m2⟩ | ⟨m1, m2⟩
      · rw [s1, m1]; exact an_rf h (by decide)
      · exfalso; omega
      · exfalso; omega
    · have t := t4 a0 (by omega) (by omega)
      rcases m with ⟨m1, m2⟩ | ⟨m1, m2⟩ | ⟨m1, m2⟩
      · exfalso; omega
      · rw [s1, m1]; exact an_rf h (by decide)
      · exfalso; omega
    · have t := t4 a0 (by omega) (by omega)
      rcases m with ⟨m1, m2⟩ | ⟨m1, m2⟩ | ⟨m1, m2, m3⟩
      · exfalso; omega
      · exfalso; omega
      · have p := q.inp m2.2.1 m2.2.2 m3
        rw [s1, m1]
        refine ⟨by show setA δ1 50 a0 a1 0 2 = 0; rw [stA, if_neg (by omega)]; exact z2, fun _ => p.1, h.1.kp (fun j k w1 w2 w3 w4 w5 w6 w7 w8 w9 w10 w11 => ?_) (KM.rf.set (by omega)), Or.inr p.2⟩
        show setA γ 12 a0 a1 j k = _
        rw [stA, if_neg (by omega)]
end CA
