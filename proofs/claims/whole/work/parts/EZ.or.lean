/-! equality: the order -/
theorem wl_L226 {c : Int} : ∀ (n : Nat) (γ : St) (v : Int), LsI c γ v → 0 ≤ v → v ≤ γ 0 51 → γ 0 51 - v < n → wp (f_M_read_L226 (fun γ => some (0, γ)) n γ v) (fun z => LsI c z.2 (z.2 0 51)) := by
  intro n
  induction n with
  | zero => intro γ v h1 h2 h3 h4; exfalso; omega
  | succ n ih =>
    intro γ v h1 h2 h3 h4
    have ⟨m, m49, l, cs, p1, p2, p3⟩ := h1
    have m51 := l.2.2.2.1
    have m18 := l.2.1
    unfold f_M_read_L226
    refine wp_ite (fun q => ?_) (fun q => ?_)
    · rw [show v = γ 0 51 by omega] at h1
      exact wp_some h1
    · refine wp_bnd (w_causes0 l cs h2 (by omega)) (fun r γ' z => ?_)
      obtain ⟨z1, z2, z3, z4, z5⟩ := z
      have z1 : CsM γ' := z1
      have z2 : ∀ j k, (j = 0 → k ≠ 67) → (j = 44 → k ≠ v) → (j = 45 → k < γ 0 67) → γ' j k = γ j k := z2
      have z3 : γ 0 67 ≤ γ' 0 67 := z3
      have z4 : γ' 44 v = γ 0 67 := z4
      have z5 : γ 42 v = 0 → γ 43 v < γ 5 (γ 35 0) → γ' 0 67 = γ 0 67 := z5
      have g : ∀ j k, (j = 0 → k ≠ 67) → j ≠ 44 → j ≠ 45 → γ' j k = γ j k := fun j k q1 q2 q3 => z2 j k q1 (by omega) (by omega)
      have fl : FL γ γ' := fun j k q1 q2 => g j k (by omega) (by omega) (by omega)
      have mm := m.rd m49 (γ' := γ') (fun k q => g 0 k (by omega) (by omega) (by omega)) (by rw [g 0 55 (by omega) (by omega) (by omega)]; exact m.2.2.2.2.2.2.1) (fun k => g 1 k (by omega) (by omega) (by omega)) (m.2.2.2.1.fr (fun k => g 14 k (by omega) (by omega) (by omega)) (fun k => g 28 k (by omega) (by omega) (by omega)) (fun k => g 25 k (by omega) (by omega) (by omega))) (m.2.2.2.2.1.fr (fun j k q => g j k (by omega) (by omega) (by omega)))
      have c0 := cs.1
      have e51 := g 0 51 (by omega) (by omega) (by omega)
      have e5 : γ' 5 (γ' 0 18 - 1) = γ 5 (γ 0 18 - 1) := by rw [g 0 18 (by omega) (by omega) (by omega), g 5 _ (by omega) (by omega) (by omega)]
      refine wp_chk (by omega) (ih γ' (v + 1) ⟨mm.1, mm.2, l.fl fl, z1, fun u q1 q2 => ?_, fun u q1 q2 q3 => ?_, fun _ q3 => ?_⟩ (by omega) (by omega) (by omega))
      · by_cases q3 : u = v
        · rw [q3, z4]; omega
        · rw [z2 44 u (by omega) (fun _ => q3) (by omega)]
          have := p1 u q1 (by omega)
          omega
      · rw [e5] at q3
        rw [z2 44 u (by omega) (by omega) (by omega)]
        by_cases q4 : u + 1 = v
        · rw [q4, z4]
          have k := p3 (by omega) (by omega)
          rw [show v - 1 = u by omega] at k
          exact k
        · rw [z2 44 (u + 1) (by omega) (by omega) (by omega)]
          exact p2 u q1 (by omega) q3
      · rw [e5] at q3
        rw [show v + 1 - 1 = v by omega] at q3 ⊢
        rw [z4]
        have m0 := l.2.2.2.2.2.2.2.1
        have x := (l.2.2.2.2.2.2.2.2.1 0 (by omega) (by have := l.2.2.1; omega)).1
        have sz := (l.1 (γ 0 18 - 1) (by omega) (by omega)).sz
        have nv : nvN γ (γ 0 18 - 1) = γ 4 (γ 0 18 - 1 + 1) - γ 4 (γ 0 18 - 1) := rfl
        have y := x.2.2.2.2 v h2 (by rw [m0.1]; omega)
        rw [m0.2.2, show 0 + v = v by omega] at y
        exact (z5 y.1 (by rw [y.2, m0.1]; exact q3)).symm
theorem ls_cg {c : Int} {γ : St} (h : LsI c γ (γ 0 51)) : CgI (setA γ 44 (γ 0 51) (γ 0 67)) ∧ LkM (setA γ 44 (γ 0 51) (γ 0 67)) ∧ MiI (setA γ 44 (γ 0 51) (γ 0 67)) ∧ MoI c (setA γ 44 (γ 0 51) (γ 0 67)) := by
  have ⟨m, m49, l, cs, h1, h2, h3⟩ := h
  have m51 := l.2.2.2.1
  have m18 := l.2.1
  have s : ∀ j k, setA γ 44 (γ 0 51) (γ 0 67) j k = if j = 44 ∧ k = γ 0 51 then γ 0 67 else γ j k := fun j k => by rw [stA]
  generalize setA γ 44 (γ 0 51) (γ 0 67) = γ1 at *
  have s0 : ∀ j k, (j = 44 → k ≠ γ 0 51) → γ1 j k = γ j k := fun j k q => by rw [s, if_neg (by omega)]
  have s44 : γ1 44 (γ 0 51) = γ 0 67 := by rw [s, if_pos ⟨rfl, rfl⟩]
  have fl : FL γ γ1 := fun j k q1 q2 => s0 j k (by omega)
  have l1 := l.fl fl
  have mm := m.rd m49 (γ' := γ1) (fun k q => s0 0 k (by omega)) (by rw [s0 0 55 (by omega)]; exact m.2.2.2.2.2.2.1) (fun k => s0 1 k (by omega)) (m.2.2.2.1.fr (fun k => s0 14 k (by omega)) (fun k => s0 28 k (by omega)) (fun k => s0 25 k (by omega))) (m.2.2.2.2.1.fr (fun j k q => s0 j k (by omega)))
  have e51 := s0 0 51 (by omega)
  have e67 := s0 0 67 (by omega)
  have e18 := s0 0 18 (by omega)
  have cg : CgI γ1 := by
    refine ⟨by omega, ⟨by rw [e67]; exact cs.1, fun i q1 q2 => by rw [s0 45 i (by omega), e51]; exact cs.2 i q1 (by omega)⟩, fun v q1 q2 => ?_⟩
    rw [e67]
    by_cases q : v = γ 0 51
    · rw [q, s44]; have := cs.1; omega
    · rw [s0 44 v (fun _ => q)]; exact h1 v q1 (by omega)
  have mi : MiI γ1 := fun v q1 q2 => by
    rw [e18, s0 5 _ (by omega)] at q2
    have x := (l.2.2.2.2.2.2.2.2.1 0 (by omega) (by have := l.2.2.1; omega)).1.2.1
    have m0 := l.2.2.2.2.2.2.2.1
    rw [m0.1] at x
    have nv : nvN γ (γ 0 18 - 1) = γ 4 (γ 0 18 - 1 + 1) - γ 4 (γ 0 18 - 1) := rfl
    have sz := (l.1 (γ 0 18 - 1) (by omega) (by omega)).sz
    by_cases q : v + 1 = γ 0 51
    · rw [s0 44 v (by omega), q, s44]
      have k := h3 (by omega) (by omega)
      rw [show γ 0 51 - 1 = v by omega] at k
      exact k
    · rw [s0 44 v (by omega), s0 44 (v + 1) (by omega)]; exact h2 v q1 (by omega) q2
  exact ⟨cg, l1, mi, mm.1⟩
/-- the class sorts, and faults where something causes itself -/
def srT (γ6 : St) : Option (Int × St) :=
  bndN (f_Od_sort γ6) fun _ γ9 =>
  if (γ9 10 13) < 0 then
  (some (1, γ9))
  else
  (chk (inb (γ9 10 13) 6000) (bndN (f_Tk_failAt γ9 7 (γ9 60 (γ9 10 13))) fun r18 γ19 =>
  if r18 = 0 then
  (some (0, γ19))
  else
  (some (1, γ19))))
def SoQ (γ6 : St) (V : Int) (γ9 : St) : Prop := OdF γ6 γ9 ∧ SrI γ9 V (γ6 8 5) ∧ (0 ≤ γ9 10 13 → Cy (Ed γ6) (γ9 10 13)) ∧ ∀ s, 0 ≤ s → s < γ6 8 5 → Cy (Ed γ6) s → 0 ≤ γ9 10 13 ∧ γ9 10 13 ≤ s
theorem srT_pc {γ6 : St} {V : Int} (h : LdI γ6 V) (h7 : γ6 1 7 = 0) : pc (srT γ6) (fun z => ∃ γ9, (SoQ γ6 V γ9 ∧ ∃ r, f_Od_sort γ6 = some (r, γ9)) ∧ ((γ9 10 13 < 0 ∧ z = (1, γ9)) ∨ (0 ≤ γ9 10 13 ∧ z = (0, faS γ9 7 (γ9 60 (γ9 10 13)))))) := by
  unfold srT
  refine pc_b (P := fun z => SoQ γ6 V z.2 ∧ f_Od_sort γ6 = some z) (fun y e => ⟨(w_sort h).pc y e, e⟩) (fun r γ9 w => ?_)
  have ws : ∃ r, f_Od_sort γ6 = some (r, γ9) := ⟨r, w.2⟩
  have w : SoQ γ6 V γ9 := w.1
  have e7 : γ9 1 7 = 0 := by rw [w.1 1 7 (by omega) (by omega)]; exact h7
  refine pc_i (fun q => pc_s ⟨γ9, ⟨w, ws⟩, Or.inl ⟨q, rfl⟩⟩) (fun q => pc_c (fun _ => pc_b (failAt_pc e7) (fun r γ' e => ?_)))
  cases e
  rw [if_pos rfl]
  exact pc_s ⟨γ9, ⟨w, ws⟩, Or.inr ⟨by omega, rfl⟩⟩
theorem rp_iff {E F : Int → Int → Prop} {P : Int → Prop} (cl : ∀ a b, P a → E a b → P b) (eq : ∀ a b, P a → (E a b ↔ F a b)) {a b : Int} (ha : P a) : Rp E a b ↔ Rp F a b := by
  have go : ∀ {E F : Int → Int → Prop} (cl : ∀ a b, P a → E a b → P b) (eq : ∀ a b, P a → E a b → F a b), Rp E a b → Rp F a b := fun {E F} cl eq ⟨c, h1, h2⟩ => by
    have T := Rc.cl (E := E) (P := fun s => P s ∧ Rp F a s) (fun x y p q => ⟨cl x y p.1 q, p.2.st (eq x y p.1 q)⟩) h2 ⟨cl a c ha h1, Rp.ed (eq a c ha h1)⟩
    exact T.2
  exact ⟨fun h => go cl (fun a b p q => (eq a b p).1 q) h, fun h => go (fun a b p q => cl a b p ((eq a b p).2 q)) (fun a b p q => (eq a b p).2 q) h⟩
/-- what stands when both have an order -/
def OkO (V : Int) (γ6 γ9 δ3 δ5 δ' : St) : Prop := SoQ γ6 V γ9 ∧ (γ9 10 13 < 0 ∧ ∃ r, f_Od_sort γ6 = some (r, γ9)) ∧ (∀ s, 0 ≤ s → s < γ6 8 5 → ¬ Cy (Ed γ6) s) ∧ CgI δ5 ∧ (∀ u c, 0 ≤ u → u < V → (EdM δ5 u c ↔ CsS δ3 u c)) ∧ (∀ j k, (j = 0 → k ≠ 67) → j ≠ 44 → j ≠ 45 → δ5 j k = δ3 j k) ∧ OrI δ5 δ' (δ5 0 51) ∧ ∀ j k, j < 46 ∨ 49 < j → δ' j k = δ5 j k
theorem pq_ord {c V : Int} {γ6 δ3 : St} {σ : Int → Int → Int} {κ P : Int → Int} (hLd : LdI γ6 V) (h7 : γ6 1 7 = 0) (lb : LB V γ6 δ3 σ κ) (ln : LnM δ3 P) (ls : LsI c δ3 0) (z67 : δ3 0 67 = 0) (pl : ∀ u p c, 0 ≤ u → u < V → CsS δ3 u c → PlV δ3 u p → γ6 60 u = p) {K : Int → St → Option (Int × St)} {Q : Int × St → Int × St → Prop} (bad : ∀ γ9 δ' p, OdF γ6 γ9 → (∀ j k, (j = 0 → k ≠ 67) → (j < 44 ∨ 49 < j) → δ' j k = δ3 j k) → pq (K 0 (faS γ9 7 p)) (f_M_read_h δ' 7 p) Q) (ok : ∀ γ9 δ5 δ', OkO V γ6 γ9 δ3 δ5 δ' → pq (K 1 γ9) (chk (i32 ((δ' 0 18) - 1)) (ap (setA δ' 0 49 ((δ' 0 18) - 1)) fun γ17 => f_M_read_b292 γ17)) Q) : pq (bndN (srT γ6) K) (f_M_read_L226 f_M_read_b245 FU δ3 0) Q := by
  have fu := FU_v
  have l3 := ln.1
  have m51 := l3.2.2.2.1
  have kV : V = δ3 0 51 := lb.2.2.2.2.2.1.2
  rw [L226_s]
  have cy := cy_L226 ln FU δ3 0 (fun _ => 0) ⟨fun _ _ _ _ _ => rfl, fun u q1 q2 => by omega⟩ ⟨fun _ => Or.inl rfl, by rw [z67]; exact sm_nn (fun _ _ _ => Int.le_refl _), fun l q => by cases q⟩ (Int.le_refl _) m51.1
  have wl := (wl_L226 FU δ3 0 ls (Int.le_refl _) m51.1 (by omega)).pc
  refine pq_br (P := fun z => CyX δ3 z.2 (δ3 0 51) ∧ LsI c z.2 (z.2 0 51)) (fun y e => ⟨cy y e, wl y e⟩) (fun r δ4 w => ?_)
  obtain ⟨cx, l4⟩ := w
  have cx : CyX δ3 δ4 (δ3 0 51) := cx
  have l4 : LsI c δ4 (δ4 0 51) := l4
  have e51 : δ4 0 51 = δ3 0 51 := cx.1 0 51 (by omega) (by omega) (by omega)
  obtain ⟨cg, lk5, mi, mo⟩ := ls_cg l4
  unfold f_M_read_b245
  refine pq_cr (fun _ => pq_ar ?_)
  have s : ∀ j k, setA δ4 44 (δ4 0 51) (δ4 0 67) j k = if j = 44 ∧ k = δ4 0 51 then δ4 0 67 else δ4 j k := fun j k => by rw [stA]
  generalize setA δ4 44 (δ4 0 51) (δ4 0 67) = δ5 at *
  have f5 : ∀ j k, (j = 0 → k ≠ 67) → j ≠ 44 → j ≠ 45 → δ5 j k = δ3 j k := fun j k q1 q2 q3 => by rw [s, if_neg (by omega)]; exact cx.1 j k q1 q2 q3
  have edm : ∀ u c, 0 ≤ u → u < V → (EdM δ5 u c ↔ CsS δ3 u c) := fun u c q1 q2 => by
    obtain ⟨_, b3⟩ := cx.2 u q1 (by omega)
    rw [b3 c]
    unfold EdM
    have e1 : δ5 44 u = δ4 44 u := by rw [s, if_neg (by omega)]
    have e2 : δ5 44 (u + 1) = if u + 1 < δ3 0 51 then δ4 44 (u + 1) else δ4 0 67 := by
      by_cases q : u + 1 < δ3 0 51
      · rw [if_pos q, s, if_neg (by omega)]
      · rw [if_neg q, s, if_pos ⟨rfl, by omega⟩]
    have e3 : ∀ i, δ5 45 i = δ4 45 i := fun i => by rw [s, if_neg (by omega)]
    rw [e1, e2]
    exact ⟨fun ⟨i, a1, a2, a3⟩ => ⟨i, a1, a2, by rw [← e3]; exact a3⟩, fun ⟨i, a1, a2, a3⟩ => ⟨i, a1, a2, by rw [e3]; exact a3⟩⟩
  have c51 : δ5 0 51 = V := by rw [f5 0 51 (by omega) (by omega) (by omega)]; omega
  have cr : ∀ u c, 0 ≤ u → u < V → CsS δ3 u c → 0 ≤ c ∧ c < V := fun u c q1 q2 q3 => by
    have := cg.ed q1 (by omega) ((edm u c q1 q2).2 q3)
    omega
  -- a variable causes itself in both or in none
  have cyc : ∀ v, 0 ≤ v → v < V → (Cy (Ed γ6) v ↔ Rp (EdM δ5) v v) := fun v q1 q2 => by
    have h1 : Cy (Ed γ6) v ↔ Rp (Ed γ6) v v := Iff.rfl
    rw [h1, re_iff lb cr q1 q2 q2]
    exact rp_iff (P := fun u => 0 ≤ u ∧ u < V) (fun a b p q => cr a b p.1 p.2 q) (fun a b p => (edm a b p.1 p.2).symm) ⟨q1, q2⟩
  have wo := (w_ordered cg lk5 mi mo.2.2.2.2.1.1 mo.2.2.2.2.1.2.1).pc
  have sr := srT_pc hLd h7
  have S1 := hLd.2.1
  refine pq_bH (R := fun y z => (∃ γ9, (SoQ γ6 V γ9 ∧ ∃ r, f_Od_sort γ6 = some (r, γ9)) ∧ ((γ9 10 13 < 0 ∧ y = (1, γ9)) ∨ (0 ≤ γ9 10 13 ∧ y = (0, faS γ9 7 (γ9 60 (γ9 10 13)))))) ∧ OdO δ5 z) (fun y z e1 e2 => ⟨sr y e1, wo z e2⟩) (fun r γ' er δ' hh => ?_) (fun r γ' x δ' hh => ?_)
  · obtain ⟨⟨γ9, ⟨so, sq⟩, hy⟩, o1, o2, o3⟩ := hh
    have o1 : ∀ j k, j < 46 ∨ 49 < j → δ' j k = δ5 j k := o1
    rcases o3 with ⟨⟨_, o3⟩, _⟩ | ⟨v, p, o3, o4, o5, o6, o7⟩
    · cases o3
    · have o3 : (Sum.inl er : (Int × Int) ⊕ Int) = .inl (7, p) := o3
      have eer : er = (7, p) := by cases o3; rfl
      have cv := (cyc v o4.1 (by omega)).2 o5
      have own := so.2.2.2 v o4.1 (by omega) cv
      have cw := so.2.2.1 own.1
      have sV := so.2.1.2.2.2.2.2
      rcases hy with ⟨q, _⟩ | ⟨_, hy⟩
      · omega
      · have ew : γ9 10 13 = v := by
          by_cases q : γ9 10 13 < v
          · exact absurd ((cyc _ own.1 (by omega)).1 cw) (o6 _ own.1 q)
          · omega
        have pv : PlV δ3 v p := o7.fr (fun j k q1 q2 => (f5 j k (by omega) (by omega) (by omega)).symm)
        have e60 : γ9 60 v = p := by
          obtain ⟨c0, ec, _⟩ := o5
          rw [so.1 60 v (by omega) (by omega)]
          exact pl v p c0 o4.1 (by omega) ((edm v c0 o4.1 (by omega)).1 ec) pv
        rw [ew, e60] at hy
        have h1 : r = 0 ∧ γ' = faS γ9 7 p := by cases hy; exact ⟨rfl, rfl⟩
        rw [h1.1, h1.2, eer]
        exact bad γ9 δ' p so.1 (fun j k q1 q2 => by rw [o1 j k (by omega)]; exact f5 j k q1 (by omega) (by omega))
  · obtain ⟨⟨γ9, ⟨so, sq⟩, hy⟩, o1, o2, o3⟩ := hh
    rcases o3 with ⟨_, o3⟩ | ⟨v, p, o3, _⟩
    · have o3 : OrI δ5 δ' (δ5 0 51) := o3
      have nc : ∀ u, 0 ≤ u → u < V → ¬ Rp (EdM δ5) u u := fun u q1 q2 => by
        have z0 := zrM_nn δ'
        have zz := o3.2.2.1
        have all : ∀ u, 0 ≤ u → u < δ5 0 51 → δ' 46 u = 1 := fun u q1 q2 => by
          rcases o3.2.1 u with w | w
          · exfalso
            have z1 : 1 ≤ zrM δ' := by
              unfold zrM
              have e1 : δ' 0 51 = δ5 0 51 := o3.1 0 51 (by omega) (by omega)
              rw [e1]
              have one : ∀ (n : Nat), u < n → 1 ≤ cntN (δ' 46) 0 0 n := by
                intro n
                induction n with
                | zero => intro h; exfalso; omega
                | succ n ih =>
                  intro h
                  show 1 ≤ cntN (δ' 46) 0 0 n + if δ' 46 (0 + (n : Int)) = 0 then 1 else 0
                  by_cases q : u = n
                  · rw [if_pos (by rw [show 0 + (n : Int) = u by omega]; exact w)]; have := (cntN_b (δ' 46) 0 0 n).1; omega
                  · have := ih (by omega)
                    have : (0 : Int) ≤ if δ' 46 (0 + (n : Int)) = 0 then 1 else 0 := by
                      by_cases q3 : δ' 46 (0 + (n : Int)) = 0
                      · rw [if_pos q3]; omega
                      · rw [if_neg q3]; omega
                    omega
              exact one _ (by omega)
            omega
          · exact w
        exact o3.nc q1 (by omega) (all u q1 (by omega))
      have noc : ¬ 0 ≤ γ9 10 13 := fun q => by
        have sV := so.2.1.2.2.2.2.2
        exact nc _ q (by omega) ((cyc _ q (by omega)).1 (so.2.2.1 q))
      rcases hy with ⟨q, hy⟩ | ⟨q, _⟩
      · have h1 : r = 1 ∧ γ' = γ9 := by cases hy; exact ⟨rfl, rfl⟩
        rw [h1.1, h1.2]
        exact ok γ9 δ5 δ' ⟨so, ⟨q, sq⟩, fun s q1 q2 w => noc (so.2.2.2 s q1 q2 w).1, cg, edm, f5, o3, o1⟩
      · exact absurd q noc
    · have o3 : (Sum.inr x : (Int × Int) ⊕ Int) = .inl (7, p) := o3
      cases o3
