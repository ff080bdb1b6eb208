/-! the reference's order: ordered -/
/-- the place of a variable -/
def PlV (γ : St) (v p : Int) : Prop := (γ 5 (γ 35 (γ 42 v)) ≤ γ 43 v ∧ p = γ 15 (γ 32 (γ 4 (γ 35 (γ 42 v)) + γ 43 v))) ∨ (γ 43 v < γ 5 (γ 35 (γ 42 v)) ∧ ∃ k, (γ 7 (γ 35 (γ 36 (γ 42 v))) ≤ k ∧ k < γ 7 (γ 35 (γ 36 (γ 42 v)) + 1)) ∧ (γ 19 k ≤ γ 37 (γ 42 v) ∧ γ 37 (γ 42 v) ≤ γ 17 k) ∧ p = γ 15 k)
theorem w_placeOfVariable_L71 {γ : St} {f x : Int} (nd : NdS γ f) (hx : 0 ≤ x ∧ x < 3200) (h2 : γ 37 x < peN γ f) : ∀ (n : Nat) (k : Int), γ 7 f ≤ k → k < γ 7 (f + 1) → γ 19 k ≤ γ 37 x → γ 7 (f + 1) - k < n → wp (f_M_placeOfVariable_L71 n γ x k) (fun z => z.2 = γ ∧ (0 ≤ z.1 ∧ z.1 ≤ 10240) ∧ ∃ k, (γ 7 f ≤ k ∧ k < γ 7 (f + 1)) ∧ (γ 19 k ≤ γ 37 x ∧ γ 37 x ≤ γ 17 k) ∧ z.1 = γ 15 k) := by
  have sz := nd.sz
  intro n
  induction n with
  | zero => intro k h3 h4 h5 h6; exfalso; omega
  | succ n ih =>
    intro k h3 h4 h5 h6
    have eq := nd.eq h3 h4
    unfold f_M_placeOfVariable_L71
    refine wp_chk (by omega) (wp_chk (by omega) (wp_ite (fun q => wp_chk (by omega) (wp_some ⟨rfl, eq.2.2.2.2.1, k, ⟨h3, h4⟩, ⟨h5, q⟩, rfl⟩)) (fun q => ?_)))
    have lt : k + 1 < γ 7 (f + 1) := by
      by_cases q2 : k + 1 = γ 7 (f + 1)
      · have := eq.2.2.2.2.2.2.2 q2; omega
      · omega
    have e19 := eq.2.2.2.2.2.2.1 lt
    exact wp_chk (by omega) (ih (k + 1) (by omega) lt (by omega) (by omega))
/-- the main node's inputs have no causes -/
def MiI (γ : St) : Prop := ∀ v, 0 ≤ v → v < γ 5 (γ 0 18 - 1) → γ 44 v = γ 44 (v + 1)
theorem w_placeOfVariable {γ : St} (h : LkM γ) (m : MiI γ) {v : Int} (h0 : 0 ≤ v) (h1 : v < γ 0 51) (hc : Rp (EdM γ) v v) : wp (f_M_placeOfVariable γ v) (fun z => z.2 = γ ∧ (0 ≤ z.1 ∧ z.1 ≤ 10240) ∧ PlV γ v z.1) := by
  have := FU_v
  have m50 := h.2.2.1
  have m51 := h.2.2.2.1
  have m0 := h.2.2.2.2.2.2.2.1
  have ⟨i1, i2, i3, i4⟩ := h.2.2.2.2.2.2.2.2.2 v h0 h1
  have n60 := h.n60 i1.1 i1.2
  have nd := h.nd i1.1 i1.2
  have sz := nd.sz
  have nv : nvN γ (γ 35 (γ 42 v)) = γ 4 (γ 35 (γ 42 v) + 1) - γ 4 (γ 35 (γ 42 v)) := rfl
  have a := h.2.2.2.2.2.2.2.2.1 (γ 42 v) i1.1 i1.2
  unfold f_M_placeOfVariable
  refine wp_chk (by omega) (wp_sub (wp_chk (by omega) (wp_sub (wp_chk (by omega) (wp_sub (wp_chk (by omega) (wp_ite (fun q => ?_) (fun q => ?_))))))))
  · have x0 : 0 < γ 42 v := by
      by_cases q3 : γ 42 v = 0
      · exfalso
        rw [q3, m0.2.2] at i2
        rw [q3, m0.1] at q
        obtain ⟨c, ⟨i, j1, j2, _⟩, _⟩ := hc
        have := m v h0 (by omega)
        omega
      · omega
    have ⟨o1, o2, o3, o4⟩ := a.2.2.1 x0
    have nd2 := h.nd (x := γ 36 (γ 42 v)) (by omega) (by omega)
    have n602 := h.n60 (x := γ 36 (γ 42 v)) (by omega) (by omega)
    have sz2 := nd2.sz
    refine wp_chk (by omega) (wp_chk (by omega) (wp_chk (by omega) (wp_sub ?_)))
    exact wp_mono (w_placeOfVariable_L71 nd2 (by omega) o2.2 FU _ (Int.le_refl _) sz2.2.1.2.1 o2.1 (by omega)) (fun z hz => ⟨hz.1, hz.2.1, Or.inr ⟨q, hz.2.2⟩⟩)
  · have df := nd.df (v := γ 4 (γ 35 (γ 42 v)) + γ 43 v) (by omega) (by omega)
    have eq := nd.eq df.1.1 df.1.2
    exact wp_chk (by omega) (wp_chk (by omega) (wp_chk (by omega) (wp_chk (by omega) (wp_some ⟨rfl, eq.2.2.2.2.1, Or.inl ⟨by omega, rfl⟩⟩))))
/-- what ordered answers -/
def OdO (γ0 : St) (z : Res) : Prop := (∀ j k, j < 46 ∨ 49 < j → z.2 j k = γ0 j k) ∧ ((∀ u, z.2 46 u = 0 ∨ z.2 46 u = 1) ∧ ∀ u, z.2 49 u = 0 ∨ z.2 49 u = 1) ∧ ((∃ r, z.1 = .inr r) ∧ OrI γ0 z.2 (γ0 0 51) ∨ ∃ v p, z.1 = .inl (7, p) ∧ (0 ≤ v ∧ v < γ0 0 51) ∧ Rp (EdM γ0) v v ∧ (∀ u, 0 ≤ u → u < v → ¬ Rp (EdM γ0) u u) ∧ PlV γ0 v p)
theorem PlV.fr {γ γ' : St} {v p : Int} (h : PlV γ v p) (f : ∀ j k, 2 ≤ j → j ≤ 43 → γ' j k = γ j k) : PlV γ' v p := by
  have g : ∀ j : Nat, 2 ≤ j → j ≤ 43 → γ' j = γ j := fun j q1 q2 => funext fun k => f j k q1 q2
  unfold PlV
  rw [g 42 (by omega) (by omega), g 35 (by omega) (by omega), g 5 (by omega) (by omega), g 43 (by omega) (by omega), g 15 (by omega) (by omega), g 32 (by omega) (by omega), g 4 (by omega) (by omega), g 36 (by omega) (by omega), g 7 (by omega) (by omega), g 19 (by omega) (by omega), g 37 (by omega) (by omega), g 17 (by omega) (by omega)]
  exact h
theorem w_ordered_L187 {γ0 : St} (h : CgI γ0) (l : LkM γ0) (m : MiI γ0) (hc : ∃ u, (0 ≤ u ∧ u < γ0 0 51) ∧ Rp (EdM γ0) u u) : ∀ (f : Nat) (γ : St) (v : Int), (∀ j k, j < 46 ∨ 49 < j → γ j k = γ0 j k) → (∀ u, γ 46 u = 0 ∨ γ 46 u = 1) → (∀ u, γ 49 u = 0 ∨ γ 49 u = 1) → (∀ u, 0 ≤ u → u < γ0 0 51 → γ 49 u = 0 → ¬ Rp (EdM γ0) u u) → (∀ u, 0 ≤ u → u < v → ¬ Rp (EdM γ0) u u) → 0 ≤ v → v ≤ γ0 0 51 → γ0 0 51 - v < f → wp (f_M_ordered_L187 f_M_ordered_b213 f γ v) (OdO γ0) := by
  have m51 := h.1
  intro f
  induction f with
  | zero => intro γ v h1 h2 h3 h4 h5 h6 h7 h8; exfalso; omega
  | succ f ih =>
    intro γ v h1 h2 h3 h4 h5 h6 h7 h8
    have e51 : γ 0 51 = γ0 0 51 := h1 0 51 (by omega)
    have cg : CgI γ := h.fr e51 (h1 0 67 (by omega)) (fun k => h1 44 k (by omega)) (fun k => h1 45 k (by omega))
    have ee : EdM γ = EdM γ0 := EdM_eq (fun k => h1 44 k (by omega)) (fun k => h1 45 k (by omega))
    unfold f_M_ordered_L187
    rw [e51]
    refine wp_ite (fun q => ?_) (fun q => ?_)
    · obtain ⟨u, u1, u2⟩ := hc
      exact absurd u2 (h5 u u1.1 (by omega))
    · have nx : ∀ γ', (∀ j k, j < 46 ∨ 49 < j → γ' j k = γ0 j k) → (∀ u, γ' 46 u = 0 ∨ γ' 46 u = 1) → (∀ u, γ' 49 u = γ 49 u) → ¬ Rp (EdM γ0) v v → wp (f_M_ordered_b228 (f_M_ordered_L187 f_M_ordered_b213 f) f_M_ordered_b213 γ' v) (OdO γ0) := fun γ' g1 g2 g3 g4 => by
        unfold f_M_ordered_b228
        refine wp_chk (by omega) (ih γ' (v + 1) g1 g2 (fun u => by rw [g3]; exact h3 u) (fun u q1 q2 q3 => h4 u q1 q2 (by rw [← g3]; exact q3)) (fun u q1 q2 => ?_) (by omega) (by omega) (by omega))
        by_cases q3 : u = v
        · rw [q3]; exact g4
        · exact h5 u q1 (by omega)
      refine wp_chk (by omega) (wp_ite (fun q2 => nx γ h1 h2 (fun _ => rfl) (h4 v h6 (by omega) q2)) (fun q2 => ?_))
      refine wp_bnd (w_caused (b := v) cg h2 ⟨h6, by omega⟩) (fun r γ' z => ?_)
      have ⟨z1, z2, z3⟩ := z
      have z1 : ∀ j k, j ≠ 46 → j ≠ 47 → γ' j k = γ j k := z1
      have z2 : ∀ u, γ' 46 u = 0 ∨ γ' 46 u = 1 := z2
      have z3 : r = 1 ∧ Rp (EdM γ) v v ∨ r = 0 ∧ ¬ Rp (EdM γ) v v := z3
      rw [ee] at z3
      have g1 : ∀ j k, j < 46 ∨ 49 < j → γ' j k = γ0 j k := fun j k q3 => by rw [z1 j k (by omega) (by omega)]; exact h1 j k q3
      refine wp_ite (fun q3 => nx γ' g1 z2 (fun u => z1 49 u (by omega) (by omega)) ?_) (fun q3 => ?_)
      · rcases z3 with c | c
        · exfalso; omega
        · exact c.2
      · have rp : Rp (EdM γ0) v v := by
          rcases z3 with c | c
          · exact c.2
          · exact absurd c.1 q3
        have fl : FL γ0 γ' := fun j k q4 q5 => g1 j k (by omega)
        have mi : MiI γ' := fun u q4 q5 => by
          rw [g1 44 _ (by omega), g1 44 _ (by omega)]
          exact m u q4 (by rw [g1 5 _ (by omega), g1 0 18 (by omega)] at q5; exact q5)
        have ee' : EdM γ' = EdM γ0 := EdM_eq (fun k => g1 44 k (by omega)) (fun k => g1 45 k (by omega))
        unfold f_M_ordered_b213
        refine wp_bnd (w_placeOfVariable (l.fl fl) mi h6 (by rw [g1 0 51 (by omega)]; omega) (by rw [ee']; exact rp)) (fun p γ2 hz => ?_)
        have ⟨w1, w2, w3⟩ := hz
        have w1 : γ2 = γ' := w1
        have w2 : 0 ≤ p ∧ p ≤ 10240 := w2
        have w3 : PlV γ' v p := w3
        subst w1
        exact wp_chk (by omega) (wp_some ⟨g1, ⟨z2, fun u => by show γ2 49 u = 0 ∨ γ2 49 u = 1; rw [z1 49 u (by omega) (by omega)]; exact h3 u⟩, Or.inr ⟨v, p, rfl, ⟨h6, by omega⟩, rp, h5, w3.fr (fun j k q4 q5 => (g1 j k (by omega)).symm)⟩⟩)
theorem w_ordered_L151 {γ0 γ1 : St} {n : Int} (h : CgI γ0) (l : LkM γ0) (m : MiI γ0) (o : OrI γ0 γ1 n) (hc : ∃ u, (0 ≤ u ∧ u < γ0 0 51) ∧ Rp (EdM γ0) u u) : ∀ (f : Nat) (γ : St) (v : Int), (∀ j k, j ≠ 49 → γ j k = γ1 j k) → (∀ u, γ 49 u = 0 ∨ γ 49 u = 1) → (∀ u, 0 ≤ u → u < v → γ 49 u = 0 → γ1 46 u = 1) → 0 ≤ v → v ≤ γ0 0 51 → γ0 0 51 - v < f → wp (f_M_ordered_L151 f_M_ordered_b185 f γ v) (OdO γ0) := by
  have := FU_v
  have m51 := h.1
  have ⟨p1, p2, p3, p4, p5⟩ := o
  intro f
  induction f with
  | zero => intro γ v h1 h2 h3 h4 h5 h6; exfalso; omega
  | succ f ih =>
    intro γ v h1 h2 h3 h4 h5 h6
    have e51 : γ 0 51 = γ0 0 51 := by rw [h1 0 51 (by omega)]; exact p1 0 51 (by omega) (by omega)
    unfold f_M_ordered_L151
    rw [e51]
    refine wp_ite (fun q => ?_) (fun q => ?_)
    · unfold f_M_ordered_b185
      refine w_ordered_L187 h l m hc FU γ 0 (fun j k q1 => by rw [h1 j k (by omega)]; exact p1 j k (by omega) (by omega)) (fun u => by rw [h1 46 u (by omega)]; exact p2 u) h2 (fun u q1 q2 q3 => o.nc q1 q2 (h3 u q1 (by omega) q3)) (fun u q1 q2 => by omega) (by omega) (by omega) (by omega)
    · have nx : ∀ w, (w = 0 ∧ γ1 46 v = 1 ∨ w = 1) → wp (f_M_ordered_b178 (f_M_ordered_L151 f_M_ordered_b185 f) f_M_ordered_b185 γ v w v) (OdO γ0) := fun w hw => by
        unfold f_M_ordered_b178
        refine wp_chk (by rcases hw with c | c <;> omega) (wp_chk (by omega) (wp_sub ?_))
        have s : ∀ j k, setA γ 49 v w j k = if j = 49 ∧ k = v then w else γ j k := fun j k => by rw [stA]
        generalize setA γ 49 v w = γ2 at *
        refine wp_chk (by omega) (ih γ2 (v + 1) (fun j k q1 => by rw [s, if_neg (by omega)]; exact h1 j k q1) (fun u => ?_) (fun u q1 q2 q3 => ?_) (by omega) (by omega) (by omega))
        · rw [s]
          by_cases q3 : u = v
          · rw [if_pos ⟨rfl, q3⟩]; rcases hw with c | c <;> omega
          · rw [if_neg (by omega)]; exact h2 u
        · rw [s] at q3
          by_cases q4 : u = v
          · rw [if_pos ⟨rfl, q4⟩] at q3
            rcases hw with c | c
            · rw [q4]; exact c.2
            · exfalso; omega
          · rw [if_neg (by omega)] at q3
            exact h3 u q1 (by omega) q3
      rw [h1 46 v (by omega)]
      refine wp_chk (by omega) (wp_ite (fun q2 => nx 0 (Or.inl ⟨rfl, ?_⟩)) (fun q2 => nx 1 (Or.inr rfl)))
      rcases p2 v with c | c
      · exact absurd c q2
      · exact c
theorem w_ordered_L2 {γ0 : St} (h : CgI γ0) (l : LkM γ0) (m : MiI γ0) (b49 : ∀ u, γ0 49 u = 0 ∨ γ0 49 u = 1) : ∀ (f : Nat) (γ : St) (v : Int), (∀ j k, j ≠ 46 → γ j k = γ0 j k) → (∀ u, γ 46 u = 0 ∨ γ 46 u = 1) → (∀ u, 0 ≤ u → u < v → γ 46 u = 0) → 0 ≤ v → v ≤ γ0 0 51 → γ0 0 51 - v < f → wp (f_M_ordered_L2 f_M_ordered_b23 f γ v) (OdO γ0) := by
  have := FU_v
  have m51 := h.1
  intro f
  induction f with
  | zero => intro γ v h1 h2 h3 h4 h5 h6; exfalso; omega
  | succ f ih =>
    intro γ v h1 h2 h3 h4 h5 h6
    have e51 : γ 0 51 = γ0 0 51 := h1 0 51 (by omega)
    unfold f_M_ordered_L2
    rw [e51]
    refine wp_ite (fun q => ?_) (fun q => ?_)
    · have zr : zrM γ = γ0 0 51 := by
        have all0 : ∀ n : Nat, n ≤ (γ0 0 51).toNat → cntN (γ 46) 0 0 n = n := by
          intro n
          induction n with
          | zero => intro _; rfl
          | succ n ihn =>
            intro hn
            show cntN (γ 46) 0 0 n + (if γ 46 (0 + n) = 0 then 1 else 0) = _
            rw [ihn (by omega), if_pos (h3 _ (by omega) (by omega))]
            omega
        unfold zrM
        rw [e51, all0 _ (Nat.le_refl _)]
        omega
      have oi : OrI γ0 γ 0 := ⟨fun j k q1 q2 => h1 j k q1, h2, by omega, fun i q1 q2 => by omega, fun u q1 q2 q3 => by rw [h3 u q1 (by omega)] at q3; exact absurd q3 (by decide)⟩
      unfold f_M_ordered_b23
      refine w_ordered_L27 h (fun γ' n o w => ?_) FU γ 0 1 oi (Or.inr rfl) (by omega) (by omega)
      have ⟨p1, p2, p3, p4, p5⟩ := o
      have f51 : γ' 0 51 = γ0 0 51 := p1 0 51 (by omega) (by omega)
      unfold f_M_ordered_b140
      rw [f51]
      refine wp_ite (fun q2 => ?_) (fun q2 => wp_some ⟨fun j k q1 => p1 j k (by omega) (by omega), ⟨p2, fun u => by show γ' 49 u = 0 ∨ γ' 49 u = 1; rw [p1 49 u (by omega) (by omega)]; exact b49 u⟩, Or.inl ⟨⟨0, rfl⟩, by rw [show γ0 0 51 = n by omega]; exact o⟩⟩)
      refine w_ordered_L151 h l m o ?_ FU γ' 0 (fun _ _ _ => rfl) (fun u => by rw [p1 49 u (by omega) (by omega)]; exact b49 u) (fun u q3 q4 => by omega) (by omega) (by omega) (by omega)
      have ne : zrM γ' ≠ 0 := by omega
      obtain ⟨u, u1, u2, u3⟩ := cntN_ex ne
      rw [f51] at u2
      obtain ⟨x, x1, x2⟩ := circ (γ0 0 51).toNat (EdM γ0) (fun u => (0 ≤ u ∧ u < γ0 0 51) ∧ γ' 46 u = 0) (fun u q3 => by have := q3.1; omega) ⟨u, by omega, u3⟩ (fun u q3 => by
        obtain ⟨c, c1, c2⟩ := w u q3.1.1 q3.1.2 q3.2
        exact ⟨c, ⟨h.ed q3.1.1 q3.1.2 c1, c2⟩, c1⟩)
      exact ⟨x, x1.1, x2⟩
    · refine wp_chk (by omega) (wp_sub ?_)
      have s : ∀ j k, setA γ 46 v 0 j k = if j = 46 ∧ k = v then 0 else γ j k := fun j k => by rw [stA]
      generalize setA γ 46 v 0 = γ1 at *
      refine wp_chk (by omega) (ih γ1 (v + 1) (fun j k q1 => by rw [s, if_neg (by omega)]; exact h1 j k q1) (fun u => ?_) (fun u q1 q2 => ?_) (by omega) (by omega) (by omega))
      · rw [s]
        by_cases q3 : u = v
        · rw [if_pos ⟨rfl, q3⟩]; exact Or.inl rfl
        · rw [if_neg (by omega)]; exact h2 u
      · rw [s]
        by_cases q3 : u = v
        · rw [if_pos ⟨rfl, q3⟩]
        · rw [if_neg (by omega)]; exact h3 u q1 (by omega)
theorem w_ordered {γ : St} (h : CgI γ) (l : LkM γ) (m : MiI γ) (b46 : ∀ u, γ 46 u = 0 ∨ γ 46 u = 1) (b49 : ∀ u, γ 49 u = 0 ∨ γ 49 u = 1) : wp (f_M_ordered γ) (OdO γ) := by
  have := FU_v
  have m51 := h.1
  unfold f_M_ordered
  exact w_ordered_L2 h l m b49 FU γ 0 (fun _ _ _ => rfl) b46 (fun u q1 q2 => by omega) (by omega) (by omega) (by omega)
