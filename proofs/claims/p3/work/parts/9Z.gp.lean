/-! the reference's declarations: group, groups -/
theorem wp_bt {o : Option Res} {r : Int} {γ : St} {k : Int → St → Option Res} {Q : Res → Prop} (e : o = some (.inr r, γ)) (h : wp (k r γ) Q) : wp (bndT o k) Q := by rw [e]; exact h
theorem wp_be {o : Option Res} {r : Int × Int} {γ : St} {k : Int → St → Option Res} {Q : Res → Prop} (e : o = some (.inl r, γ)) (h : Q (.inl r, γ)) : wp (bndT o k) Q := by rw [e]; exact h
/-- must, and go on or cannot -/
theorem wp_must {γ : St} {a : Int} {k : Int → St → Option Res} {Q : Res → Prop} (h : LX γ) (y : tK γ = a → wp (k 0 (tkS γ)) Q) (n : tK γ ≠ a → Q (.inl (1, sk γ), pkS γ)) : wp (bndT (f_M_must γ a) k) Q := by
  by_cases q : tK γ = a
  · exact wp_bt (must_y h q) (y q)
  · exact wp_be (must_n h q) (n q)
theorem wp_mustBe {γ : St} {w : Nat} {k : Int → St → Option Res} {Q : Res → Prop} (h : LX γ) (y : kwQ γ w → wp (k 0 (tkS γ)) Q) (n : ¬ kwQ γ w → Q (.inl (1, sk γ), pkS γ)) : wp (bndT (f_M_mustBe γ w) k) Q := by
  refine wp_bndT (w_mustBe h w) (fun e γ' q => ?_) (fun r γ' q => ?_)
  · rcases q with ⟨q, r⟩ | ⟨q, r⟩
    · cases q
    · cases q; exact n r
  · rcases q with ⟨q, r⟩ | ⟨q, r⟩
    · cases q; exact y r
    · cases q
/-- what a group leaves -/
def GrQ (γ0 : St) (_ : Int) (γ : St) : Prop := GI γ0 γ ∧ γ0 0 19 < γ 0 19 ∧ γ0 0 5 < γ 0 5
theorem GI.set {γ0 γ γ' : St} {A : Nat} {v w : Int} (h : GI γ0 γ) (hv : γ0 0 19 ≤ v) (e : γ' = setA γ A v w) (hA : A = 12 ∧ (w = -1 ∨ (0 ≤ w ∧ w ≤ 20000) ∧ γ 4 (γ 0 18) + w / 2 < v) ∨ A = 14 ∧ (w = 0 ∨ w = 1)) : GI γ0 γ' := by
  have ⟨⟨a1, a2, a3, a4, a5, a6, a7⟩, b1, b2, b3⟩ := h
  have s : ∀ j k, γ' j k = if j = A ∧ k = v then w else γ j k := fun j k => by rw [e, stA]
  have s0 : ∀ j k, j ≠ 12 → j ≠ 14 → γ' j k = γ j k := fun j k q1 q2 => by rw [s, if_neg (by omega)]
  have e18 := s0 0 18 (by omega) (by omega)
  have e19 := s0 0 19 (by omega) (by omega)
  have e4 := s0 4 (γ 0 18) (by omega) (by omega)
  refine ⟨⟨a1.fr (funext fun k => s0 1 k (by omega) (by omega)) (fun k _ => s0 0 k (by omega) (by omega)), by rw [e18]; exact a2, by rw [e18, e4]; exact a3, by rw [e18, e4, e19]; exact a4, ?_, ?_, ?_⟩, ?_, by rw [e19]; exact b2, by rw [s0 0 5 (by omega) (by omega)]; exact b3.1, fun u q1 q2 => by rw [s0 13 u (by omega) (by omega)]; exact b3.2 u q1 (by rw [e19] at q2; exact q2)⟩
  · rw [e18, e4, e19]
    intro u q1 q2
    rw [s0 10 u (by omega) (by omega), s0 11 u (by omega) (by omega)]
    exact a5 u q1 q2
  · rw [e18, e4, e19]
    intro u q1 q2
    unfold ClO
    rw [s]
    by_cases q3 : 12 = A ∧ u = v
    · rw [if_pos q3]
      have := q3.2
      rcases hA with hA | hA
      · rcases hA.2 with r | r
        · exact Or.inl r
        · exact Or.inr ⟨r.1, by omega⟩
      · exfalso; omega
    · rw [if_neg q3]; exact a6 u q1 q2
  · intro u
    rw [s]
    by_cases q3 : 14 = A ∧ u = v
    · rw [if_pos q3]
      rcases hA with hA | hA
      · exfalso; omega
      · exact hA.2
    · rw [if_neg q3]; exact a7 u
  · intro j k q1 q2
    rw [s, if_neg (by omega)]
    exact b1 j k q1 q2
theorem w_group_L333 {γ0 : St} {b : Int} : ∀ (n : Nat) (γ : St) (c v : Int), GrQ γ0 0 γ → γ 4 (γ 0 18) ≤ c → c < γ0 0 19 → γ0 0 19 ≤ v → γ 0 19 - v < n → 0 < n → wp (f_M_group_L333 n γ b c v) (Ro (γ0 0 19) γ0 (GrQ γ0)) := by
  intro n
  induction n with
  | zero => intro γ c v h1 h2 h3 h4 h5 h6; exact absurd h6 (by omega)
  | succ n ih =>
    intro γ c v h1 h2 h3 h4 h5 h6
    have ⟨⟨⟨a1, a2, a3, a4, a5, a6, a7⟩, b1, b2, b3⟩, g1, g2⟩ := h1
    unfold f_M_group_L333
    refine wp_ite (fun q => wp_some (Ro.ok b1 a7 h1)) (fun q => ?_)
    have nx : ∀ w, (w = 0 ∨ w = 1) → wp (f_M_group_b372 (f_M_group_L333 n) γ b c v w (2 * (c - γ 4 (γ 0 18))) v) (Ro (γ0 0 19) γ0 (GrQ γ0)) := fun w hw => by
      unfold f_M_group_b372
      refine wp_chk (by omega) (wp_chk (by omega) (wp_sub (wp_chk (by omega) ?_)))
      have s0 : ∀ j k, j ≠ 12 → setA γ 12 v (2 * (c - γ 4 (γ 0 18)) + w) j k = γ j k := fun j k q1 => by rw [stA, if_neg (by omega)]
      have e18 := s0 0 18 (by omega)
      have e19 := s0 0 19 (by omega)
      refine ih _ c (v + 1) ⟨h1.1.set h4 rfl (Or.inl ⟨rfl, Or.inr ⟨by omega, by omega⟩⟩), by rw [e19]; exact g1, by rw [s0 0 5 (by omega)]; exact g2⟩ (by rw [e18, s0 4 _ (by omega)]; exact h2) h3 (by omega) (by rw [e19]; omega) (by omega)
    refine wp_chk (by omega) (wp_chk (by omega) (wp_chk (by omega) (wp_ite (fun q2 => ?_) (fun q2 => ?_))))
    · exact nx 1 (Or.inr rfl)
    · exact nx 0 (Or.inl rfl)
theorem GrQ.mv {γ0 γ γ' : St} (h : GrQ γ0 0 γ) (m : Mv γ γ') : GrQ γ0 0 γ' := ⟨h.1.mv m, by rw [m.2.1 0 19 (by omega)]; exact h.2.1, Int.lt_of_lt_of_le h.2.2 m.2.2⟩
theorem GrQ.lx {γ0 γ : St} (h : GrQ γ0 0 γ) : LX γ := h.1.1.1
theorem GrQ.fg {γ0 γ : St} (h : GrQ γ0 0 γ) : Fg (γ0 0 19) γ0 γ := h.1.2.1
theorem Mv.pk0 {γ : St} (h : LX γ) : Mv γ (pkS γ) := (Mv.rf h).pk
theorem Mv.tk0 {γ : St} (h : LX γ) : Mv γ (tkS γ) := (Mv.rf h).tk
theorem w_group_b273 {γ0 γ : St} {b : Int} (h : GrQ γ0 0 γ) (hv : γ 4 (γ 0 18) ≤ γ0 0 19) : wp (f_M_group_b273 γ (γ0 0 19) b) (Ro (γ0 0 19) γ0 (GrQ γ0)) := by
  have := FU_v
  have ⟨⟨⟨a1, a2, a3, a4, a5, a6, a7⟩, b1, b2, b3⟩, g1, g2⟩ := h
  have m := Mv.pk0 a1
  have h' := h.mv m
  have ⟨⟨⟨a1', a2', a3', a4', a5', a6', a7'⟩, b1', b2', b3'⟩, g1', g2'⟩ := h'
  unfold f_M_group_b273
  refine wp_yn (w_nameHere a1) (fun q => ?_) (fun q => ?_)
  · rw [if_pos (by decide)]
    refine wp_bnd (w_variableHere (lo := pkS γ 4 (pkS γ 0 18)) a1.tko (fun v q1 q2 => a5' v q1 (by omega)) a3'.1 (by omega) (by omega) rfl) (fun r γ3 hz => ?_)
    obtain ⟨r', e, f⟩ := hz
    cases e
    refine wp_ite (fun q2 => wp_some (Ro.er b1' a7')) (fun q2 => ?_)
    rcases f with f | f
    · exfalso; omega
    · refine wp_chk (by omega) (wp_ite (fun q3 => ?_) (fun q3 => wp_some (Ro.er b1' a7')))
      refine wp_bndT (w_shallow h'.1.1 f.1.1 (by omega)) (fun e γ4 hz => ?_) (fun r γ4 hz => ?_)
      · rcases hz with hz | hz
        · cases hz
        · cases hz; exact Ro.er b1' a7'
      · rcases hz with hz | hz
        · cases hz
          have m2 := Mv.tk0 a1'
          refine wp_bs (tkM_eq a1') ?_
          have h2 := h'.mv m2
          have e18 := m2.2.1 0 18 (by omega)
          have e19 := m2.2.1 0 19 (by omega)
          refine w_group_L333 FU _ _ _ h2 (by rw [e18, m2.2.1 4 _ (by omega)]; exact f.1.1) f.1.2 (by omega) (by rw [e19]; omega) (by omega)
        · cases hz
  · rw [if_neg (by decide)]
    exact wp_cant a1' (Ro.er (h'.mv (Mv.pk0 a1')).fg (h'.mv (Mv.pk0 a1')).1.b14)
/-- the new variables have no clock of their own -/
def GN (γ0 γ : St) : Prop := ∀ v, γ0 0 19 ≤ v → v < γ 0 19 → γ 12 v = -1
def GrB (b : Int) (γ0 : St) (r : Int) (γ : St) : Prop := GrQ γ0 r γ ∧ (b = 0 → GN γ0 γ)
theorem GN.mv {γ0 γ γ' : St} (h : GN γ0 γ) (m : Mv γ γ') : GN γ0 γ' := fun v q1 q2 => by rw [m.2.1 12 v (by omega)]; exact h v q1 (by rw [m.2.1 0 19 (by omega)] at q2; exact q2)
theorem GN.rf {γ : St} : GN γ γ := fun v q1 q2 => by omega
theorem w_group_b236 {γ0 γ : St} {b : Int} (h : GrQ γ0 0 γ) (hn : GN γ0 γ) (hv : γ 4 (γ 0 18) ≤ γ0 0 19) : wp (f_M_group_b236 γ b (γ0 0 19)) (Ro (γ0 0 19) γ0 (GrB b γ0)) := by
  have a1 := h.lx
  have h1 := h.mv (Mv.pk0 a1)
  unfold f_M_group_b236
  refine wp_ite (fun q => wp_some (Ro.ok h.fg h.1.b14 ⟨h, fun _ => hn⟩)) (fun q => wp_yn (w_is a1 7) (fun q2 => ?_) (fun q2 => wp_some (Ro.ok h1.fg h1.1.b14 ⟨h1, fun q' => absurd q' q⟩)))
  rw [if_pos (by decide)]
  refine wp_bs (tkM_eq a1.pk) ?_
  have m2 := ((Mv.pk0 a1).tk)
  have h2 := h.mv m2
  have m3 := m2.pk
  have m4 := m3.tk
  refine wp_yn (w_is h2.lx 8) (fun q3 => ?_) (fun q3 => ?_)
  · rw [if_neg (by decide)]
    refine wp_bs (tkM_eq m3.1) ?_
    exact wp_mono (w_group_b273 (h.mv m4) (by rw [m4.2.1 0 18 (by omega), m4.2.1 4 _ (by omega)]; exact hv)) (fun z hz => ⟨hz.1, fun r e => ⟨hz.2.1 r e, fun q' => absurd q' q⟩, hz.2.2⟩)
  · rw [if_pos rfl]
    exact wp_mono (w_group_b273 (h.mv m3) (by rw [m3.2.1 0 18 (by omega), m3.2.1 4 _ (by omega)]; exact hv)) (fun z hz => ⟨hz.1, fun r e => ⟨hz.2.1 r e, fun q' => absurd q' q⟩, hz.2.2⟩)
theorem w_group_L212 {γ0 : St} {b t : Int} (ht : t = 0 ∨ t = 1) : ∀ (n : Nat) (γ : St) (v : Int), GrQ γ0 0 γ → GN γ0 γ → γ 4 (γ 0 18) ≤ γ0 0 19 → γ0 0 19 ≤ v → γ 0 19 - v < n → 0 < n → wp (f_M_group_L212 f_M_group_b236 n γ b (γ0 0 19) t v) (Ro (γ0 0 19) γ0 (GrB b γ0)) := by
  intro n
  induction n with
  | zero => intro γ v h1 hn h2 h3 h4 h5; exact absurd h5 (by omega)
  | succ n ih =>
    intro γ v h1 hn h2 h3 h4 h5
    have ⟨⟨⟨a1, a2, a3, a4, a5, a6, a7⟩, b1, b2, b3⟩, g1, g2⟩ := h1
    unfold f_M_group_L212
    refine wp_ite (fun q => w_group_b236 h1 hn h2) (fun q => wp_chk ht (wp_chk (by omega) (wp_sub (wp_chk (by omega) ?_))))
    have s0 : ∀ j k, j ≠ 14 → setA γ 14 v t j k = γ j k := fun j k q1 => by rw [stA, if_neg (by omega)]
    have e18 := s0 0 18 (by omega)
    have e19 := s0 0 19 (by omega)
    exact ih _ (v + 1) ⟨h1.1.set h3 rfl (Or.inr ⟨rfl, ht⟩), by rw [e19]; exact g1, by rw [s0 0 5 (by omega)]; exact g2⟩ (fun u q1 q2 => by rw [s0 12 u (by omega)]; exact hn u q1 (by rw [e19] at q2; exact q2)) (by rw [e18, s0 4 _ (by omega)]; exact h2) (by omega) (by rw [e19]; omega) (by omega)
theorem w_group_b205 {γ0 γ : St} {b t : Int} (ht : t = 0 ∨ t = 1) (h : GrQ γ0 0 γ) (hn : GN γ0 γ) (hv : γ 4 (γ 0 18) ≤ γ0 0 19) : wp (f_M_group_b205 γ b (γ0 0 19) t) (Ro (γ0 0 19) γ0 (GrB b γ0)) := by
  have := FU_v
  have a1 := h.lx
  have m := Mv.tk0 a1
  have h2 := h.mv m
  have ⟨⟨⟨_, a2, a3, a4, a5, a6, a7⟩, b1, b2, b3⟩, g1, g2⟩ := h
  unfold f_M_group_b205
  refine wp_bs (tkM_eq a1) ?_
  exact w_group_L212 ht FU _ _ h2 (hn.mv m) (by rw [m.2.1 0 18 (by omega), m.2.1 4 _ (by omega)]; exact hv) (by omega) (by rw [m.2.1 0 19 (by omega)]; omega) (by omega)
theorem w_group_b170 {γ0 γ : St} {b : Int} (h : GrQ γ0 0 γ) (hn : GN γ0 γ) (hv : γ 4 (γ 0 18) ≤ γ0 0 19) : wp (f_M_group_b170 γ b (γ0 0 19)) (Ro (γ0 0 19) γ0 (GrB b γ0)) := by
  have a1 := h.lx
  unfold f_M_group_b170
  refine wp_must a1 (fun q => ?_) (fun q => Ro.er (h.mv (Mv.pk0 a1)).fg (h.mv (Mv.pk0 a1)).1.b14)
  have m := Mv.tk0 a1
  have m2 := m.pk
  have v2 : pkS (tkS γ) 4 (pkS (tkS γ) 0 18) ≤ γ0 0 19 := by rw [m2.2.1 0 18 (by omega), m2.2.1 4 _ (by omega)]; exact hv
  refine wp_yn (w_is m.1 6) (fun q2 => ?_) (fun q2 => ?_)
  · rw [if_pos (by decide)]
    exact w_group_b205 (Or.inr rfl) (h.mv m2) (hn.mv m2) v2
  · rw [if_neg (by decide)]
    have m3 := m2.pk
    have v3 : pkS (pkS (tkS γ)) 4 (pkS (pkS (tkS γ)) 0 18) ≤ γ0 0 19 := by rw [m3.2.1 0 18 (by omega), m3.2.1 4 _ (by omega)]; exact hv
    refine wp_yn (w_is m2.1 5) (fun q3 => ?_) (fun q3 => ?_)
    · rw [if_pos (by decide)]
      exact w_group_b205 (Or.inl rfl) (h.mv m3) (hn.mv m3) v3
    · rw [if_neg (by decide)]
      exact wp_cant m3.1 (Ro.er (h.mv m3.pk).fg (h.mv m3.pk).1.b14)
/-- one more variable -/
theorem GI.add {γ0 γ γ' : St} {a s : Int} (h : GI γ0 γ) (ha : 0 ≤ a ∧ a + s ≤ 10240) (lt : γ 0 19 ≠ γ 4 (γ 0 18) + 99) (e : ∀ j k, γ' j k = if j = 0 ∧ k = 19 then γ 0 19 + 1 else if j = 13 ∧ k = γ 0 19 then 0 else if j = 12 ∧ k = γ 0 19 then -1 else if j = 11 ∧ k = γ 0 19 then s else if j = 10 ∧ k = γ 0 19 then a else γ j k) : GI γ0 γ' := by
  have ⟨⟨a1, a2, a3, a4, a5, a6, a7⟩, b1, b2, b3⟩ := h
  have s0 : ∀ j k, (j = 0 → k ≠ 19) → (10 ≤ j → j ≤ 13 → k ≠ γ 0 19) → γ' j k = γ j k := fun j k q1 q2 => by rw [e]; (repeat rw [if_neg (by omega)])
  have e18 := s0 0 18 (by omega) (by omega)
  have e4 := s0 4 (γ 0 18) (by omega) (by omega)
  have e19 : γ' 0 19 = γ 0 19 + 1 := by rw [e, if_pos ⟨rfl, rfl⟩]
  have e12 : γ' 12 (γ 0 19) = -1 := by rw [e, if_neg (by omega), if_neg (by omega), if_pos ⟨rfl, rfl⟩]
  have e13 : ∀ u, γ0 0 19 ≤ u → u < γ' 0 19 → γ' 13 u = 0 := fun u q1 q2 => by
    by_cases q3 : u = γ 0 19
    · rw [q3, e, if_neg (by omega), if_pos ⟨rfl, rfl⟩]
    · rw [s0 13 u (by omega) (by omega)]; exact b3.2 u q1 (by omega)
  have e11 : γ' 11 (γ 0 19) = s := by rw [e, if_neg (by omega), if_neg (by omega), if_neg (by omega), if_pos ⟨rfl, rfl⟩]
  have e10 : γ' 10 (γ 0 19) = a := by rw [e, if_neg (by omega), if_neg (by omega), if_neg (by omega), if_neg (by omega), if_pos ⟨rfl, rfl⟩]
  refine ⟨⟨a1.fr (funext fun k => s0 1 k (by omega) (by omega)) (fun k q => s0 0 k (by omega) (by omega)), by rw [e18]; exact a2, by rw [e18, e4]; exact a3, by rw [e18, e4, e19]; omega, ?_, ?_, fun v => by rw [s0 14 v (by omega) (by omega)]; exact a7 v⟩, ?_, by omega, by rw [s0 0 5 (by omega) (by omega)]; exact b3.1, e13⟩
  · rw [e18, e4, e19]
    intro u q1 q2
    by_cases q3 : u = γ 0 19
    · rw [q3, e10, e11]; exact ha
    · rw [s0 10 u (by omega) (by omega), s0 11 u (by omega) (by omega)]
      exact a5 u q1 (by omega)
  · rw [e18, e4, e19]
    intro u q1 q2
    unfold ClO
    by_cases q3 : u = γ 0 19
    · rw [q3, e12]; exact Or.inl rfl
    · rw [s0 12 u (by omega) (by omega)]; exact a6 u q1 (by omega)
  · intro j k q1 q2
    rw [s0 j k (by omega) (by omega)]
    exact b1 j k q1 q2
theorem Mv.nz {γ : St} (h : LX γ) (q : tK γ ≠ 0) : γ 0 5 < tkS γ 0 5 := by
  have t := h.te2
  have := t.2.2.2 q
  rw [tkS_5]; omega
theorem w_group_L7 {γ0 : St} {b : Int} : ∀ (n : Nat) (γ : St) (x : Int), GI γ0 γ → GN γ0 γ → γ 4 (γ 0 18) ≤ γ0 0 19 → (x = 0 → GrQ γ0 0 γ) → γ 0 1 - γ 0 5 < n → 0 < n → wp (f_M_group_L7 f_M_group_b18 f_M_group_b34 f_M_group_b66 f_M_group_b170 n γ b (γ0 0 19) x) (Ro (γ0 0 19) γ0 (GrB b γ0)) := by
  intro n
  induction n with
  | zero => intro γ x h1 hn h2 h3 h4 h5; exact absurd h5 (by omega)
  | succ n ih =>
    intro γ x h1 hn h2 h3 h4 h5
    have a1 := h1.1.1
    have m := Mv.pk0 a1
    have h' := h1.mv m
    have ⟨⟨a1', a2', a3', a4', a5', a6', a7'⟩, b1', b2', b3'⟩ := h'
    have t := a1.te2
    unfold f_M_group_L7
    refine wp_ite (fun q => w_group_b170 (h3 q) hn h2) (fun q => ?_)
    refine wp_yn (w_nameHere a1) (fun q2 => ?_) (fun q2 => ?_)
    · rw [if_pos (by decide)]
      refine wp_bnd (w_variableHere (lo := pkS γ 4 (pkS γ 0 18)) a1.tko a5' a3'.1 (by omega) (by omega) rfl) (fun r γ3 hz => ?_)
      obtain ⟨r', e, f⟩ := hz
      cases e
      refine wp_ite (fun q3 => ?_) (fun q3 => wp_some (Ro.er b1' a7'))
      refine wp_chk (by omega) (wp_chk (by omega) (wp_ite (fun q4 => ?_) (fun q4 => wp_some (Ro.er b1' a7'))))
      refine wp_chk (by omega) (wp_sub ?_)
      rw [pk_7]
      have c1 : ∀ w, setA (pkS γ) 10 (pkS γ 0 19) w 0 19 = pkS γ 0 19 := fun w => by rw [stA, if_neg (by omega)]
      have c8 : ∀ w, setA (pkS γ) 10 (pkS γ 0 19) w 0 8 = tE γ := fun w => by rw [stA, if_neg (by omega), pk_8]
      have c7 : ∀ w, setA (pkS γ) 10 (pkS γ 0 19) w 0 7 = sk γ := fun w => by rw [stA, if_neg (by omega), pk_7]
      have lx := a1.1
      have lx5 := a1.2.1
      rw [c7, c8, c1]
      refine wp_chk (by omega) (wp_chk (by omega) (wp_sub ?_))
      rw [show ∀ w1 w2, setA (setA (pkS γ) 10 (pkS γ 0 19) w1) 11 (pkS γ 0 19) w2 0 19 = pkS γ 0 19 from fun w1 w2 => by rw [stA, if_neg (by omega), c1]]
      refine wp_chk (by omega) (wp_sub ?_)
      rw [show ∀ w1 w2 w3, setA (setA (setA (pkS γ) 10 (pkS γ 0 19) w1) 11 (pkS γ 0 19) w2) 12 (pkS γ 0 19) w3 0 19 = pkS γ 0 19 from fun w1 w2 w3 => by rw [stA, if_neg (by omega), stA, if_neg (by omega), c1]]
      refine wp_chk (by omega) (wp_sub ?_)
      rw [show ∀ w1 w2 w3 w4, setA (setA (setA (setA (pkS γ) 10 (pkS γ 0 19) w1) 11 (pkS γ 0 19) w2) 12 (pkS γ 0 19) w3) 13 (pkS γ 0 19) w4 0 19 = pkS γ 0 19 from fun w1 w2 w3 w4 => by rw [stA, if_neg (by omega), stA, if_neg (by omega), stA, if_neg (by omega), c1]]
      refine wp_chk (by omega) (wp_sub ?_)
      generalize hg : setA (setA _ 13 (pkS γ 0 19) 0) 0 19 (pkS γ 0 19 + 1) = γ5
      have s : ∀ j k, γ5 j k = if j = 0 ∧ k = 19 then pkS γ 0 19 + 1 else if j = 13 ∧ k = pkS γ 0 19 then 0 else if j = 12 ∧ k = pkS γ 0 19 then -1 else if j = 11 ∧ k = pkS γ 0 19 then tE γ - sk γ else if j = 10 ∧ k = pkS γ 0 19 then sk γ else pkS γ j k := fun j k => by rw [← hg, stA, stA, stA, stA, stA]
      have h5 := h'.add (a := sk γ) (s := tE γ - sk γ) ⟨by omega, by omega⟩ (by omega) s
      have n5 : GN γ0 γ5 := fun u q1 q2 => by
        rw [s] at q2 ⊢
        rw [if_pos ⟨rfl, rfl⟩] at q2
        by_cases q9 : u = pkS γ 0 19
        · rw [if_neg (by omega), if_neg (by omega), if_pos ⟨rfl, q9⟩]
        · (repeat rw [if_neg (by omega)])
          exact (hn.mv m) u q1 (by omega)
      have l5 := h5.1.1
      have e5 : γ5 0 5 = sk γ := by rw [s]; (repeat rw [if_neg (by omega)]); exact pkS_5 γ
      have e1 : γ5 0 1 = γ 0 1 := by rw [s]; (repeat rw [if_neg (by omega)]); exact pkS_o γ 0 1 (by omega)
      have eb : γ5 1 = γ 1 := funext fun k => by rw [s]; (repeat rw [if_neg (by omega)]); exact pkS_o γ 1 k (by omega)
      have e18 : γ5 0 18 = γ 0 18 := by rw [s]; (repeat rw [if_neg (by omega)]); exact pkS_o γ 0 18 (by omega)
      have e4 : ∀ k, γ5 4 k = γ 4 k := fun k => by rw [s]; (repeat rw [if_neg (by omega)]); exact pkS_o γ 4 k (by omega)
      have e19 : γ5 0 19 = pkS γ 0 19 + 1 := by rw [s, if_pos ⟨rfl, rfl⟩]
      have esk : sk γ5 = sk γ := by
        show skpF (γ5 1) (γ5 0 1) FU (γ5 0 5) = _
        rw [e1, eb, e5]
        exact skpF_id a1.skb.2.2 FU
      have eK : tK γ5 = tK γ := by unfold tK; rw [e1, eb, esk]
      have lt := Mv.nz l5 (by rw [eK, q2.1]; decide)
      have tl : sk γ < tE γ := t.2.2.2 (by rw [q2.1]; decide)
      refine wp_bs (tkM_eq l5) (wp_bs (pkM_eq l5.tk) ?_)
      have m2 := (Mv.tk0 l5).pk
      have h6 := h5.mv m2
      have f5 : tkS γ5 0 5 ≤ pkS (tkS γ5) 0 5 := (Mv.pk0 l5.tk).2.2
      have i19 := m2.2.1 0 19 (by omega)
      have i18 := m2.2.1 0 18 (by omega)
      have i1 := m2.2.1 0 1 (by omega)
      have i4 := m2.2.1 4 (γ 0 18) (by omega)
      have g6 : GrQ γ0 0 (pkS (tkS γ5)) := ⟨h6, by omega, by have := h1.2.2.2.1; omega⟩
      refine wp_ite (fun q5 => ?_) (fun q5 => ?_)
      · unfold f_M_group_b158
        rw [if_pos rfl]
        exact ih _ 0 h6 (n5.mv m2) (by rw [i18, e18, i4, e4]; exact h2) (fun _ => g6) (by omega) (by omega)
      · unfold f_M_group_b158
        rw [if_neg (by decide)]
        refine wp_bs (tkM_eq h6.1.1) ?_
        have m3 := m2.tk
        have m4 := Mv.tk0 h6.1.1
        exact ih _ 1 (h5.mv m3) (n5.mv m3) (by rw [m3.2.1 0 18 (by omega), e18, m3.2.1 4 _ (by omega), e4]; exact h2) (fun q => absurd q (by decide)) (by rw [m3.2.1 0 1 (by omega)]; have := m4.2.2; omega) (by omega)
    · rw [if_neg (by decide)]
      unfold f_M_group_b18
      exact wp_cant a1' (Ro.er (h'.mv (Mv.pk0 a1')).2.1 (h'.mv (Mv.pk0 a1')).b14)
theorem w_group {γ : St} {b : Int} (h : DcI γ) : wp (f_M_group γ b) (Ro (γ 0 19) γ (GrB b γ)) := by
  have := FU_v
  have ⟨a1, a2, a3, a4, a5, a6, a7⟩ := h
  have lx := a1.1
  have lx5 := a1.2.1
  unfold f_M_group
  refine wp_sub ?_
  exact w_group_L7 FU γ 1 ⟨h, fun _ _ _ _ => rfl, Int.le_refl _, Int.le_refl _, fun v q1 q2 => by omega⟩ GN.rf a4.1 (fun q => absurd q (by decide)) (by omega) (by omega)
theorem GI.tr {γ0 γ γ' : St} (h : GI γ0 γ) (g : GI γ γ') : GI γ0 γ' := ⟨g.1, fun j k q1 q2 => (g.2.1 j k q1 (fun r1 r2 => by have := q2 r1 r2; have := h.2.2.1; omega)).trans (h.2.1 j k q1 q2), Int.le_trans h.2.2.1 g.2.2.1, Int.le_trans h.2.2.2.1 g.2.2.2.1, fun v q1 q2 => by
  by_cases q : v < γ 0 19
  · rw [g.2.1 13 v (by omega) (by omega)]; exact h.2.2.2.2 v q1 q
  · exact g.2.2.2.2 v (by omega) q2⟩
theorem GI.rf {γ : St} (h : DcI γ) : GI γ γ := ⟨h, fun _ _ _ _ => rfl, Int.le_refl _, Int.le_refl _, fun v q1 q2 => by omega⟩
theorem Fg.tr {γ0 γ γ' : St} (h : GI γ0 γ) (g : Fg (γ 0 19) γ γ') : Fg (γ0 0 19) γ0 γ' := fun j k q1 q2 => (g j k q1 (fun r1 r2 => by have := q2 r1 r2; have := h.2.2.1; omega)).trans (h.2.1 j k q1 q2)
theorem GN.tr {γ0 γ γ' : St} (h : GN γ0 γ) (g : GI γ γ') (k : GN γ γ') : GN γ0 γ' := fun v q1 q2 => by
  by_cases q : v < γ 0 19
  · rw [g.2.1 12 v (by omega) (by omega)]; exact h v q1 q
  · exact k v (by omega) q2
theorem w_groups_L11 {γ0 : St} : ∀ (n : Nat) (γ : St), GI γ0 γ → GN γ0 γ → γ 0 1 - γ 0 5 < n → wp (f_M_groups_L11 f_M_groups_b32 n γ) (Ro (γ0 0 19) γ0 (fun _ γ' => GI γ0 γ' ∧ GN γ0 γ')) := by
  intro n
  induction n with
  | zero => intro γ h1 hn h2; have := h1.1.1.2.1; exfalso; omega
  | succ n ih =>
    intro γ h1 hn h2
    have a1 := h1.1.1
    have m := Mv.pk0 a1
    have h' := h1.mv m
    unfold f_M_groups_L11
    refine wp_bs (pkM_eq a1) (wp_ite (fun q => ?_) (fun q => ?_))
    · unfold f_M_groups_b32
      exact wp_must h'.1.1 (fun q2 => wp_some (Ro.ok (h'.mv (Mv.tk0 h'.1.1)).2.1 (h'.mv (Mv.tk0 h'.1.1)).b14 ⟨h'.mv (Mv.tk0 h'.1.1), (hn.mv m).mv (Mv.tk0 h'.1.1)⟩)) (fun q2 => Ro.er (h'.mv (Mv.pk0 h'.1.1)).2.1 (h'.mv (Mv.pk0 h'.1.1)).b14)
    · refine wp_bs (tkM_eq a1.pk) ?_
      rw [tkS_pk a1]
      have h2' := h1.mv (Mv.tk0 a1)
      have e1 := (Mv.tk0 a1).2.1 0 1 (by omega)
      have lt := Mv.nz a1 (by omega)
      refine wp_bndT (w_group h2'.1) (fun e γ' z => Ro.er (Fg.tr h2' z.1) z.2.2) (fun r γ' z => ?_)
      have g : GrQ (tkS γ) r γ' := (z.2.1 r rfl).1
      have gn : GN (tkS γ) γ' := (z.2.1 r rfl).2 rfl
      have e1' : γ' 0 1 = tkS γ 0 1 := z.1 0 1 (by omega) (by omega)
      have := g.2.2
      have := a1.2.1
      exact ih γ' (h2'.tr g.1) ((hn.mv (Mv.tk0 a1)).tr g.1 gn) (by omega)
/-- the groups in brackets -/
theorem w_groups {γ : St} (h : DcI γ) : wp (f_M_groups γ) (Ro (γ 0 19) γ (GrB 0 γ)) := by
  have := FU_v
  have a1 := h.1
  have b1 := a1.1
  have b5 := a1.2.1
  unfold f_M_groups
  refine wp_must a1 (fun q => ?_) (fun q => Ro.er ((GI.rf h).mv (Mv.pk0 a1)).2.1 ((GI.rf h).mv (Mv.pk0 a1)).b14)
  have m := Mv.tk0 a1
  have h1 := (GI.rf h).mv m
  have e1 := m.2.1 0 1 (by omega)
  have e19 := m.2.1 0 19 (by omega)
  refine wp_bndT (w_group h1.1) (fun e γ' z => Ro.er (Fg.tr h1 z.1) z.2.2) (fun r γ' z => ?_)
  have g : GrQ (tkS γ) r γ' := (z.2.1 r rfl).1
  have gn : GN (tkS γ) γ' := (z.2.1 r rfl).2 rfl
  have e1' : γ' 0 1 = tkS γ 0 1 := z.1 0 1 (by omega) (by omega)
  have g2 := g.2.2
  have g3 := g.2.1
  have m2 := m.2.2
  have g5 := g.1.1.1.2.1
  refine wp_mono (w_groups_L11 (γ0 := γ') FU γ' (GI.rf g.1.1) GN.rf (by omega)) (fun w hw => ⟨Fg.tr (h1.tr g.1) hw.1, fun r e => ?_, hw.2.2⟩)
  have k2' := hw.2.1 r e
  have k := k2'.1
  have n1 : GN γ γ' := (GN.rf.mv m).tr g.1 gn
  have k1 := k.2.2.1
  have k2 := k.2.2.2.1
  exact ⟨⟨(h1.tr g.1).tr k, by omega, by omega⟩, fun _ => n1.tr k k2'.2⟩
