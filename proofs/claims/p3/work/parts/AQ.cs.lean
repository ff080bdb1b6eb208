/-! the reference's causes: listed -/
/-- what a part reaches for -/
theorem LkM.pf {γ : St} (h : LkM γ) {x e : Int} (h0 : 0 ≤ x) (h1 : x < γ 0 50) (e0 : psN γ (γ 35 x) ≤ e) (e1 : e < peN γ (γ 35 x)) : (0 ≤ e ∧ e < 65000) ∧ (0 ≤ γ 38 x ∧ γ 38 x ≤ 6000) ∧ (γ 20 e = 2 → 0 ≤ γ 38 x + γ 21 e ∧ γ 38 x + γ 21 e < γ 0 51) ∧ (γ 20 e = 26 → 0 ≤ γ 38 x + idiv (γ 21 e) 2 ∧ γ 38 x + idiv (γ 21 e) 2 < γ 0 51) ∧ (22 ≤ γ 20 e → (psN γ (γ 35 x) ≤ γ 22 e ∧ γ 22 e < e) ∧ 0 ≤ γ 38 x + idiv (γ 29 (γ 22 e)) 2 ∧ γ 38 x + idiv (γ 29 (γ 22 e)) 2 < γ 0 51) := by
  have nd := h.nd h0 h1
  have sz := nd.sz
  have m51 := h.2.2.2.1
  have nv : nvN γ (γ 35 x) = γ 4 (γ 35 x + 1) - γ 4 (γ 35 x) := rfl
  have b := (h.2.2.2.2.2.2.2.2.1 x h0 h1).1.2.1
  obtain ⟨ks, c1, c2, c3, ar, w, fl, _⟩ := nd.pt e0 e1
  refine ⟨by omega, by omega, fun q => ?_, fun q => ?_, fun q => ?_⟩
  · have t := w.2.1 q
    exact h.var h0 h1 t.1 t.2
  · have t := w.2.2.2 q
    have i := idiv_fl (Or.inr t) (by omega) (by omega)
    exact h.var h0 h1 i.1 i.2
  · have l1 := ar.2.2.2.2 q
    match ks, l1, c1, c2 with
    | [y], _, c1, c2 =>
      have m := c2.mem y List.mem_cons_self
      have ey : γ 22 e = y := c1.1
      rw [ey]
      refine ⟨by omega, ?_⟩
      obtain ⟨_, _, _, _, _, _, f2, _⟩ := nd.pt (e := y) (by omega) (by omega)
      have i := idiv_fl f2 (by omega) (by omega)
      exact h.var h0 h1 i.1 i.2
theorem w_partCauses_L7 {γ0 : St} (h : LkM γ0) {x root : Int} (h0 : 0 ≤ x) (h1 : x < γ0 0 50) (r1 : root < peN γ0 (γ0 35 x)) : ∀ (n : Nat) (γ : St) (e : Int), CaO γ0 γ → psN γ0 (γ0 35 x) ≤ e → root + 1 - e < n → 0 < n → wp (f_M_partCauses_L7 n γ x root e) (fun z => CaO γ0 z.2) := by
  have m50 := h.2.2.1
  have m51 := h.2.2.2.1
  intro n
  induction n with
  | zero => intro γ e c q1 q2 q3; exact absurd q3 (by omega)
  | succ n ih =>
    intro γ e c q1 q2 q3
    unfold f_M_partCauses_L7
    refine wp_ite (fun q => wp_some c) (fun q => ?_)
    have pf : ∀ γ', CaO γ0 γ' → LkM γ' ∧ γ' 0 50 = γ0 0 50 ∧ psN γ' (γ' 35 x) ≤ e ∧ e < peN γ' (γ' 35 x) := fun γ' c' => by
      have fl := c'.fl
      rw [fl 35 x (by omega) (by omega), fl.ps, fl.pe]
      exact ⟨h.fl fl, fl 0 50 (by omega) (by omega), q1, by omega⟩
    have b143 : ∀ γ', CaO γ0 γ' → wp (f_M_partCauses_b143 (f_M_partCauses_L7 n) γ' x root e) (fun z => CaO γ0 z.2) := fun γ' c' => by
      have ⟨k, k50, k0, k1⟩ := pf γ' c'
      have ⟨p1, p2, _⟩ := k.pf h0 (by omega) k0 k1
      unfold f_M_partCauses_b143
      exact wp_chk (by omega) (ih γ' (e + 1) c' (by omega) (by omega) (by omega))
    have b108 : ∀ γ', CaO γ0 γ' → wp (f_M_partCauses_b108 (f_M_partCauses_L7 n) γ' x root e) (fun z => CaO γ0 z.2) := fun γ' c' => by
      have ⟨k, k50, k0, k1⟩ := pf γ' c'
      have ⟨p1, p2, _, _, p5⟩ := k.pf h0 (by omega) k0 k1
      have k51 := k.2.2.2.1
      have sz := (k.nd h0 (by omega)).sz
      unfold f_M_partCauses_b108
      refine wp_chk (by omega) (wp_ite (fun _ => b143 γ' c') (fun q => ?_))
      have t := p5 (by omega)
      refine wp_chk (by omega) (wp_chk (by omega) (wp_chk (by omega) (wp_chk (by decide) (wp_chk (by omega) (wp_bnd (w_cause c'.1 t.2.1 t.2.2) (fun r γ2 z => b143 γ2 (c'.tr z)))))))
    have b78 : ∀ γ', CaO γ0 γ' → wp (f_M_partCauses_b78 (f_M_partCauses_L7 n) γ' x root e) (fun z => CaO γ0 z.2) := fun γ' c' => by
      have ⟨k, k50, k0, k1⟩ := pf γ' c'
      have ⟨p1, p2, _, p4, _⟩ := k.pf h0 (by omega) k0 k1
      have k51 := k.2.2.2.1
      unfold f_M_partCauses_b78
      refine wp_chk (by omega) (wp_ite (fun _ => b108 γ' c') (fun q => ?_))
      have t := p4 (by omega)
      refine wp_chk (by omega) (wp_chk (by omega) (wp_chk (by decide) (wp_chk (by omega) (wp_bnd (w_cause c'.1 t.1 t.2) (fun r γ2 z => b108 γ2 (c'.tr z))))))
    have b52 : ∀ γ', CaO γ0 γ' → wp (f_M_partCauses_b52 (f_M_partCauses_L7 n) γ' x root e) (fun z => CaO γ0 z.2) := fun γ' c' => by
      have ⟨k, k50, k0, k1⟩ := pf γ' c'
      have ⟨p1, p2, _, _, _⟩ := k.pf h0 (by omega) k0 k1
      unfold f_M_partCauses_b52
      refine wp_chk (by omega) (wp_ite (fun _ => b78 γ' c') (fun q => wp_ite (fun _ => b78 γ' c') (fun q2 => ?_)))
      have nd := k.nd h0 (by omega)
      obtain ⟨ks, _, _, _, _, w, _⟩ := nd.pt k0 k1
      have w3 := w.2.2.1 (by omega)
      have a := (k.2.2.2.2.2.2.2.2.1 x h0 (by omega)).1.1
      have sg := (k.1 _ w3.1 (by omega)).sz
      have o := output_eq k h0 (by omega) k0 k1 (by omega) (i := 0) (by omega)
      exact wp_bs o.1 (wp_bnd (w_cause c'.1 o.2.1 o.2.2) (fun r γ2 z => b78 γ2 (c'.tr z)))
    have ⟨k, k50, k0, k1⟩ := pf γ c
    have ⟨p1, p2, p3, _, _⟩ := k.pf h0 (by omega) k0 k1
    have k51 := k.2.2.2.1
    refine wp_chk (by omega) (wp_ite (fun q4 => wp_chk (by omega) (wp_ite (fun _ => b52 γ c) (fun q5 => ?_))) (fun _ => b143 γ c))
    have t := p3 (by omega)
    exact wp_chk (by omega) (wp_chk (by omega) (wp_chk (by omega) (wp_bnd (w_cause c.1 t.1 t.2) (fun r γ2 z => b52 γ2 (c.tr z)))))
theorem w_partCauses {γ : St} (h : LkM γ) (c : CsM γ) {x root : Int} (h0 : 0 ≤ x) (h1 : x < γ 0 50) (r0 : psN γ (γ 35 x) ≤ root) (r1 : root < peN γ (γ 35 x)) : wp (f_M_partCauses γ x root) (fun z => CaO γ z.2) := by
  have := FU_v
  have nd := h.nd h0 h1
  have sz := nd.sz
  obtain ⟨ks, c1, c2, c3, _, _, _, lo, _⟩ := nd.pt r0 r1
  unfold f_M_partCauses
  refine wp_chk (by omega) (wp_sub ?_)
  exact w_partCauses_L7 h h0 h1 r1 FU γ _ (CaO.rf c) (by omega) (by omega) (by omega)
/-- what causes(v) leaves -/
def CzO (γ : St) (v : Int) (γ' : St) : Prop := CsM γ' ∧ (∀ j k, (j = 0 → k ≠ 67) → (j = 44 → k ≠ v) → (j = 45 → k < γ 0 67) → γ' j k = γ j k) ∧ γ 0 67 ≤ γ' 0 67 ∧ γ' 44 v = γ 0 67 ∧ (γ 42 v = 0 → γ 43 v < γ 5 (γ 35 0) → γ' 0 67 = γ 0 67)
theorem w_causes0_b64 {γ : St} (h : LkM γ) (c : CsM γ) {x i : Int} (h0 : 0 ≤ x) (h1 : x < γ 0 50) (i0 : 0 ≤ i) (i1 : i < nvN γ (γ 35 x)) : wp (f_M_causes_0_b64 γ x (γ 35 x) i) (fun z => CaO γ z.2 ∧ (x = 0 → i < γ 5 (γ 35 0) → z.2 0 67 = γ 0 67)) := by
  have nd := h.nd h0 h1
  have sz := nd.sz
  have n60 := h.n60 h0 h1
  have m50 := h.2.2.1
  have m0 := h.2.2.2.2.2.2.2.1
  have nv : nvN γ (γ 35 x) = γ 4 (γ 35 x + 1) - γ 4 (γ 35 x) := rfl
  have a := h.2.2.2.2.2.2.2.2.1 x h0 h1
  unfold f_M_causes_0_b64
  refine wp_chk (by omega) (wp_ite (fun q => ?_) (fun q => ?_))
  · have df := nd.df (v := γ 4 (γ 35 x) + i) (by omega) (by omega)
    have eq := nd.eq df.1.1 df.1.2
    have no : ∀ z : Int × St, CaO γ z.2 → CaO γ z.2 ∧ (x = 0 → i < γ 5 (γ 35 0) → z.2 0 67 = γ 0 67) := fun z hz => ⟨hz, fun q1 q2 => by rw [q1] at q; omega⟩
    refine wp_chk (by omega) (wp_chk (by omega) (wp_chk (by omega) (wp_sub (wp_chk (by omega) (wp_bnd (w_partCauses h c h0 h1 (by omega) eq.2.2.1) (fun r γ2 z => ?_))))))
    have z : CaO γ γ2 := z
    have fl := z.fl
    have g : ∀ j k, 2 ≤ j → j ≤ 43 → γ2 j k = γ j k := fun j k q1 q2 => fl j k q2 (by omega)
    have h2 := h.fl fl
    have e50 := fl 0 50 (by omega) (by omega)
    rw [g 17 _ (by omega) (by omega), g 20 _ (by omega) (by omega), g 4 _ (by omega) (by omega), g 33 _ (by omega) (by omega)]
    refine wp_chk (by omega) (wp_chk (by omega) (wp_ite (fun _ => wp_some (no _ z)) (fun q2 => ?_)))
    have o := output_eq h2 (x := x) (e := γ 17 (γ 32 (γ 4 (γ 35 x) + i))) (i := γ 33 (γ 4 (γ 35 x) + i)) h0 (by omega) (by rw [g 35 _ (by omega) (by omega), fl.ps]; omega) (by rw [g 35 _ (by omega) (by omega), fl.pe]; omega) (by rw [g 20 _ (by omega) (by omega)]; omega) (by rw [g 21 _ (by omega) (by omega), g 6 _ (by omega) (by omega)]; exact ⟨df.2.1, df.2.2.2 (by omega)⟩)
    exact wp_chk (by omega) (wp_chk (by omega) (wp_chk (by omega) (wp_chk (by omega) (wp_bs o.1 (wp_bnd (w_cause z.1 o.2.1 o.2.2) (fun r γ3 z3 => wp_some (no _ (z.tr z3))))))))
  · refine wp_chk (by omega) (wp_ite (fun q2 => ?_) (fun q2 => wp_some ⟨CaO.rf c, fun _ _ => rfl⟩))
    have x0 : 0 < x := by
      by_cases q3 : x = 0
      · rw [q3, m0.2.1] at q2; omega
      · omega
    have no : ∀ z : Int × St, CaO γ z.2 → CaO γ z.2 ∧ (x = 0 → i < γ 5 (γ 35 0) → z.2 0 67 = γ 0 67) := fun z hz => ⟨hz, fun q1 q2 => by omega⟩
    have ⟨o1, o2, o3, o4⟩ := a.2.2.1 x0
    have nd2 := h.nd (x := γ 36 x) (by omega) (by omega)
    have sz2 := nd2.sz
    refine wp_chk (by omega) (wp_bnd (w_argument nd2 o2.1 o2.2 o3 (by rw [o4]; omega) (by rw [o4]; omega)) (fun r γ2 hz => ?_))
    obtain ⟨e2, l1, l2⟩ := hz
    have e2 : γ2 = γ := e2
    have l1 : psN γ (γ 35 (γ 36 x)) ≤ r := l1
    have l2 : r < γ 37 x := l2
    subst e2
    refine wp_chk (by omega) (wp_bnd (w_partCauses h c (by omega) (by omega) l1 (by omega)) (fun r3 γ3 z => ?_))
    have z : CaO γ2 γ3 := z
    have fl := z.fl
    have g : ∀ j k, 2 ≤ j → j ≤ 43 → γ3 j k = γ2 j k := fun j k q1 q2 => fl j k q2 (by omega)
    have h2 := h.fl fl
    have e50 := fl 0 50 (by omega) (by omega)
    rw [g 20 _ (by omega) (by omega), g 36 _ (by omega) (by omega)]
    refine wp_chk (by omega) (wp_ite (fun _ => wp_some (no _ z)) (fun q3 => ?_))
    obtain ⟨ks, _, _, _, _, w, _⟩ := nd2.pt l1 (by omega)
    have w3 := w.2.2.1 (by omega)
    have aa := (h.2.2.2.2.2.2.2.2.1 (γ2 36 x) (by omega) (by omega)).1.1
    have sg := (h.1 _ w3.1 (by omega)).sz
    have o := output_eq h2 (x := γ2 36 x) (e := r) (i := 0) (by omega) (by omega) (by rw [g 35 _ (by omega) (by omega), fl.ps]; omega) (by rw [g 35 _ (by omega) (by omega), fl.pe]; omega) (by rw [g 20 _ (by omega) (by omega)]; omega) (by rw [g 21 _ (by omega) (by omega), g 6 _ (by omega) (by omega)]; omega)
    exact wp_chk (by omega) (wp_bs o.1 (wp_bnd (w_cause z.1 o.2.1 o.2.2) (fun r γ3 z3 => wp_some (no _ (z.tr z3)))))
theorem w_causes0 {γ : St} (h : LkM γ) (c : CsM γ) {v : Int} (h0 : 0 ≤ v) (h1 : v < γ 0 51) : wp (f_M_causes_0 γ v) (fun z => CzO γ v z.2) := by
  have m50 := h.2.2.1
  have m51 := h.2.2.2.1
  have iv := h.2.2.2.2.2.2.2.2.2 v h0 h1
  have ⟨i1, i2, i3, i4⟩ := iv
  have n60 := h.n60 i1.1 i1.2
  have nd := h.nd i1.1 i1.2
  have sz := nd.sz
  have nv : nvN γ (γ 35 (γ 42 v)) = γ 4 (γ 35 (γ 42 v) + 1) - γ 4 (γ 35 (γ 42 v)) := rfl
  unfold f_M_causes_0
  refine wp_chk (by omega) (wp_sub ?_)
  have s : ∀ j k, setA γ 44 v (γ 0 67) j k = if j = 44 ∧ k = v then γ 0 67 else γ j k := fun j k => by rw [stA]
  generalize setA γ 44 v (γ 0 67) = γ1 at *
  have s0 : ∀ j k, (j = 44 → k ≠ v) → γ1 j k = γ j k := fun j k q => by rw [s, if_neg (by omega)]
  have fl : FL γ γ1 := fun j k q1 q2 => s0 j k (by omega)
  have k1 := h.fl fl
  have c1 : CsM γ1 := ⟨by rw [s0 0 67 (by omega)]; exact c.1, fun i q1 q2 => by rw [s0 45 i (by omega), s0 0 51 (by omega)]; exact c.2 i q1 (by rw [s0 0 67 (by omega)] at q2; exact q2)⟩
  have e50 := s0 0 50 (by omega)
  have e67 := s0 0 67 (by omega)
  have fin : ∀ γ', CaO γ1 γ' → (γ 42 v = 0 → γ 43 v < γ 5 (γ 35 0) → γ' 0 67 = γ1 0 67) → wp (f_M_causes_0_b64 γ' (γ 42 v) (γ 35 (γ 42 v)) (γ 43 v)) (fun z => CzO γ v z.2) := fun γ' c' q' => by
    have f' := c'.fl
    have k' := k1.fl f'
    have e35 : γ' 35 (γ 42 v) = γ 35 (γ 42 v) := by rw [f' 35 _ (by omega) (by omega), s0 35 _ (by omega)]
    have e350 : γ' 35 0 = γ 35 0 := by rw [f' 35 _ (by omega) (by omega), s0 35 _ (by omega)]
    have e5 : ∀ k, γ' 5 k = γ 5 k := fun k => by rw [f' 5 _ (by omega) (by omega), s0 5 _ (by omega)]
    have b := w_causes0_b64 (i := γ 43 v) k' c'.1 i1.1 (by rw [f' 0 50 (by omega) (by omega), e50]; exact i1.2) i3 (by rw [e35, f'.nv, fl.nv]; exact i4)
    rw [e35] at b
    refine wp_mono b (fun z hz => ?_)
    have ct := c'.tr hz.1
    have t2 := ct.2.2
    refine ⟨ct.1, fun j k q1 q2 q3 => ?_, by omega, ?_, fun q1 q2 => ?_⟩
    · rw [ct.2.1 j k q1 (by omega), s0 j k q2]
    · rw [ct.2.1 44 v (by omega) (by omega), s, if_pos ⟨rfl, rfl⟩]
    · rw [hz.2 q1 (by rw [e350, e5]; exact q2), q' q1 q2, e67]
  refine wp_chk (by omega) (wp_sub ?_)
  rw [s0 42 v (by omega)]
  refine wp_chk (by omega) (wp_sub ?_)
  rw [s0 35 _ (by omega)]
  refine wp_chk (by omega) (wp_sub ?_)
  rw [s0 43 v (by omega), s0 4 _ (by omega), s0 12 _ (by omega)]
  refine wp_chk (by omega) (wp_chk (by omega) (wp_chk (by omega) ?_))
  have ck := nd.ck (v := γ 4 (γ 35 (γ 42 v)) + γ 43 v) (by omega) (by omega)
  refine wp_bnd (w_clockVariable k1 i1.1 (by omega) (by rw [s0 35 _ (by omega), fl.nv]; exact ck)) (fun r γ2 hz => ?_)
  obtain ⟨e2, hr, hm⟩ := hz
  have e2 : γ2 = γ1 := e2
  have hr : r = -1 ∨ 0 ≤ r ∧ r < γ1 0 51 := hr
  have hm : γ 42 v = 0 → γ 12 (γ 4 (γ 35 (γ 42 v)) + γ 43 v) = -1 → r = -1 := hm
  subst e2
  refine wp_ite (fun q => fin γ2 (CaO.rf c1) (fun _ _ => rfl)) (fun q => ?_)
  refine wp_bnd (w_cause c1 (by omega) (by omega)) (fun r2 γ3 z => fin γ3 z (fun q1 q2 => ?_))
  exfalso
  have := hm q1 (nd.c0 (by omega) (by rw [q1] at sz ⊢; omega))
  omega
