/-! the class's expression reader: reduce, whole -/
set_option maxHeartbeats 2000000 in
theorem w_red_b203 {n : Nat} {γ γs : St} {x84 A v k : Int} (ih : ∀ (γ : St) (x84 x85 : Int), ErJ γ → ErS γ → γ 6 12 = 0 → 1 ≤ x84 → (x85 = 1 ∨ x85 = 0 ∧ γ 1 7 ≠ 0) → γ 6 8 < n → wp (f_Er_reduce_L2 n γ x84 x85) (fun z => RdP γ z ∧ (x85 = 0 → z.1 = 0))) (hx : 1 ≤ x84) (h : ErJ γ) (hS : ErS γ) (hk : sdK k A ∧ k ≠ 43 ∧ k ≠ 2 ∧ k ≠ 27) (hA : A = ndK (γ 48 (γ 6 8 - 1)) + 1) (ht : γ 48 (γ 6 8 - 1) ≠ 43) (hn : γ 6 8 < n + 1) (h0 : 0 < γ 6 8) (hv : 0 ≤ v ∧ v ≤ γ 4 4) (hf : γ 6 12 = 0)
    (s0 : ∀ j i, γs j i = if j = 52 ∧ i = sumK ndK (γ 48) (γ 6 8 - 1).toNat then v + 1 else if j = 6 ∧ i = 9 then sumK ndK (γ 48) (γ 6 8 - 1).toNat + 1 else if j = 6 ∧ i = 10 then sumK nestK (γ 48) (γ 6 8 - 1).toNat else if j = 6 ∧ i = 8 then γ 6 8 - 1 else γ j i) :
    wp (f_Er_reduce_b203 (f_Er_reduce_L2 n) γs x84 A v k) (RdP γ) := by
  have ⟨hT, i1, i2, i3, i4, i5, i6, i7⟩ := h
  have t1 := hT.1.2.1
  have t2 := hT.2.1
  have nn := sumK_nn (f := ndK) (g := γ 48) (fun k => (ndK_b k).1) (n := (γ 6 8 - 1).toNat)
  have pp := sumK_pop (f := ndK) (g := γ 48) h0
  have nd := ndK_b (γ 48 (γ 6 8 - 1))
  have s4 : γs 4 4 = γ 4 4 := by rw [s0]; simp
  unfold f_Er_reduce_b203
  refine wp_bnd (w_Cd_add (by omega)) (fun r γ1 hz => ?_)
  obtain ⟨c4, ⟨c38, c39, c40⟩, cF⟩ := hz
  have c4 : γ1 4 4 = γs 4 4 + 1 := c4
  have cF : ∀ j k, (j < 38 ∨ 41 < j ∨ k ≠ γs 4 4) → (j ≠ 4 ∨ k ≠ 4) → γ1 j k = γs j k := cF
  have hT1 : TkR γ1 := hT.ext (fun j k h1 => by rw [cF j k (by omega) (by omega), s0]; grind)
  have a8 : γ1 6 8 = γ 6 8 - 1 := by rw [cF 6 8 (by omega) (by omega), s0]; simp
  have a9 : γ1 6 9 = sumK ndK (γ 48) (γ 6 8 - 1).toNat + 1 := by rw [cF 6 9 (by omega) (by omega), s0]; simp
  have a10 : γ1 6 10 = sumK nestK (γ 48) (γ 6 8 - 1).toNat := by rw [cF 6 10 (by omega) (by omega), s0]; simp
  have a12 : γ1 6 12 = 0 := by rw [cF 6 12 (by omega) (by omega), s0]; simpa using hf
  have a16 : γ1 1 6 = γ 1 6 := by rw [cF 1 6 (by omega) (by omega), s0]; simp
  have a17 : γ1 1 7 = γ 1 7 := by rw [cF 1 7 (by omega) (by omega), s0]; simp
  have a48 : γ1 48 = γ 48 := funext fun k => by rw [cF 48 k (by omega) (by omega), s0]; simp
  have hJ : ErJ γ1 := by
    refine ⟨hT1, by omega, by omega, Or.inl a12, by rw [a9, a48, a8, a12]; omega, by rw [a10, a48, a8], by omega, fun i h1 h2 => ?_⟩
    by_cases q : i = sumK ndK (γ 48) (γ 6 8 - 1).toNat
    · have e52 : γ1 52 i = v + 1 := by rw [cF 52 i (by omega) (by omega), s0, if_pos ⟨rfl, q⟩]
      omega
    · have e52 : γ1 52 i = γ 52 i := by rw [cF 52 i (by omega) (by omega), s0, if_neg (fun w => q w.2), if_neg (by omega), if_neg (by omega), if_neg (by omega)]
      have := i7 i h1 (by omega)
      omega
  have c38 : γ1 38 (γ 4 4) = k := by rw [← s4]; exact c38
  have c40 : γ1 40 (γ 4 4) = A := by rw [← s4]; exact c40
  have hS1 : ErS γ1 := by
    have nI : 0 ≤ inS γ (γ 6 8 - 1) := inS_nn (fun i q1 q2 q3 => (hS.2.2.2.1 i q1 (by omega) q3).2.1)
    have ei : inS γ1 (γ 6 8 - 1) = inS γ (γ 6 8 - 1) := inS_ext (fun i _ _ => ⟨by rw [a48], by rw [cF 50 i (by omega) (by omega), s0]; simp⟩)
    have ep := inS_pop (γ := γ) h0
    rw [if_neg ht] at ep
    refine hS.add (by omega) (fun j k h1 => by rw [cF j k (by omega) (by omega), s0]; grind) ?_ ?_ ?_
    · rw [c40, a8, ei, a9]; omega
    · intro i h1 h2 h3
      rw [a8] at h2
      have := hS.2.2.2.1 i h1 (by omega) (by rw [← a48]; exact h3)
      unfold ClI at this ⊢
      rw [cF 49 i (by omega) (by omega), cF 50 i (by omega) (by omega), cF 51 i (by omega) (by omega), cF 3 9 (by omega) (by omega), s0 49, s0 50, s0 51, s0 3 9]
      simp
      omega
    · rw [c38, c40]
      exact ⟨hk.1, fun q => absurd q hk.2.1, fun q => absurd q hk.2.2.1, fun q => absurd q hk.2.2.2, by omega⟩
  have hF : FrR γ γ1 := ⟨fun j k h1 h2 h3 h4 => by rw [cF j k (by omega) h2, s0]; grind, by omega, fun j k h1 h2 h3 => by rw [cF j k (by omega) (by omega), s0]; grind⟩
  have hG : ∀ j k, (j = 6 ∧ 10 < k ∨ 42 ≤ j ∧ j ≠ 52) → γ1 j k = γ j k := fun j k h1 => by rw [cF j k (by omega) (by omega), s0]; grind
  have go : ∀ γ2 : St, ErJ γ2 → FrC γ1 γ2 → γ2 1 6 = γ1 1 6 → ∀ x85, (x85 = 1 ∧ γ2 1 7 = γ1 1 7 ∨ x85 = 0 ∧ γ2 1 7 ≠ 0) → wp (f_Er_reduce_L2 n γ2 x84 x85) (RdP γ) := by
    intro γ2 hJ2 hF2 h16 x85 h85
    have e : ∀ j k, (j ≠ 1 ∨ k < 6 ∨ 8 < k) → γ2 j k = γ1 j k := hF2
    have f8 := e 6 8 (by omega)
    have f12 := e 6 12 (by omega)
    refine wp_mono (ih γ2 x84 x85 hJ2 (hS1.ext (fun j k hj => e j k (by omega))) (by omega) hx (by omega) (by omega)) (fun z hz => ?_)
    obtain ⟨⟨q1, q2, q3, q4, q5, q6, qs, q7⟩, q9⟩ := hz
    refine ⟨q1, hF.tr (hF2.R.tr q2), q3, by omega, by omega, fun j k hj => by rw [q6 j k hj, e j k (by omega), hG j k hj], qs, ?_⟩
    rcases q7 with q7 | q7
    · exact Or.inl q7
    · rcases h85 with h85 | h85
      · exact Or.inr ⟨q7.1, by rw [q7.2, h85.2, a17]⟩
      · exact absurd (q7.1.symm.trans (q9 h85.1)) (by decide)
  refine wp_ite (fun _ => ?_) (fun _ => wp_bnd (w_Tk_fail hT1 (by omega)) (fun r2 γ2 hz => wp_ite (fun _ => ?_) (fun c => absurd hz.2.2.1 c)))
  · unfold f_Er_reduce_b228 f_Er_reduce_b233
    exact go γ1 hJ FrC.rf rfl 1 (Or.inl ⟨rfl, rfl⟩)
  · unfold f_Er_reduce_b233
    exact go γ2 (hJ.fr hz.1 hz.2.1 (Int.le_of_eq hz.2.2.2.1.symm)) hz.2.1 hz.2.2.2.1 0 (Or.inr ⟨rfl, hz.2.2.2.2⟩)
set_option maxHeartbeats 2000000 in
theorem w_red_L2 : ∀ (n : Nat) (γ : St) (x84 x85 : Int), ErJ γ → ErS γ → γ 6 12 = 0 → 1 ≤ x84 → (x85 = 1 ∨ x85 = 0 ∧ γ 1 7 ≠ 0) → γ 6 8 < n → wp (f_Er_reduce_L2 n γ x84 x85) (fun z => RdP γ z ∧ (x85 = 0 → z.1 = 0)) := by
  intro n
  induction n with
  | zero => intro γ x84 x85 h hS h1 h2 h3 h4; have := h.2.1; exfalso; omega
  | succ n ih =>
    intro γ x84 x85 h hS hf hx h3 hn
    have ⟨hT, i1, i2, i3, i4, i5, i6, i7⟩ := h
    have rf : wp (chk (x85 = 0 ∨ x85 = 1) (some (x85, γ))) (fun z : Int × St => RdP γ z ∧ (x85 = 0 → z.1 = 0)) := wp_chk (by omega) (wp_some ⟨⟨h, FrR.rf, hf, Int.le_refl _, rfl, fun _ _ _ => rfl, hS, by rcases h3 with h3 | h3; exact Or.inr ⟨h3, rfl⟩; exact Or.inl h3⟩, fun e => e⟩)
    unfold f_Er_reduce_L2
    refine wp_ite (fun _ => rf) (fun c1 => wp_ite (fun _ => rf) (fun c2 => wp_chk (by omega) (wp_chk (by omega) (wp_bs (f_S_rank_eq _ _) (wp_ite (fun _ => rf) (fun c3 => ?_))))))
    have rk := rank_nd (k := γ 48 (γ 6 8 - 1)) (by omega)
    have nn := sumK_nn (f := ndK) (g := γ 48) (fun k => (ndK_b k).1) (n := (γ 6 8 - 1).toNat)
    have pp := sumK_pop (f := ndK) (g := γ 48) (show 0 < γ 6 8 by omega)
    have nd := ndK_b (γ 48 (γ 6 8 - 1))
    have pn := sumK_pop (f := nestK) (g := γ 48) (show 0 < γ 6 8 by omega)
    have nb := nestK_b (γ 48 (γ 6 8 - 1))
    have nl := sumK_le (f := nestK) (g := γ 48) (c := 1) (fun k => (nestK_b k).2) (n := (γ 6 8).toNat)
    have n0 := sumK_nn (f := nestK) (g := γ 48) (fun k => (nestK_b k).1) (n := (γ 6 8).toNat)
    have t1 := hT.1.2.1
    have t2 := hT.2.1
    have hb : ∀ A, A = ndK (γ 48 (γ 6 8 - 1)) + 1 → wp (f_Er_reduce_b75 (f_Er_reduce_L2 n) (setA γ 6 8 (γ 6 8 - 1)) x84 (γ 48 (γ 6 8 - 1)) A) (RdP γ) := by
      intro A hA
      unfold f_Er_reduce_b75
      refine wp_bs (f_S_nesting_eq _ _) (wp_chk (by simp [stA]; omega) (wp_sub (wp_chk (by omega) (wp_chk (by simp [stA]; omega) (wp_sub ?_)))))
      generalize hs : setA _ 6 9 _ = γs
      have s0 : ∀ j i, γs j i = if j = 6 ∧ i = 9 then sumK ndK (γ 48) (γ 6 8 - 1).toNat + 1 else if j = 6 ∧ i = 10 then sumK nestK (γ 48) (γ 6 8 - 1).toNat else if j = 6 ∧ i = 8 then γ 6 8 - 1 else γ j i := fun j i => by
        rw [← hs, show sumK ndK (γ 48) (γ 6 8 - 1).toNat + 1 = γ 6 9 - (A - 1) by omega, show sumK nestK (γ 48) (γ 6 8 - 1).toNat = γ 6 10 - nestK (γ 48 (γ 6 8 - 1)) by omega]
        simp only [stA]
        grind
      have s9 : γs 6 9 = sumK ndK (γ 48) (γ 6 8 - 1).toNat + 1 := by rw [s0]; simp
      have s4 : γs 4 4 = γ 4 4 := by rw [s0]; simp
      have s52 : ∀ i, γs 52 i = γ 52 i := fun i => by rw [s0]; simp
      refine wp_chk (by omega) (wp_chk (by omega) (wp_sub ?_))
      have v0 := i7 (γs 6 9 - 1) (by omega) (by omega)
      refine w_red_L119 (fun v v1 v2 => ?_) (fun i h1 h2 => by rw [s52, s4]; exact i7 i (by omega) (by omega)) (by omega) (by omega) FU _ 1 (by omega) (by omega) (by rw [s52]; omega) (by rw [s52]; omega) (by have := FU_v; omega)
      unfold f_Er_reduce_b172
      refine wp_chk (by omega) (wp_chk (by omega) (wp_chk (by omega) (wp_sub ?_)))
      have st : ∀ j i, setA γs 52 (γs 6 9 - 1) (v + 1) j i = if j = 52 ∧ i = sumK ndK (γ 48) (γ 6 8 - 1).toNat then v + 1 else if j = 6 ∧ i = 9 then sumK ndK (γ 48) (γ 6 8 - 1).toNat + 1 else if j = 6 ∧ i = 10 then sumK nestK (γ 48) (γ 6 8 - 1).toNat else if j = 6 ∧ i = 8 then γ 6 8 - 1 else γ j i := fun j i => by
        rw [show γs 6 9 - 1 = sumK ndK (γ 48) (γ 6 8 - 1).toNat by omega, stA, s0 j i]
      have sd := red_sd (k := γ 48 (γ 6 8 - 1)) (by omega)
      refine wp_ite (fun c => w_red_b203 ih hx h hS ?_ hA sd.2.1 (by omega) (by omega) (by omega) hf st) (fun c => w_red_b203 ih hx h hS ?_ hA sd.2.1 (by omega) (by omega) (by omega) hf st)
      · rw [if_neg c, ← hA] at sd; exact sd
      · have c : γ 48 (γ 6 8 - 1) = 34 := by omega
        rw [if_pos c, ← hA] at sd
        exact ⟨sd.1, by decide, by decide, by decide⟩
    refine wp_chk (by omega) (wp_sub (wp_chk (by simp [stA]; omega) (wp_sub ?_)))
    have e1 : setA γ 6 8 (γ 6 8 - 1) 48 (setA γ 6 8 (γ 6 8 - 1) 6 8) = γ 48 (γ 6 8 - 1) := by simp [stA]
    rw [e1]
    refine wp_mono (P := RdP γ) ?_ (fun z hz => ⟨hz, fun q => absurd q c1⟩)
    refine wp_ite (fun c4 => wp_bs (f_S_rank_eq _ _) (wp_ite (fun c5 => hb _ (by have := rk.1 c4 c5; omega)) (fun c5 => hb _ (by have := rk.2.1 (by omega); omega)))) (fun c4 => hb _ (by have := rk.2.2 (by omega); omega))
theorem w_Er_reduce {γ : St} {a0 : Int} (h : ErJ γ) (hS : ErS γ) (hf : γ 6 12 = 0) (h0 : 1 ≤ a0) : wp (f_Er_reduce γ a0) (RdP γ) := by
  have := h.2.1
  have := FU_v
  unfold f_Er_reduce
  exact wp_mono (w_red_L2 FU γ a0 1 h hS hf h0 (by omega) (by omega)) (fun z hz => hz.1)
