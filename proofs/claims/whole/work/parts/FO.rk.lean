/-! equality: read, with types and truths kept -/
theorem TyW.fn {γ0 γ : St} {f k : Int} (t : TpW γ0) (fn : Fn γ0 γ) (h0 : 0 ≤ f) (h1 : f < γ0 0 18) (k1 : γ0 7 f ≤ k) (k2 : k < γ0 7 (f + 1)) (h : TyW γ0 (γ0 4 f) k) : TyW γ (γ0 4 f) k := by
  obtain ⟨n1, n2, n5, l0, l, P0, P, n3, n4, x⟩ := t.2.2.2.2.2.2.2.2 f h0 h1
  have ⟨x1, xx, x3, x4, x5, x6, x7, x8, x9, x10, x11, x12, x13, x14, x15⟩ := x.1
  have er := x4.1 k k1 k2
  have ⟨r1, r2, r3, r4, r5, r6, r7⟩ := er.1
  have u1 := er.2.1
  have u2 := er.2.2
  have f15 : ∀ j q, (j = 17 ∨ j = 19) → q < γ0 0 30 → γ j q = γ0 j q := fun j q w1 w2 => fn j q (by omega) (by omega) (by omega) (by omega) (by omega) (by omega) (by omega) (by omega) (by omega)
  have f16 : ∀ q, q ≤ γ0 0 30 → γ 16 q = γ0 16 q := fun q w2 => fn 16 q (by omega) (by omega) (by omega) (by omega) (by omega) (by omega) (by omega) (by omega) (by omega)
  have f18 : ∀ q, q < γ0 0 31 → γ 18 q = γ0 18 q := fun q w2 => fn 18 q (by omega) (by omega) (by omega) (by omega) (by omega) (by omega) (by omega) (by omega) (by omega)
  have f20 : ∀ j q, 20 ≤ j → j ≤ 24 → q < γ0 0 40 → γ j q = γ0 j q := fun j q w1 w3 w2 => fn j q (by omega) (by omega) (by omega) (by omega) (by omega) (by omega) (by omega) (by omega) (by omega)
  have f14 : ∀ q, q < γ0 0 19 → γ 14 q = γ0 14 q := fun q w2 => fn 14 q (by omega) (by omega) (by omega) (by omega) (by omega) (by omega) (by omega) (by omega) (by omega)
  have f5 : ∀ q, q < γ0 0 18 → γ 5 q = γ0 5 q := fun q w2 => fn 5 q (by omega) (by omega) (by omega) (by omega) (by omega) (by omega) (by omega) (by omega) (by omega)
  have f4 : ∀ q, q ≤ γ0 0 18 → γ 4 q = γ0 4 q := fun q w2 => fn 4 q (by omega) (by omega) (by omega) (by omega) (by omega) (by omega) (by omega) (by omega) (by omega)
  have nd : ∀ g, 0 ≤ g → g < γ0 0 18 → 0 ≤ γ0 4 g ∧ 1 ≤ γ0 5 g ∧ 1 ≤ γ0 6 g ∧ γ0 4 g + γ0 5 g + γ0 6 g ≤ γ0 0 19 := fun g w1 w2 => by
    obtain ⟨m1, m2, m5, _, _, _, _, _, _, y⟩ := t.2.2.2.2.2.2.2.2 g w1 w2
    have := y.1.1
    omega
  obtain ⟨τ, ha, hb⟩ := h
  refine ⟨τ, ?_, ?_⟩
  · rw [f15 19 k (by omega) (by omega), f15 17 k (by omega) (by omega)]
    intro e q1 q2
    obtain ⟨ms, c1, c2, t0, t2, t3, t4, t5, t7, t17, t23, t24⟩ := ha e q1 q2
    obtain ⟨ks, g1, g2, g3, g4, g5, _⟩ := r5 e q1 q2
    have ek := Ch.uniq g1 c1
    rw [ek] at g4
    have ck := ch_kd c1
    have e20 := f20 20 e (by omega) (by omega) (by omega)
    have e21 := f20 21 e (by omega) (by omega) (by omega)
    have e22 := f20 22 e (by omega) (by omega) (by omega)
    have l2 : 5 ≤ γ0 20 e → γ0 20 e ≤ 21 → ms.length = 2 := fun a b => g4.2.2.2.1 ⟨a, b⟩
    have k23 : ∀ (j : Nat) z, ms[j]? = some z → γ 23 z = γ0 23 z := fun j z hz => f20 23 z (by omega) (by omega) (by have := c2 z (List.mem_of_getElem? hz); omega)
    refine ⟨ms, ?_, c2, ?_⟩
    · rw [e22]
      exact c1.agree (fun y hy => f20 23 y (by omega) (by omega) (by have := c2 y hy; omega))
    · unfold TyQ
      rw [e20, e21, e22]
      refine ⟨t0, fun q => ?_, fun q => ?_, fun q => ?_, fun q => ?_, fun q q' => ?_, t17, t23, t24⟩
      · have := g5.2.1 q
        rw [f14 _ (by omega)]; exact t2 q
      · have w3 := g5.2.2.1 q
        have b := nd (γ0 21 e) w3.1 (by omega)
        rw [f4 _ (by omega), f5 _ (by omega), f14 _ (by omega)]
        refine ⟨(t3 q).1, fun i y hy => ?_⟩
        obtain ⟨ks', d1, d2, d3⟩ := x.2.2.2 k k1 k2 e q1 q2 q
        have : i < ms.length := by
          rcases Nat.lt_or_ge i ms.length with z | z
          · exact z
          · rw [List.getElem?_eq_none z] at hy; cases hy
        rw [Ch.uniq d1 c1] at d2
        rw [f14 _ (by omega)]; exact (t3 q).2 i y hy
      · have l3 := g4.2.2.1 q
        rw [k23 0 _ (ck.1 (by omega)), k23 1 _ (ck.2.1 (by omega))]; exact t4 q
      · have l := l2 (by omega) (by omega)
        rw [k23 0 _ (ck.1 (by omega))]; exact t5 q
      · have l := l2 (by omega) (by omega)
        rw [k23 0 _ (ck.1 (by omega))]; exact t7 q q'
  · rw [f16 k (by omega), f16 (k + 1) (by omega), f15 17 k (by omega) (by omega), f20 20 _ (by omega) (by omega) (by omega), f20 21 _ (by omega) (by omega) (by omega)]
    intro i q1 q2
    have l3 := r3 i q1 q2
    have hh := hb i q1 q2
    rw [f18 i (by omega), f14 _ (by omega), hh]
    by_cases q : γ0 20 (γ0 17 k) = 3
    · rw [if_pos q, if_pos q]
      obtain ⟨ks, g1, g2, g3, g4, g5, _⟩ := r5 (γ0 17 k) (by omega) (Int.le_refl _)
      have w3 := g5.2.2.1 q
      have b := nd (γ0 21 (γ0 17 k)) w3.1 (by omega)
      obtain ⟨ks', d1, d2, d3⟩ := x.2.2.2 k k1 k2 (γ0 17 k) (by omega) (Int.le_refl _) q
      rw [if_pos rfl] at d3
      rw [f4 _ (by omega), f5 _ (by omega), f14 _ (by omega)]
    · rw [if_neg q, if_neg q]
def TyA (δ : St) : Prop := ∀ f, 0 ≤ f → f < δ 0 18 → ∀ k, δ 7 f ≤ k → k < δ 7 (f + 1) → TyW δ (δ 4 f) k
def KeK (γ δ : St) : Prop := KeJ γ δ ∧ TyA δ ∧ T1 0 δ
theorem kk_node (N : Int) (γ δ : St) (h : PnR N γ δ) (ht : TopI γ) (t : TpW δ) (hi : KeK γ δ) : pq (rdN γ) (f_M_node δ) (fun y z => ∀ r, z.1 = .inr r → y.1 ≠ 0 → KeK y.2 z.2) := by
  intro y z e1 e2 r hr hy
  have kj := kj_node N γ δ h ht t hi.1 y z e1 e2 r hr hy
  have ndq := (v_node hj_ty t).pc z e2
  obtain ⟨no, nq⟩ := ndq
  obtain ⟨t', e18, _⟩ := no.2 r hr
  obtain ⟨fn, ⟨q4, q7, q7'⟩, J⟩ := nq r hr
  have t1 := t1_f_M_node hi.2.2 z e2
  have e18 : z.2 0 18 = δ 0 18 + 1 := e18
  have n0 := t.1.2.1
  have old4 : ∀ g, 0 < δ 0 18 → g ≤ δ 0 18 → z.2 4 g = δ 4 g ∧ z.2 7 g = δ 7 g := fun g w1 w2 => ⟨fn 4 g (by omega) (by omega) (by omega) (by omega) (by omega) (by omega) (by omega) (by omega) (by omega), fn 7 g (by omega) (by omega) (by omega) (by omega) (by omega) (by omega) (by omega) (by omega) (by omega)⟩
  refine ⟨kj, fun f w1 w2 k v1 v2 => ?_, t1⟩
  by_cases q : f < δ 0 18
  · rw [(old4 f (by omega) (by omega)).2] at v1
    rw [(old4 (f + 1) (by omega) (by omega)).2] at v2
    rw [(old4 f (by omega) (by omega)).1]
    exact (hi.2.1 f w1 q k v1 v2).fn t fn w1 q v1 v2
  · have ef : f = δ 0 18 := by omega
    subst ef
    rw [q7] at v1
    rw [q7'] at v2
    rw [q4]
    exact J k v1 v2
theorem kk_pk (γ δ : St) (h : LX δ) (k : KeK γ δ) : KeK γ (pkS δ) := by
  have m := Mv.pk0 h
  have o : ∀ j q, (j ≠ 0 ∨ q < 5 ∨ 9 < q) → pkS δ j q = δ j q := fun j q w => m.2.1 j q (by omega)
  have r : ∀ j : Nat, 1 ≤ j → pkS δ j = δ j := fun j w => funext fun q => o j q (by omega)
  refine ⟨kj_pk γ δ h k.1, fun f w1 w2 k' v1 v2 => ?_, fun e e0 e1 e2 => ?_⟩
  · rw [o 0 18 (by omega)] at w2
    rw [r 7 (by omega)] at v1 v2
    rw [r 4 (by omega)]
    exact (k.2.1 f w1 w2 k' v1 v2).ro (fun j w => r j (by omega))
  · rw [o 0 40 (by omega)] at e1
    rw [r 20 (by omega)] at e2
    rw [r 21 (by omega)]
    exact k.2.2 e e0 e1 e2
theorem pq_rd4 {c : Int} {γ δ : St} (hC : ClsI c γ) (hc : c < 512) (hK : KwI γ) (e10 : γ 0 10 = δ 0 1) (eb : ∀ k, 0 ≤ k → k < δ 0 1 → δ 1 k = γ 13 k) (hm : MoI c δ) (e11 : γ 0 11 = δ 0 55) {Q : Int × St → Int × St → Prop} (bad : ∀ γ' δ', γ' 1 7 ≠ 0 → γ' 0 11 = δ' 0 55 → (γ' 0 10 = 0 ∧ γ' 0 12 = -1 ∧ γ' 0 13 = 0 ∧ γ' 0 14 = 0) → (∀ k, γ' 13 k = γ 13 k) → (δ' 0 49 = -1 ∧ δ' 0 72 = 0 ∧ δ' 0 83 = 0 ∧ δ' 0 2 = 0) → (∀ k, δ' 1 k = δ 1 k) → Q (-1, γ') (-1, enS (setA (setA δ' 0 3 (γ' 1 7)) 0 4 (γ' 1 8)))) (ok : ∀ γ' δ' γ6 γ9 δ3 δ5 δ7, RdK c γ δ γ' δ' γ6 γ9 δ3 δ5 δ7 → γ' 0 11 = δ' 0 55 → γ' 1 7 = 0 ∧ γ' 1 8 = 0 → TyA δ' ∧ T1 0 δ' → pq (rdB γ9) (chk (i32 ((δ7 0 18) - 1)) (ap (setA δ7 0 49 ((δ7 0 18) - 1)) fun γ17 => f_M_read_b292 γ17)) Q) : pq (f_S_read γ) (f_M_read δ) Q := by
  refine pq_read3 (I := KeK) kk_node kk_pk (fun γ δ h1 h2 h3 h4 => ⟨⟨⟨fun f q1 q2 => by exfalso; omega, fun f q1 q2 => by exfalso; omega⟩, h3⟩, fun f q1 q2 => by exfalso; omega, fun e e0 e1 => by exfalso; omega⟩) hC hc hK e10 eb hm (fun γ' δ' q1 q2 q3 q4 => ?_) (fun N γ' δ' q1 q2 q3 q4 q5 q6 q7 => ?_)
  · have ⟨s1, s2, s3, s4, s5⟩ := q2
    have ⟨m1, m2, m3, m4⟩ := q4
    unfold f_S_read_b101
    rw [if_pos q1]
    exact pq_b177 s3 m4 (bad γ' δ' q1 (by rw [s1 0 11 (by omega), m1 55 (by omega)]; exact e11) ⟨s2, s3, s4, s5⟩ (fun k => s1 13 k (by omega)) ⟨m4, m3.2.2.2.1, m3.2.2.2.2, m3.1⟩ (fun k => m2 1 k (by omega)))
  · have ⟨s1, s2, s3, s4, s5⟩ := q3
    have ⟨m1, m2, m3, m4⟩ := q5
    have e : γ' 0 11 = δ' 0 55 := by rw [s1 0 11 (by omega), m1 55 (by omega)]; exact e11
    refine pq_end q1 q2 q4 q6.1.1.1 q6.1.1.2 q7 e (fun γ2 δ2 w1 w2 w3 w4 w5 => ?_) (fun γ6 γ9 δ3 δ5 δ7 w => ok γ' δ' γ6 γ9 δ3 δ5 δ7 ⟨⟨N, q1⟩, q2, q3, q4, q5, w⟩ e ⟨q1.1.1.2, q6.1.2⟩ q6.2)
    refine pq_b177 (by rw [w3 12 (by omega)]; exact s3) (by rw [w5 0 49 (by omega) (by omega)]; exact m4) (bad γ2 δ2 w1 w2 ⟨by rw [w3 10 (by omega)]; exact s2, by rw [w3 12 (by omega)]; exact s3, by rw [w3 13 (by omega)]; exact s4, by rw [w3 14 (by omega)]; exact s5⟩ (fun k => by rw [w4]; exact s1 13 k (by omega)) ⟨by rw [w5 0 49 (by omega) (by omega)]; exact m4, by rw [w5 0 72 (by omega) (by omega)]; exact m3.2.2.2.1, by rw [w5 0 83 (by omega) (by omega)]; exact m3.2.2.2.2, by rw [w5 0 2 (by omega) (by omega)]; exact m3.1⟩ (fun k => by rw [w5 1 k (by omega) (by omega)]; exact m2 1 k (by omega)))
