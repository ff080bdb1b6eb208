/-! equality: the linker against putIn: an equation's parts -/
/-- a node opens -/
def LqE (V : Int) (γe δe : St) (n c : Int) : Prop := 0 < γe 9 8 ∧ (γe 63 (γe 9 8 - 1) = n ∧ γe 64 (γe 9 8 - 1) = δe 0 51 ∧ γe 65 (γe 9 8 - 1) = c ∧ γe 66 (γe 9 8 - 1) = δe 7 n ∧ γe 67 (γe 9 8 - 1) = psN δe n) ∧ (γe 9 11 = δe 0 51 + γe 28 n ∧ γe 8 11 = δe 0 53 ∧ γe 9 12 = V) ∧ ∀ i, 0 ≤ i → i < γe 28 n → LqVr γe n (δe 0 51) c i
/-- the linker and putIn agree on the node n -/
def LqSim (γ0 : St) (m : Int) (E : Nat → St → Int → Int → Int → Option Res) (n : Int) : Prop := ∀ (fu : Nat) (γe δe : St) (i : Int) (σe : Int → Int → Int) (κe : Int → Int) (out call c : Int) (K : Int → St → Option Res) (Q : Int × St → Res → Prop), LkJ γ0 m γe i → TbR γ0 δe → δe 0 18 = m + 1 → PuR δe n → 0 ≤ c → LqE (γ0 32 m) γe δe n c → (∀ (fu' : Nat) (γ' : St) (i' : Int) (δ' : St) (σ' : Int → Int → Int) (κ' : Int → Int), LkJ γ0 m γ' i' → PuK δe n out call (δe 0 50) δ' → LqZ (γ0 32 m) γe δe σe κe n c γ' δ' σ' κ' → pq (f_Lk_link_L63 fu' γ' (γ0 31 m) i') (K (δe 0 50) δ') Q) → pq (f_Lk_link_L63 fu γe (γ0 31 m) i) (bndT (E 0 δe n out call) K) Q
theorem lk_b {γ0 γ : St} {m : Int} (hx : LkX γ0 m) (h : LkI γ0 m γ) : (γ0 32 m < γ 8 5 ∧ γ 9 11 ≤ γ0 32 m ∧ 0 ≤ γ0 32 m) ∧ 0 ≤ γ 8 11 ∧ 0 ≤ γ 9 11 := by
  have ⟨b1, b2, b3, b4, b5, b6, b7⟩ := h.2.2.1
  have nr := sm_nn (f := wF γ0 γ) (a := 0) (b := γ 9 8) (fun k q1 q2 => (h.nn hx k q1 q2).2.2)
  omega
theorem ccK_nn {B c a : Int} (hB : 0 ≤ B) (hc : 0 ≤ c) (ha : -1 ≤ a) : 0 ≤ ccK B c a := by
  unfold ccK
  by_cases q : a = -1
  · rw [if_pos q]; exact hc
  · rw [if_neg q]; omega
theorem lq_eq {γ0 δ : St} {m n k : Int} (hx : LkX γ0 m) (tb : TbR γ0 δ) (h18 : δ 0 18 = m + 1) (n0 : 0 ≤ n ∧ n ≤ m) (k0 : δ 7 n ≤ k) (k1 : k < δ 7 (n + 1)) : EqC γ0 n k ∧ EqD γ0 n k ∧ (γ0 26 n = δ 5 n ∧ γ0 28 n = nvN δ n ∧ γ0 27 n = δ 6 n) := by
  have nt := tb.1 n n0.1 (by omega)
  have nc := (hx.2.1 n n0.1 n0.2).1.2.2.2.1 k (by omega) (by omega)
  exact ⟨nc.1, nc.2, nt.1.2.1, nt.2.1, nt.1.2.2⟩
theorem lq_gk {γ0 γ δ : St} {n p : Int} (tb : TbR γ0 δ) (n0 : 0 ≤ n) (n1 : n < δ 0 18) (eg : ∀ i, γ 38 i = γ0 38 i) (hp : p ≤ peN δ n) {e : Int} (e0 : psN δ n ≤ e) (e1 : e < p) : (∀ ks, Ch (δ 23) (δ 22 e) ks → (∀ z ∈ ks, z < p) ∧ (γ 38 e = 27 → δ 22 e < p)) ∧ (∃ ks, Ch (δ 23) (δ 22 e) ks) ∧ (γ 38 e = 43 → δ 20 e = 3) := by
  obtain ⟨⟨k1, k2⟩, ms, c1, c2, c3⟩ := tb.pt n0 n1 e0 (by omega)
  obtain ⟨ks0, d1, d2, d3, d4, d5, _⟩ := (tb.2.2.2.1 n n0 n1).pt e0 (by omega)
  refine ⟨fun ks h => ⟨fun z hz => ?_, fun q => ?_⟩, ⟨ms, c1⟩, fun q => ?_⟩
  · rw [Ch.uniq h c1] at hz
    have := c2.mem z hz
    omega
  · rw [eg, ] at q
    have k26 : δ 20 e = 26 := by rw [← k1, q]; rfl
    have l1 : ks0.length = 1 := d4.2.2.2.2 (by omega)
    match ks0, d1, d2, l1 with
    | [y], d1, d2, _ =>
      have ey : δ 22 e = y := d1.1
      have := d2.mem y List.mem_cons_self
      omega
  · rw [eg] at q
    rw [← k1, q]; rfl
theorem lq_y {γ0 γ δ : St} {m x0 c0 y : Int} (hx : LkX γ0 m) (tb : TbR γ0 δ) (h18 : δ 0 18 = m + 1) (eg : ∀ j i, 10 ≤ j ∧ j < 54 → γ j i = γ0 j i) (ia : IsA δ x0 c0 y) (hk : ∀ ms, Ch (δ 23) (δ 22 (δ 37 y)) ms → ∀ a ∈ ms, a < δ 37 y) : LqY γ δ y := by
  have ⟨⟨i1, i2, i3, i4, i5⟩, _⟩ := ia
  have nt := tb.1 (δ 35 y) i1.1 i1.2
  have nd := tb.2.2.2.1 (δ 35 y) i1.1 i1.2
  have sz := nd.sz
  have nv : nvN δ (δ 35 y) = δ 4 (δ 35 y + 1) - δ 4 (δ 35 y) := rfl
  refine ⟨?_, hk, fun k q1 q2 => ?_⟩
  · rw [eg 28 _ (by omega), eg 26 _ (by omega), nt.2.1, nt.1.2.1]
    omega
  · have eq := nd.eq q1 q2
    have lc := (lq_eq hx tb h18 ⟨i1.1, by omega⟩ q1 q2).1.2.2.2.2.1
    refine ⟨by omega, fun t w1 w2 => ?_⟩
    rw [eg 46 _ (by omega)] at w2
    rw [eg 47 _ (by omega), eg 45 _ (by omega), eg 28 _ (by omega)]
    exact lc _ (by omega) (by omega)
/-- what stands on the stack behind an equation -/
def LqT (γe δe γ δ : St) (σ : Int → Int → Int) (k : Int) : Prop := γ 9 10 = γe 9 10 + γ 46 k ∧ ∀ t, 0 ≤ t → t < γ 46 k → γ 68 (γe 9 10 + t) = if γ 38 (δe 17 k) = 43 then outV δ (δe 0 50) (δe 17 k) t else σ (δe 0 50) (δe 17 k)
theorem NdS.gl {δ : St} {f k e : Int} (h : NdS δ f) (k1 : δ 7 f ≤ k) (k2 : k < δ 7 (f + 1)) (e1 : δ 19 k ≤ e) (e2 : e ≤ δ 17 k) : δ 19 k ≤ e + 1 - δ 26 e := by
  obtain ⟨t, l0, l, x, _⟩ := h
  have ⟨x1, _, x3, x4, _⟩ := x.1
  obtain ⟨ks, _, _, c3, _⟩ := (x4.1 k k1 k2).1.2.2.2.2.1 e e1 e2
  exact c3
theorem sim_L232 {γ0 γe δe : St} {m n out call c : Int} {σe : Int → Int → Int} {κe : Int → Int} {E : Nat → St → Int → Int → Int → Option Res} {K : Int → St → Option Res} {Q : Int × St → Res → Prop} (hx : LkX γ0 m) (tb : TbR γ0 δe) (h18 : δe 0 18 = m + 1) (n0 : 0 ≤ n ∧ n ≤ m) (hR : PuR δe n) (hE : ∀ g, 0 ≤ g → g < n → LqSim γ0 m E g) (hc : 0 ≤ c) (en : LqE (γ0 32 m) γe δe n c) (he : ∀ j i, 10 ≤ j ∧ j < 54 → γe j i = γ0 j i) {k : Int} (k1 : δe 7 n ≤ k) (k2 : k < δe 7 (n + 1)) (klt : ∀ k', δe 7 n ≤ k' → k' < k → δe 17 k' < δe 19 k) {x363 : St → Int → Int → Int → Option Res} (hxx : ∀ (fu : Nat) (γ : St) (i : Int) (δ : St) (σ : Int → Int → Int) (κ : Int → Int), LkJ γ0 m γ i → LqR (γ0 32 m) γe δe σe κe n c γ δ σ κ k (δe 17 k + 1) → PuM δe n out call (δe 17 k + 1) (δe 17 k + 1 - psN δe n).toNat δ → LqT γe δe γ δ σ k → pq (f_Lk_link_L63 fu γ (γ0 31 m) i) (bndT (x363 δ n (δe 0 50) k) K) Q) : ∀ (F fu : Nat) (γ δ : St) (i : Int) (σ : Int → Int → Int) (κ : Int → Int) (p : Int), LkJ γ0 m γ i → LqR (γ0 32 m) γe δe σe κe n c γ δ σ κ k p → PuM δe n out call p (p - psN δe n).toNat δ → δe 19 k ≤ p → (p ≤ δe 17 k → ∃ ks : List Int, γ 9 10 = γe 9 10 + ks.length ∧ Arr (γ 68) (σ (δe 0 50)) (γe 9 10) ks ∧ Sg (δe 26) (δe 19 k) ks p) → (δe 17 k < p → p = δe 17 k + 1 ∧ LqT γe δe γ δ σ k) → pq (f_Lk_link_L63 fu γ (γ0 31 m) i) (bndT (f_M_putIn_L232 E x363 F δ n (δe 0 50) k p) K) Q := by
  have s := tb.2.2.2.1
  have hn := s n n0.1 (by omega)
  have sz := hn.sz
  have wt := hn.wt
  have eq := hn.eq k1 k2
  have ⟨q0, q1, q2, q3, q4⟩ := hR
  have nn : ∀ i, psN δe n ≤ i → i < psN δe n + ((peN δe n - psN δe n).toNat : Int) → δe 20 i = 3 → 0 ≤ δe 34 (δe 21 i) := fun i q1 q2 q3 => by
    obtain ⟨ks, _, _, _, _, w, _⟩ := hn.pt q1 (by omega)
    have w3 := w.2.2.1 q3
    exact (s _ w3.1 (by omega)).wt.1.1
  have sn0 : 0 ≤ sumC δe (psN δe n) (peN δe n - psN δe n).toNat := sumC_le (m := 0) (by omega) nn
  obtain ⟨ec, ed, en26, en28, en27⟩ := lq_eq hx tb h18 n0 k1 k2
  have te := tb.eq n0.1 (by omega) k1 k2
  have ⟨en0, ⟨en1, en2, en3, en4, en5⟩, ⟨en6, en7, en8⟩, en9⟩ := en
  have nt := tb.1 n n0.1 (by omega)
  intro F
  induction F with
  | zero => intro fu γ δ i σ κ p _ _ _ _ _ _; exact pq_nr
  | succ F ih =>
    intro fu γ δ i σ κ p hJ R pm hp sp st
    have pm0 := pm
    have R0 := R
    have ⟨P, ⟨r1, r2, r3, r4, r5, r6⟩, lf, lst, ⟨c11, c53, c12⟩, ⟨gh, kx⟩, pts, vrs, eqs, sub⟩ := R
    have ⟨p1, p2, p3, p4, p5, p6, p7, ⟨a1, a2, a3, a4, a5, a6⟩, p9, p10, p11, p12⟩ := pm
    have ft := p1.ft
    have eg : ∀ j i, 10 ≤ j ∧ j < 54 → γ j i = γ0 j i := fun j i q => hJ.1.1 j i (by omega)
    unfold f_M_putIn_L232
    simp only [bT_C, bT_I, bT_T, bT_A]
    rw [ft 17 k (by omega) (by omega)]
    refine pq_cr (fun _ => ?_)
    by_cases q : δe 17 k < p
    · rw [if_pos q]
      have e := st q
      rw [e.1] at R0 pm0
      exact hxx fu γ i δ σ κ hJ R0 pm0 e.2
    · rw [if_neg q]
      have h0 : psN δe n ≤ p := by omega
      have hp2 : p < peN δe n := by omega
      obtain ⟨ks, st1, st2, st3⟩ := sp (by omega)
      obtain ⟨⟨kd1, kd2⟩, ms, c1, c2, c3⟩ := tb.pt n0.1 (by omega) h0 hp2
      have gl := hn.gl k1 k2 hp (by omega)
      have lb := lk_b hx hJ.1
      have tb1 := tb.ft ft
      have e18 := ft 0 18 (by omega) (by omega)
      have cp := ec.2.2.2.2.2 p (by omega) (by omega)
      have dp := ed.1 p (by omega) (by omega)
      have gk0 := fun e (w1 : psN δe n ≤ e) (w2 : e < p) => lq_gk (γ := γ) tb n0.1 (by omega) (fun i => eg 38 i (by omega)) (by omega) w1 w2
      have hy : ∀ y, δe 0 50 < y → y < δ 0 50 → LqY γ δ y := fun y w1 w2 => by
        have ia := p10 y w1 w2
        refine lq_y hx tb1 (by omega) eg ia (fun ms' hm a ha => ?_)
        obtain ⟨o1, o2, o3, o4⟩ := ia.2.2.1 w1
        have rg : 0 ≤ δ 35 (δ 36 y) ∧ δ 35 (δ 36 y) < δ 0 18 := by
          by_cases w3 : δ 36 y = δe 0 50
          · rw [w3, a1]; omega
          · exact (p10 (δ 36 y) (by omega) (by omega)).1.1
        obtain ⟨_, ms2, d1, d2, _⟩ := tb1.pt rg.1 rg.2 o2.1 o2.2
        rw [Ch.uniq hm d1] at ha
        exact (d2.mem a ha).2
      have gqq : ∀ k', δe 7 n ≤ k' → k' < k → (psN δe n ≤ δe 17 k' ∧ δe 17 k' < p) ∧ ∀ t, 0 ≤ t → t < γ 46 k' → 0 ≤ γ 47 (γ 45 k' + t) ∧ γ 47 (γ 45 k' + t) < γe 28 n := fun k' w1 w2 => by
        have w3 := klt k' w1 w2
        have w4 := hn.eq w1 (show k' < δe 7 (n + 1) by omega)
        refine ⟨by omega, fun t v1 v2 => ?_⟩
        have lc := (lq_eq hx tb h18 n0 w1 (by omega)).1.2.2.2.2.1
        rw [eg 46 _ (by omega)] at v2
        rw [eg 47 _ (by omega), eg 45 _ (by omega), he 28 _ (by omega)]
        exact lc _ (by omega) (by omega)
      have en' : (p + 1 - psN δe n).toNat = (p - psN δe n).toNat + 1 := by omega
      have el : psN δe n + ((p - psN δe n).toNat : Int) = p := by omega
      have sst : sumC δe (psN δe n) (p + 1 - psN δe n).toNat = sumC δe (psN δe n) (p - psN δe n).toNat + if δe 20 p = 3 then δe 34 (δe 21 p) else 0 := by
        rw [en']
        show _ + (if δe 20 (psN δe n + ((p - psN δe n).toNat : Int)) = 3 then δe 34 (δe 21 (psN δe n + ((p - psN δe n).toNat : Int))) else 0) = _
        rw [el]
      have le := sumC_le (m := (p + 1 - psN δe n).toNat) (k := (peN δe n - psN δe n).toNat) (by omega) nn
      have mw := wt.2 (by omega)
      have ⟨v0, v1, v2, v3, v4⟩ := p2
      have f98 : 0 < γ 9 8 := by omega
      have g1 : γ 66 (γe 9 8 - 1) ≠ γ 29 (γ 63 (γe 9 8 - 1)) + γ 30 (γ 63 (γe 9 8 - 1)) := by rw [r5, r2, eg 29 _ (by omega), eg 30 _ (by omega)]; omega
      have g2 : γ 67 (γe 9 8 - 1) < γ 44 (γ 66 (γe 9 8 - 1)) := by rw [r5, r6, eg 44 _ (by omega)]; omega
      have ck : 0 ≤ ccK (γ 64 (γe 9 8 - 1)) (γ 65 (γe 9 8 - 1)) (γ 41 p) := ccK_nn (by rw [r3]; omega) (by rw [r4]; exact hc) (by rw [eg 41 _ (by omega)]; exact dp.2.1)
      rw [ft 20 p (by omega) (by omega), ft 21 p (by omega) (by omega), a6, ft 25 p (by omega) (by omega)]
      refine pq_cr (fun _ => ?_)
      by_cases c3' : δe 20 p ≠ 3
      · rw [if_pos c3']
        rw [if_neg c3'] at sst
        have n43 : γ 38 p ≠ 43 := fun w => c3' (by rw [eg 38 p (by omega)] at w; rw [← kd1, w]; rfl)
        refine lk_step hx hJ f98 (R := fun γ' => NwS γ γ' (γe 9 8 - 1) (γ 40 p) ∧ TkV γ γ' (γe 9 8 - 1) p (γ 9 10 - γ 40 p)) ?_ (fun n' γ' hN hJ' => ?_)
        · rw [r1]
          refine goOn_tk (P := fun γ' => NwS γ γ' (γe 9 8 - 1) (γ 40 p) ∧ TkV γ γ' (γe 9 8 - 1) p (γ 9 10 - γ 40 p)) g1 g2 (fun γ1 pr => ?_)
          rw [r6]
          exact take_pc r6.symm pr (by rw [eg 38 _ (by omega), eg 40 _ (by omega)]; exact cp.1) n43 ck
        · refine pq_b290 (fun δ' fd f53 => ?_)
          rw [ft 20 p (by omega) (by omega)] at f53
          have k20 : 0 ≤ δe 20 p := by
            obtain ⟨_, _, _, _, _, w, _⟩ := hn.pt h0 hp2
            exact w.1.1
          have sb := stw_b (δe 20 p)
          obtain ⟨σ', ks', R', s1, s2, s3⟩ := lq_val R0 lb.1 lb.2.1 ⟨en6, by omega, by omega⟩ st1 st2 st3 c1 c2 gl (by rw [eg 40 _ (by omega)]; exact c3) (by rw [eg 38 _ (by omega), eg 40 _ (by omega)]; exact cp.1) n43 (fun e w1 w2 => (gk0 e w1 w2).1) (fun k' w1 w2 => ⟨(gqq k' w1 w2).1.2, (gqq k' w1 w2).2⟩) (fun e w1 w2 => (gk0 e w1 w2).2.1) h0 ft fd (by rw [f53, eg 38 p (by omega), clW_st kd1 k20]) a4 hy hN.1 hN.2
          refine ih n' γ' δ' (i + 1) σ' κ (p + 1) hJ' R' ?_ (by omega) (fun w => ⟨ks' ++ [p], s1, s2, s3⟩) (fun w => ⟨by omega, ?_⟩)
          · have c0 : ∀ i, i ≠ 53 → δ' 0 i = δ 0 i := fun i w => fd 0 i (by omega)
            have d0 := c0 50 (by omega)
            have d1 := c0 51 (by omega)
            have d2 := c0 52 (by omega)
            have d4 := c0 54 (by omega)
            exact pm0.mem s (fun j i w1 _ _ _ => fd j i (by omega)) ⟨by omega, by omega, by omega, by omega, by omega⟩ d0 d1 d2 d4 (by omega) rfl h0 (by omega) (fun w => absurd w c3') hn hp2
          · have ep : p = δe 17 k := by omega
            have us := s3.unsnoc
            have e26 := eq.2.2.2.1
            rw [← ep] at e26
            rw [show p + 1 - δe 26 p = δe 19 k by omega] at us
            have nil := Sg.nil_of us.1
            subst nil
            have h46 : γ 46 k = 1 := by
              rw [eg 46 _ (by omega)]
              refine ed.2 (fun w => n43 ?_)
              rw [eg 38 _ (by omega), ep]
              rw [show γ0 44 k - 1 = δe 17 k by omega] at w
              exact w
            have h46' : γ' 46 k = 1 := by rw [hN.1.1 46 k (by omega)]; exact h46
            have h38' : γ' 38 (δe 17 k) ≠ 43 := by rw [hN.1.1 38 _ (by omega), ← ep]; exact n43
            refine ⟨by rw [s1, h46']; simp, fun t w1 w2 => ?_⟩
            rw [if_neg h38', show t = 0 by omega, show γe 9 10 + 0 = γe 9 10 by omega, ← ep]
            exact s2.1
      · rw [if_neg c3']
        have c3 : δe 20 p = 3 := by omega
        rw [if_pos c3] at sst
        obtain ⟨_, _, _, _, _, w, _⟩ := hn.pt h0 hp2
        have w3 := w.2.2.1 c3
        clear w
        have k43 : γ0 38 p = 43 := by
          have := kd_c kd1 (by omega)
          omega
        have h43 : γ 38 p = 43 := by rw [eg 38 p (by omega)]; exact k43
        have h39 : γ 39 p = δe 21 p := by rw [eg 39 p (by omega)]; exact kd2
        have dc := dp.1 k43
        rw [kd2] at dc
        generalize hg : δe 21 p = g at *
        have ntg := tb.1 g w3.1 (by omega)
        have ndg := s g w3.1 (by omega)
        have png := hx.pn (n := g) w3.1 (by omega)
        have ncg := (hx.2.1 g w3.1 (by omega)).1
        have sg := ndg.sz
        have g26 : γ 26 g = γ0 26 g := eg 26 g (by omega)
        have g27 : γ 27 g = γ0 27 g := eg 27 g (by omega)
        have g28 : γ 28 g = γ0 28 g := eg 28 g (by omega)
        have g34 := ft 34 g (by omega) (by omega)
        have wg := ndg.wt.1
        have prr : PuR δ g := by unfold PuR; rw [g34]; omega
        refine lk_step hx hJ f98 (R := fun γ' => ∃ γ1, PrS γ γ1 (γe 9 8 - 1) ∧ CaX γ1 γ' g (ccK (γ 64 (γe 9 8 - 1)) (γ 65 (γe 9 8 - 1)) (γ 41 p)) (γ 42 k) (γ 9 10 - γ 26 g)) ?_ (fun n' γ' hC hJ' => ?_)
        · rw [r1]
          refine goOn_tk (P := fun γ' => ∃ γ1, PrS γ γ1 (γe 9 8 - 1) ∧ CaX γ1 γ' g (ccK (γ 64 (γe 9 8 - 1)) (γ 65 (γe 9 8 - 1)) (γ 41 p)) (γ 42 k) (γ 9 10 - γ 26 g)) g1 g2 (fun γ1 pr => ?_)
          rw [r6]
          have pe : ∀ j i, (j ≠ 67 ∨ i ≠ γe 9 8 - 1) → γ1 j i = γ j i := fun j i q => by rw [pr, if_neg (by omega)]
          unfold f_Lk_take
          rw [pe 38 p (by omega), h43]
          refine pc_c (fun _ => pc_a ?_)
          rw [if_neg (by omega), if_neg (by omega), if_neg (by omega), if_neg (by omega), if_neg (by omega), if_pos rfl]
          have e39 : γ1 39 p = g := by rw [pe 39 p (by omega)]; exact h39
          refine pc_b (call_pc (γ := γ1) (f := γe 9 8 - 1) (p := p) ?_ ?_ ?_ ?_ ?_) (fun r γ3 w => pc_s ⟨γ1, pr, ?_⟩)
          · rw [pe 64 _ (by omega), pe 65 _ (by omega), pe 41 _ (by omega)]; exact ck
          · rw [pe 9 11 (by omega)]; exact lb.2.2
          · intro t t1 t2
            rw [e39, pe 28 _ (by omega), g28] at t2
            rw [e39, pe 25 _ (by omega), pe 34 _ (by omega), eg 25 _ (by omega), eg 34 _ (by omega)]
            have := ncg.2.2.1 t t1 t2
            exact this.1.1
          · rw [e39, pe 27 _ (by omega)]; omega
          · rw [e39, pe 26 _ (by omega), pe 28 _ (by omega)]; omega
          · rw [e39, pe 64 _ (by omega), pe 65 _ (by omega), pe 41 _ (by omega), pe 42 _ (by omega), pe 66 _ (by omega), r5, pe 9 10 (by omega), pe 26 _ (by omega)] at w
            exact w
        · refine pq_cr (fun _ => pq_cr (fun _ => pq_cr (fun _ => pq_cr (fun _ => ?_))))
          obtain ⟨γ1, pr, ca⟩ := hC
          have pe : ∀ j i, (j ≠ 67 ∨ i ≠ γe 9 8 - 1) → γ1 j i = γ j i := fun j i q => by rw [pr, if_neg (by omega)]
          have ⟨⟨z1, z2, z3⟩, ⟨z4, z5, z6, z7, z8⟩, z9, z10, z11⟩ := ca
          have lb' := lk_b hx hJ'.1
          have gl0 : γ' 9 8 - 1 = γ1 9 8 := by omega
          have entry : LqE (γ0 32 m) γ' δ g (ccK (γ 64 (γe 9 8 - 1)) (γ 65 (γe 9 8 - 1)) (γ 41 p)) := by
            unfold LqE
            have e98 := pe 9 8 (by omega)
            have e911 := pe 9 11 (by omega)
            have tg := tb1.eq (n := g) (k := δ 7 g) w3.1 (by omega) (Int.le_refl _) (by rw [ft 7 _ (by omega) (by omega), ft 7 _ (by omega) (by omega)]; omega)
            have e29 : γ1 29 g = δ 7 g := by rw [pe 29 _ (by omega), eg 29 _ (by omega), ntg.2.2.1, ft 7 _ (by omega) (by omega)]
            have ge : ∀ j i, 10 ≤ j ∧ j < 54 → γ' j i = γ0 j i := fun j i q => hJ'.1.1 j i (by omega)
            have e28 : γ' 28 g = γ1 28 g := by rw [ge 28 _ (by omega), pe 28 _ (by omega), g28]
            rw [gl0]
            refine ⟨by omega, ⟨z4, by rw [z5, e911]; exact c11, z6, by rw [z7, e29], ?_⟩, ⟨by rw [z2, e28, e911, c11], ?_, ?_⟩, fun t t1 t2 => ?_⟩
            · rw [z8, e29, pe 43 _ (by omega), eg 43 _ (by omega), tg.2.1]; rfl
            · rw [z10 8 11 (by omega) (by omega) (by omega) (by omega), pe 8 11 (by omega)]; exact c53
            · rw [z10 9 12 (by omega) (by omega) (by omega) (by omega), pe 9 12 (by omega)]; exact c12
            · rw [e28] at t2
              obtain ⟨v1, v2, v3, v4, v5, v6⟩ := z11 t t1 t2
              rw [e911, c11] at v1 v3 v4 v5 v6
              have q26 : γ' 26 g = γ1 26 g := by rw [ge 26 _ (by omega), pe 26 _ (by omega), g26]
              refine ⟨v1, v3, ?_, v5, fun w => ?_⟩
              · rw [v4, ge 34 _ (by omega), ge 25 _ (by omega), pe 34 _ (by omega), pe 25 _ (by omega), eg 34 _ (by omega), eg 25 _ (by omega)]
              · rw [v6, if_neg (by omega), ge 37 _ (by omega), ge 25 _ (by omega), pe 37 _ (by omega), pe 25 _ (by omega), eg 37 _ (by omega), eg 25 _ (by omega)]
          refine hE g w3.1 w3.2 n' γ' δ (i + 1) σ κ (δe 0 50) p _ _ Q hJ' tb1 (by omega) prr ck entry (fun fu' γ2 i2 δ1 σ1 κ1 hJ2 pk z => ?_)
          refine pq_cr (fun _ => pq_ar ?_)
          have cc := pm0.call s hn h0 hp2 c3 hg pk sst rfl
          generalize e2 : setA δ1 41 (δe 0 54 + δe 25 p) (δ 0 50) = δ2 at *
          have ft1 := pk.2.1.ft
          have tb2 := tb1.ft ft1
          have e18' := ft1 0 18 (by omega) (by omega)
          have eg2 : ∀ j i, 10 ≤ j ∧ j < 54 → γ2 j i = γ0 j i := fun j i q => hJ2.1.1 j i (by omega)
          have k8 := pk.2.2.2.2.2.1
          have yc : ∀ (δq : St) (x0 c0 y : Int), TbR γ0 δq → IsA δq x0 c0 y → ∀ e, psN δq (δq 35 y) ≤ e → e < peN δq (δq 35 y) → γ0 38 e = 43 → IsC δq y e ∧ 0 ≤ δq 25 e ∧ δq 40 y + δq 25 e < δq 0 54 := fun δq x0 c0 y t ia e u1 u2 u3 => by
            have ⟨⟨i1, i2, i3, i4, i5⟩, _, _, icc⟩ := ia
            have q3 := (t.pt i1.1 i1.2 u1 u2).1.1
            rw [u3] at q3
            have q3 : δq 20 e = 3 := q3.symm
            have cl := ((t.2.2.2.1 _ i1.1 i1.2).cl u1 u2 q3).1
            exact ⟨icc e u1 u2 q3, by omega, by omega⟩
          have hyy : ∀ y, δ 0 50 ≤ y → y < δ1 0 50 → LqY γ2 δ1 y := fun y w1 w2 => by
            have ia := k8 y w1 w2
            refine lq_y hx tb2 (by omega) eg2 ia (fun ms' hm a ha => ?_)
            by_cases w4 : y = δ 0 50
            · have k6 : δ1 37 (δ 0 50) = p := pk.2.2.2.2.1.2.2.1
              rw [w4, k6] at hm ⊢
              obtain ⟨_, ms2, d1, d2, _⟩ := tb2.pt (n := n) (e := p) n0.1 (by omega) (by rw [ft1.ps, ft.ps]; exact h0) (by rw [ft1.pe, ft.pe]; exact hp2)
              rw [Ch.uniq hm d1] at ha
              exact (d2.mem a ha).2
            · obtain ⟨o1, o2, o3, o4⟩ := ia.2.2.1 (by omega)
              have rg := (k8 (δ1 36 y) (by omega) (by omega)).1.1
              obtain ⟨_, ms2, d1, d2, _⟩ := tb2.pt rg.1 rg.2 o2.1 o2.2
              rw [Ch.uniq hm d1] at ha
              exact (d2.mem a ha).2
          obtain ⟨σ', ks', R', s0, s1, s2, s3, s4, s5⟩ := lq_call (γ' := γ') (δ2 := δ2) (out := out) (call := call) (g := g) (ms := ms) R0 lb.1 lb'.1.2.1 ⟨en6, by omega, by omega⟩ st1 st2 st3 c1 c2 gl (by rw [g26]; omega) h43 ⟨hg, by rw [g26]; exact ntg.1.2.1, by omega, by omega, by omega⟩ (fun e w1 w2 => (gk0 e w1 w2).1) gqq (fun e w1 w2 => (gk0 e w1 w2).2) ⟨k1, k2, hp, by omega⟩ ⟨h0, hp2, c3⟩ hn pm0 pk e2.symm (fun y w1 w2 => ⟨hy y w1 w2, (p10 y w1 w2).1.1, fun e u1 u2 u3 => yc δ _ _ y tb1 (p10 y w1 w2) e u1 u2 (by rw [eg 38 _ (by omega)] at u3; exact u3)⟩) (fun y w1 w2 => ⟨hyy y w1 w2, fun e u1 u2 u3 => (yc δ1 _ _ y tb2 (k8 y w1 w2) e u1 u2 (by rw [eg 38 _ (by omega)] at u3; exact u3)).2.1⟩) pr ca z
          · refine pq_b290 (fun δ3 fd f53 => ?_)
            have d20 : δ2 20 p = 3 := by rw [cc.1.1.ft 20 p (by omega) (by omega)]; exact c3
            rw [d20] at f53
            have e3 : δ3 = δ2 := funext fun j => funext fun i => by
              by_cases w : j ≠ 0 ∨ i ≠ 53
              · exact fd j i w
              · have ej : j = 0 := by omega
                have ei : i = 53 := by omega
                rw [ej, ei, f53]
                show δ2 0 53 + 0 = _
                omega
            subst e3
            refine ih fu' γ2 δ3 i2 σ' κ1 (p + 1) hJ2 R' ?_ (by omega) (fun w => ?_) (fun w => ⟨by omega, ?_⟩)
            · exact cc.1.mem s (fun _ _ _ _ _ _ => rfl) ⟨by omega, by omega, by omega, by omega, by omega⟩ rfl rfl rfl rfl (by omega) rfl h0 (Int.le_refl _) (fun _ => cc.2) hn hp2
            · have o1 : γ 27 g = 1 := by rw [g27, dc.2, if_neg (by omega)]
              refine ⟨ks' ++ [p], by rw [s2, o1, List.length_append]; simp only [List.length_singleton]; omega, Arr.app.2 ⟨s4, ?_, trivial⟩, s5.app ⟨?_, by omega, rfl⟩⟩
              · have := s3 0 (by omega) (by omega)
                rw [show γe 9 10 + (ks'.length : Int) + 0 = γe 9 10 + ks'.length by omega] at this
                rw [this, s0]
              · have := c2.le
                omega
            · have ep : p = δe 17 k := by omega
              have o1 : γ 27 g = γ0 46 k := by rw [g27, dc.2, if_pos (by omega)]
              have e26 := eq.2.2.2.1
              rw [← ep] at e26
              rw [show p + 1 - δe 26 p = δe 19 k by omega] at s5
              have nil := Sg.nil_of s5
              subst nil
              have h46 : γ2 46 k = γ0 46 k := eg2 46 k (by omega)
              have h38 : γ2 38 (δe 17 k) = 43 := by rw [eg2 38 _ (by omega), ← ep]; exact k43
              have s3' := s3
              simp only [List.length_nil] at s2 s3'
              refine ⟨by rw [s2, o1, h46]; omega, fun t t1 t2 => ?_⟩
              rw [if_pos h38, ← ep]
              have := s3' t t1 (by omega)
              rw [show γe 9 10 + ((0 : Nat) : Int) + t = γe 9 10 + t by omega] at this
              exact this
