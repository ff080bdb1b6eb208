/-! equality: the linker against putIn: a node -/
theorem NdS.lb {δ : St} {f k i : Int} (h : NdS δ f) (k1 : δ 7 f ≤ k) (k2 : k < δ 7 (f + 1)) (i1 : δ 16 k ≤ i) (i2 : i < δ 16 (k + 1)) : δ 5 f ≤ δ 18 i ∧ δ 18 i < nvN δ f := by
  obtain ⟨t, l0, l, x, _⟩ := h
  have ⟨x1, _, x3, x4, _⟩ := x.1
  exact (x4.1 k k1 k2).1.2.2.1 i i1 i2
theorem sim_L210 {γ0 γe δe : St} {m n out call c : Int} {σe : Int → Int → Int} {κe : Int → Int} {E : Nat → St → Int → Int → Int → Option Res} {K : Int → St → Option Res} {Q : Int × St → Res → Prop} (hx : LkX γ0 m) (tb : TbR γ0 δe) (h18 : δe 0 18 = m + 1) (n0 : 0 ≤ n ∧ n ≤ m) (hR : PuR δe n) (hE : ∀ g, 0 ≤ g → g < n → LqSim γ0 m E g) (hc : 0 ≤ c) (en : LqE (γ0 32 m) γe δe n c) (he : ∀ j i, 10 ≤ j ∧ j < 54 → γe j i = γ0 j i) (fin : ∀ (fu' : Nat) (γ' : St) (i' : Int) (δ' : St) (σ' : Int → Int → Int) (κ' : Int → Int), LkJ γ0 m γ' i' → PuK δe n out call (δe 0 50) δ' → LqZ (γ0 32 m) γe δe σe κe n c γ' δ' σ' κ' → pq (f_Lk_link_L63 fu' γ' (γ0 31 m) i') (K (δe 0 50) δ') Q) : ∀ (F fu : Nat) (γ δ : St) (i : Int) (σ : Int → Int → Int) (κ : Int → Int) (k p : Int), LkJ γ0 m γ i → LqR (γ0 32 m) γe δe σe κe n c γ δ σ κ k p → PuM δe n out call p (p - psN δe n).toNat δ → γ 9 10 = γe 9 10 → δe 7 n ≤ k → k ≤ δe 7 (n + 1) → (k < δe 7 (n + 1) → δe 19 k = p) → (k = δe 7 (n + 1) → p = peN δe n) → (k < δe 7 (n + 1) → ∀ k', δe 7 n ≤ k' → k' < k → δe 17 k' < δe 19 k) → pq (f_Lk_link_L63 fu γ (γ0 31 m) i) (bndT (f_M_putIn_L210 E F δ n (δe 0 50) k) K) Q := by
  have s := tb.2.2.2.1
  have hn := s n n0.1 (by omega)
  have sz := hn.sz
  have ⟨q0, q1, q2, q3, q4⟩ := hR
  have ⟨en0, ⟨en1, en2, en3, en4, en5⟩, ⟨en6, en7, en8⟩, en9⟩ := en
  have nt := tb.1 n n0.1 (by omega)
  intro F
  induction F with
  | zero => intro fu γ δ i σ κ k p _ _ _ _ _ _ _ _ _; exact pq_nr
  | succ F ih =>
    intro fu γ δ i σ κ k p hJ R pm h10 k1 k2 e1 e2 klt
    have R0 := R
    have ⟨P, ⟨r1, r2, r3, r4, r5, r6⟩, lf, lst, ⟨c11, c53, c12⟩, ⟨gh, kx⟩, pts, vrs, eqs, sub⟩ := R
    have ⟨p1, p2, p3, p4, p5, p6, p7, ⟨a1, a2, a3, a4, a5, a6⟩, p9, p10, p11, p12⟩ := pm
    have ft := p1.ft
    have eg : ∀ j i, 10 ≤ j ∧ j < 54 → γ j i = γ0 j i := fun j i q => hJ.1.1 j i (by omega)
    have lb := lk_b hx hJ.1
    have tb1 := tb.ft ft
    have e18 := ft 0 18 (by omega) (by omega)
    have f98 : 0 < γ 9 8 := by omega
    have hy : ∀ (δ : St), PuM δe n out call p (p - psN δe n).toNat δ ∨ True → ∀ (γ : St), (∀ j i, 10 ≤ j ∧ j < 54 → γ j i = γ0 j i) → TbR γ0 δ → δ 0 18 = m + 1 → δ 35 (δe 0 50) = n → (∀ y, δe 0 50 < y → y < δ 0 50 → IsA δ (δe 0 50) (δe 0 54 + δe 8 n) y) → ∀ y, δe 0 50 < y → y < δ 0 50 → LqY γ δ y := fun δ _ γ eg tb1 e18 a1 p10 y w1 w2 => by
      have ia := p10 y w1 w2
      refine lq_y hx tb1 e18 eg ia (fun ms' hm a ha => ?_)
      obtain ⟨o1, o2, o3, o4⟩ := ia.2.2.1 w1
      have rg : 0 ≤ δ 35 (δ 36 y) ∧ δ 35 (δ 36 y) < δ 0 18 := by
        by_cases w3 : δ 36 y = δe 0 50
        · rw [w3, a1]; omega
        · exact (p10 (δ 36 y) (by omega) (by omega)).1.1
      obtain ⟨_, ms2, d1, d2, _⟩ := tb1.pt rg.1 rg.2 o2.1 o2.2
      rw [Ch.uniq hm d1] at ha
      exact (d2.mem a ha).2
    unfold f_M_putIn_L210
    simp only [bT_C, bT_I, bT_A]
    rw [ft 7 _ (by omega) (by omega)]
    refine pq_cr (fun _ => pq_cr (fun _ => ?_))
    by_cases q : δe 7 (n + 1) ≤ k
    · rw [if_pos q, bT_r]
      have ek : k = δe 7 (n + 1) := by omega
      have ep := e2 ek
      have pk : PuK δe n out call (δe 0 50) δ := by
        rw [ep] at pm
        exact pm.done s hn ⟨n0.1, by omega⟩ hR
      refine lk_step hx hJ f98 (R := fun γ' => γ' = setA γ 9 8 (γ 9 8 - 1)) ?_ (fun n' γ' hN hJ' => ?_)
      · rw [r1]
        have := goOn_cl (γ := γ) (f := γe 9 8 - 1) (by rw [r5, r2, eg 29 _ (by omega), eg 30 _ (by omega)]; omega)
        rw [r1] at this
        exact this
      · have o : ∀ j i, (j ≠ 9 ∨ i ≠ 8) → γ' j i = γ j i := fun j i w => by rw [hN, stA, if_neg (by omega)]
        have o8 : γ' 9 8 = γ 9 8 - 1 := by rw [hN, stA, if_pos ⟨rfl, rfl⟩]
        have P' : LqPr (γ0 32 m) 0 0 γ γ' := ⟨fun j i w => o j i (by omega), fun j s w1 w2 _ _ => o j s (by omega), fun j i w1 _ => o j i (by omega), by rw [o 9 11 (by omega)]; omega, by rw [o 8 5 (by omega)]; omega, by rw [o 8 11 (by omega)]; omega, o 9 12 (by omega)⟩
        have yy := hy δ (Or.inr trivial) γ eg tb1 (by omega) a1 p10
        refine fin n' γ' (i + 1) δ σ κ hJ' pk ⟨P.tr P' (fun s _ _ => by omega), by omega, fun j g w1 w2 w3 => by rw [o j g (by omega)]; exact lf j g w1 w2 w3, ⟨by rw [o 9 10 (by omega)]; exact h10, fun i w => by rw [o 68 i (by omega)]; exact lst i w⟩, ⟨by rw [o 9 11 (by omega)]; exact c11, by rw [o 8 11 (by omega)]; exact c53, by rw [o 9 12 (by omega)]; exact c12⟩, ⟨gh, kx⟩, fun y w1 w2 => ?_⟩
        by_cases w3 : y = δe 0 50
        · subst w3
          refine ⟨?_, fun w => by omega⟩
          unfold LqIn
          rw [a1, a4, ft.ps, ft.pe, kx, ft 7 _ (by omega) (by omega), ft 7 _ (by omega) (by omega), o 28 _ (by omega), eg 28 _ (by omega)]
          rw [he 28 _ (by omega)] at vrs
          refine ⟨fun e v1 v2 => (pts e v1 (by omega)).up P' lb.1.2.2 rfl rfl rfl (fun _ => rfl) rfl (fun _ _ _ _ => rfl) (fun _ => rfl), fun t v1 v2 => (vrs t v1 v2).up P' ?_, fun k' v1 v2 => ?_⟩
          · have := P.2.2.2.1
            rw [he 28 _ (by omega)] at en6
            omega
          · have lc := (lq_eq hx tb h18 n0 v1 v2).1.2.2.2.2.1
            refine (eqs k' v1 (by omega)).up P' (fun t u1 u2 => ?_) rfl rfl (fun _ _ => rfl) rfl
            rw [eg 46 _ (by omega)] at u2
            rw [eg 47 _ (by omega), eg 45 _ (by omega), a4]
            have := lc (γ0 45 k' + t) (by omega) (by omega)
            have := P.2.2.2.1
            rw [he 28 _ (by omega)] at en6
            omega
        · obtain ⟨u1, u2, u3, u4⟩ := sub y (by omega) w2
          obtain ⟨y1, y2, y3⟩ := yy y (by omega) w2
          exact ⟨u1.up P' lb.1.2.2 (fun _ _ _ _ => rfl) rfl rfl (fun _ _ _ _ _ => rfl) rfl rfl (by omega) y3, fun _ => ⟨u2.up P' (fun _ _ _ _ => rfl) (fun _ _ _ => rfl) rfl rfl ⟨rfl, rfl⟩ (fun _ _ _ _ => rfl) (by omega), u4⟩⟩
    · rw [if_neg q]
      have k3 : k < δe 7 (n + 1) := by omega
      have eq := hn.eq k1 k3
      have et := e1 k3
      rw [ft 19 _ (by omega) (by omega)]
      refine pq_cr (fun _ => pq_ar ?_)
      rw [et]
      refine sim_L232 hx tb h18 n0 hR hE hc en he k1 k3 (klt k3) (fun fu γ2 i2 δ2 σ2 κ2 hJ2 R2 pm2 T2 => ?_) FU fu γ δ i σ κ p hJ R0 pm (by omega) (fun w => ⟨[], by simp; exact h10, trivial, by show δe 19 k = p; exact et⟩) (fun w => by omega)
      have ⟨P2, ⟨s1, s2, s3, s4, s5, s6⟩, lf2, lst2, ⟨d11, d53, d12⟩, _⟩ := R2
      have ⟨t1, t2, t3, t4, t5, t6, t7, ⟨b1, b2, b3, b4, b5, b6⟩, t9, t10, t11, t12⟩ := pm2
      have ft2 := t1.ft
      have tb2 := tb.ft ft2
      have eg2 : ∀ j i, 10 ≤ j ∧ j < 54 → γ2 j i = γ0 j i := fun j i q => hJ2.1.1 j i (by omega)
      have lb2 := lk_b hx hJ2.1
      have e18' := ft2 0 18 (by omega) (by omega)
      obtain ⟨w42, w43, w44, w45, w46, w47⟩ := tb.eq n0.1 (show n < δe 0 18 by omega) k1 k3
      have h47 : ∀ k', δe 7 n ≤ k' → k' < δe 7 (n + 1) → ∀ t, 0 ≤ t → t < γ2 46 k' → γ2 47 (γ2 45 k' + t) = δe 18 (δe 16 k' + t) ∧ δe 16 k' + t < δe 16 (k' + 1) := fun k' v1 v2 t u1 u2 => by
        obtain ⟨_, _, _, x45, x46, x47⟩ := tb.eq n0.1 (show n < δe 0 18 by omega) v1 v2
        rw [eg2 46 _ (by omega)] at u2
        rw [eg2 47 _ (by omega), eg2 45 _ (by omega)]
        exact ⟨x47 t u1 u2, by omega⟩
      unfold f_M_putIn_b363
      simp only [bT_C]
      refine lk_step hx hJ2 (by omega) (R := fun γ' => DfX γ2 γ' (γe 9 8 - 1) k) ?_ (fun n' γ' hN hJ' => pq_cr (fun _ => ?_))
      · rw [s1]
        refine goOn_df s5 (by rw [s2, eg2 29 _ (by omega), eg2 30 _ (by omega)]; omega) (by rw [s6, eg2 44 _ (by omega)]; omega) (fun t t' u1 u2 u3 => ?_)
        have x1 := h47 k k1 k3 t u1 (by omega)
        have x2 := h47 k k1 k3 t' (by omega) u3
        rw [x1.1, x2.1]
        intro x3
        have := (hn.lf k1 k3 k1 k3 (by omega) x1.2 (by omega) x2.2 x3).1
        omega
      · obtain ⟨R3, h3⟩ := lq_def R2 lb2.1 ⟨en6, by omega, by omega⟩ hN T2.1 T2.2 (fun t u1 u2 => by
          have x1 := h47 k k1 k3 t u1 u2
          have x2 := hn.lb k1 k3 (by omega) x1.2
          rw [x1.1, he 26 _ (by omega), he 28 _ (by omega), nt.1.2.1, nt.2.1]
          exact x2) (fun k' v1 v2 t' t u1 u2 u3 u4 => by
          have x1 := h47 k' v1 (by omega) t' u1 u2
          have x2 := h47 k k1 k3 t u3 u4
          rw [x1.1, x2.1]
          intro x3
          have := (hn.lf v1 (by omega) k1 k3 (by omega) x1.2 (by omega) x2.2 x3).2
          omega) k1 ft2 b4 (hy δ2 (Or.inr trivial) γ2 eg2 tb2 (by omega) b1 t10)
        refine ih n' γ' δ2 (i2 + 1) σ2 κ2 (k + 1) (δe 17 k + 1) hJ' R3 pm2 h3 (by omega) (by omega) (fun w => eq.2.2.2.2.2.2.1 w) (fun w => eq.2.2.2.2.2.2.2 w) (fun w k' v1 v2 => ?_)
        rw [eq.2.2.2.2.2.2.1 w]
        by_cases v3 : k' = k
        · rw [v3]; omega
        · have := klt k3 k' v1 (by omega)
          omega
theorem pq_L147 {α : Type} {o : Option α} {K : Int → St → Option Res} {Q : α → Res → Prop} {γ0 : St} {n out call : Int} {E : Nat → St → Int → Int → Int → Option Res} {x202 : St → Int → Int → Option Res} (hx : ∀ γ, PuV γ0 n out call (nvN γ0 n) γ → pq o (bndT (x202 γ n (γ0 0 50)) K) Q) : ∀ (f : Nat) (γ : St) (i : Int), PuV γ0 n out call i γ → 0 ≤ i → i ≤ nvN γ0 n → pq o (bndT (f_M_putIn_L147 E x202 f γ n (γ0 0 50) (γ0 4 n + i)) K) Q := by
  have nv : nvN γ0 n = γ0 4 (n + 1) - γ0 4 n := rfl
  intro f
  induction f with
  | zero => intro γ i h1 h2 h3; exact pq_nr
  | succ f ih =>
    intro γ i h1 h2 h3
    have ⟨p1, ⟨c0, c1, c2, c3, c4⟩, p3, p4⟩ := h1
    have ft := p1.ft
    unfold f_M_putIn_L147
    simp only [bT_C, bT_I, bT_A]
    rw [ft 4 _ (by omega) (by omega)]
    refine pq_cr (fun _ => pq_cr (fun _ => pq_ir (fun q => ?_) (fun q => ?_)))
    · rw [show i = nvN γ0 n by omega] at h1
      exact hx γ h1
    · rw [c1]
      refine pq_cr (fun _ => pq_ar ?_)
      rw [show setA γ 42 (γ0 0 51 + i) (γ0 0 50) 0 51 = γ0 0 51 + i by rw [stA, if_neg (by omega)]; exact c1]
      refine pq_cr (fun _ => pq_ar ?_)
      rw [show setA (setA γ 42 (γ0 0 51 + i) (γ0 0 50)) 0 51 (γ0 0 51 + i + 1) 4 n = γ0 4 n by rw [stA, if_neg (by omega), stA, if_neg (by omega)]; exact ft 4 n (by omega) (by omega)]
      refine pq_cr (fun _ => pq_cr (fun _ => pq_cr (fun _ => pq_ar ?_)))
      rw [show γ0 4 n + i - γ0 4 n = i by omega, show γ0 4 n + i + 1 = γ0 4 n + (i + 1) by omega]
      generalize hg : setA (setA (setA γ 42 (γ0 0 51 + i) (γ0 0 50)) 0 51 (γ0 0 51 + i + 1)) 43 (γ0 0 51 + i) i = γ1
      have s : ∀ j k, γ1 j k = if j = 43 ∧ k = γ0 0 51 + i then i else if j = 0 ∧ k = 51 then γ0 0 51 + i + 1 else if j = 42 ∧ k = γ0 0 51 + i then γ0 0 50 else γ j k := fun j k => by rw [← hg, stA, stA, stA]
      have s0 : ∀ j k, (j = 42 ∨ j = 43 → k ≠ γ0 0 51 + i) → (j = 0 → k ≠ 51) → γ1 j k = γ j k := fun j k q1 q2 => by rw [s, if_neg (by omega), if_neg (by omega), if_neg (by omega)]
      refine pq_cr (fun _ => ih γ1 (i + 1) ⟨fun j k q1 q2 q3 q4 => by rw [s0 j k (by omega) (by omega)]; exact p1 j k q1 q2 q3 q4, ?_, ?_, fun t q1 q2 => ?_⟩ (by omega) (by omega))
      · rw [s0 0 50 (by omega) (by omega), s0 0 52 (by omega) (by omega), s0 0 53 (by omega) (by omega), s0 0 54 (by omega) (by omega), s, if_neg (by omega), if_pos ⟨rfl, rfl⟩]
        exact ⟨c0, by omega, c2, c3, c4⟩
      · rw [s0 35 _ (by omega) (by omega), s0 36 _ (by omega) (by omega), s0 37 _ (by omega) (by omega), s0 38 _ (by omega) (by omega), s0 39 _ (by omega) (by omega), s0 40 _ (by omega) (by omega)]
        exact p3
      · by_cases q3 : t = i
        · rw [q3, s, if_neg (by omega), if_neg (by omega), if_pos ⟨rfl, rfl⟩, s, if_pos ⟨rfl, rfl⟩]
          exact ⟨rfl, rfl⟩
        · rw [s0 42 _ (by omega) (by omega), s0 43 _ (by omega) (by omega)]
          exact p4 t q1 (by omega)
/-- putIn begins; or there are too many variables -/
theorem pq_putIn {α : Type} {o : Option α} {K : Int → St → Option Res} {Q : α → Res → Prop} {γ : St} {n out call : Int} {E : Nat → St → Int → Int → Int → Option Res} (nv0 : 0 ≤ nvN γ n) (a51 : 0 ≤ γ 0 51) (big : 6000 < γ 0 51 + nvN γ n → ∀ γ', FT γ γ' → pq o (some ((.inl (3, γ 0 1), γ') : Res)) Q) (hx : γ 0 51 + nvN γ n ≤ 6000 → ∀ γ', PuV γ n out call (nvN γ n) γ' → pq o (bndT (f_M_putIn_b202 E γ' n (γ 0 50)) K) Q) : pq o (bndT (f_M_putIn E γ n out call) K) Q := by
  have nv : nvN γ n = γ 4 (n + 1) - γ 4 n := rfl
  unfold f_M_putIn
  simp only [bT_C, bT_I, bT_A]
  refine pq_cr (fun _ => pq_ar (pq_ar (pq_cr (fun _ => pq_ar (pq_cr (fun _ => pq_ar (pq_cr (fun _ => pq_ar ?_))))))))
  generalize e4 : setA (setA (setA (setA γ 0 50 (γ 0 50 + 1)) 35 (γ 0 50) n) 36 (γ 0 50) out) 37 (γ 0 50) call = g4
  have s4 : ∀ j k, g4 j k = if j = 37 ∧ k = γ 0 50 then call else if j = 36 ∧ k = γ 0 50 then out else if j = 35 ∧ k = γ 0 50 then n else if j = 0 ∧ k = 50 then γ 0 50 + 1 else γ j k := fun j k => by rw [← e4, stA, stA, stA, stA]
  have a4 : ∀ k, k ≠ 50 → g4 0 k = γ 0 k := fun k q => by rw [s4, if_neg (by omega), if_neg (by omega), if_neg (by omega), if_neg (by omega)]
  rw [a4 51 (by omega)]
  refine pq_cr (fun _ => pq_ar ?_)
  generalize e5 : setA g4 38 (γ 0 50) (γ 0 51) = g5
  have a5 : ∀ k, k ≠ 50 → g5 0 k = γ 0 k := fun k q => by rw [← e5, stA, if_neg (by omega)]; exact a4 k q
  rw [a5 52 (by omega)]
  refine pq_cr (fun _ => pq_ar ?_)
  generalize e6 : setA g5 39 (γ 0 50) (γ 0 52) = g6
  have a6 : ∀ k, k ≠ 50 → g6 0 k = γ 0 k := fun k q => by rw [← e6, stA, if_neg (by omega)]; exact a5 k q
  rw [a6 54 (by omega)]
  refine pq_cr (fun _ => pq_ar ?_)
  generalize e7 : setA g6 40 (γ 0 50) (γ 0 54) = g7
  have s7 : ∀ j k, g7 j k = if j = 40 ∧ k = γ 0 50 then γ 0 54 else if j = 39 ∧ k = γ 0 50 then γ 0 52 else if j = 38 ∧ k = γ 0 50 then γ 0 51 else if j = 37 ∧ k = γ 0 50 then call else if j = 36 ∧ k = γ 0 50 then out else if j = 35 ∧ k = γ 0 50 then n else if j = 0 ∧ k = 50 then γ 0 50 + 1 else γ j k := fun j k => by rw [← e7, stA, ← e6, stA, ← e5, stA, s4]
  have t7 : ∀ j k, (j < 35 ∨ 40 < j) → (j = 0 → k ≠ 50) → g7 j k = γ j k := fun j k q1 q2 => by rw [s7]; (repeat rw [if_neg (by omega)])
  rw [t7 0 52 (by omega) (by omega), t7 9 n (by omega) (by omega)]
  refine pq_cr (fun _ => pq_cr (fun _ => pq_ar ?_))
  generalize e8 : setA g7 0 52 (γ 0 52 + γ 9 n) = g8
  have t8 : ∀ j k, (j = 0 → k ≠ 52) → g8 j k = g7 j k := fun j k q => by rw [← e8, stA, if_neg (by omega)]
  rw [t8 0 54 (by omega), t7 0 54 (by omega) (by omega), t8 8 n (by omega), t7 8 n (by omega) (by omega)]
  refine pq_cr (fun _ => pq_cr (fun _ => pq_ar ?_))
  generalize e9 : setA g8 0 54 (γ 0 54 + γ 8 n) = g9
  have t9 : ∀ j k, (j = 0 → k ≠ 52 ∧ k ≠ 54) → g9 j k = g7 j k := fun j k q => by rw [← e9, stA, if_neg (by omega)]; exact t8 j k (by omega)
  have u9 : ∀ j k, (j < 35 ∨ 40 < j) → (j = 0 → k ≠ 50 ∧ k ≠ 52 ∧ k ≠ 54) → g9 j k = γ j k := fun j k q1 q2 => by rw [t9 j k (by omega)]; exact t7 j k q1 (by omega)
  rw [u9 0 51 (by omega) (by omega), u9 4 _ (by omega) (by omega), u9 4 _ (by omega) (by omega), u9 0 1 (by omega) (by omega)]
  have fp : FP γ g9 := fun j k q1 q2 q3 q4 => by
    rw [t9 j k (by omega), s7]
    (repeat rw [if_neg (by omega)])
  refine pq_cr (fun _ => pq_cr (fun _ => pq_cr (fun _ => pq_cr (fun _ => pq_cr (fun _ => pq_ir (fun q => ?_) (fun q => big (by omega) g9 fp.ft))))))
  refine pq_cr (fun _ => pq_ar ?_)
  have pv : PuV γ n out call 0 g9 := by
    refine ⟨fp, ⟨?_, ?_, ?_, ?_, ?_⟩, ⟨?_, ?_, ?_, ?_, ?_, ?_⟩, fun t q1 q2 => by omega⟩
    · rw [t9 0 50 (by omega), s7]; (repeat rw [if_neg (by omega)]); rw [if_pos ⟨rfl, rfl⟩]
    · rw [u9 0 51 (by omega) (by omega)]; omega
    · rw [← e9, stA, if_neg (by omega), ← e8, stA, if_pos ⟨rfl, rfl⟩]
    · exact u9 0 53 (by omega) (by omega)
    · rw [← e9, stA, if_pos ⟨rfl, rfl⟩]
    · rw [t9 35 _ (by omega), s7, if_neg (by omega), if_neg (by omega), if_neg (by omega), if_neg (by omega), if_neg (by omega), if_pos ⟨rfl, rfl⟩]
    · rw [t9 36 _ (by omega), s7, if_neg (by omega), if_neg (by omega), if_neg (by omega), if_neg (by omega), if_pos ⟨rfl, rfl⟩]
    · rw [t9 37 _ (by omega), s7, if_neg (by omega), if_neg (by omega), if_neg (by omega), if_pos ⟨rfl, rfl⟩]
    · rw [t9 38 _ (by omega), s7, if_neg (by omega), if_neg (by omega), if_pos ⟨rfl, rfl⟩]
    · rw [t9 39 _ (by omega), s7, if_neg (by omega), if_pos ⟨rfl, rfl⟩]
    · rw [t9 40 _ (by omega), s7, if_pos ⟨rfl, rfl⟩]
  have w := pq_L147 (E := E) (x202 := f_M_putIn_b202 E) (hx (by omega)) FU g9 0 pv (by omega) nv0
  rw [show γ 4 n + 0 = γ 4 n by omega] at w
  exact w
