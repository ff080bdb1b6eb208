/-! equality: the linker takes a call, and defines -/
/-- an instance is put in, all of it -/
def LqZ (V : Int) (γe δe : St) (σe : Int → Int → Int) (κe : Int → Int) (n c : Int) (γ δ : St) (σ : Int → Int → Int) (κ : Int → Int) : Prop := LqPr V (δe 0 51 + γe 26 n) (δe 0 51 + γe 28 n) γe γ ∧ γ 9 8 = γe 9 8 - 1 ∧ (∀ j g, 63 ≤ j → j ≤ 67 → g < γe 9 8 - 1 → γ j g = γe j g) ∧ (γ 9 10 = γe 9 10 ∧ ∀ i, i < γe 9 10 → γ 68 i = γe 68 i) ∧ (γ 9 11 = δ 0 51 ∧ γ 8 11 = δ 0 53 ∧ γ 9 12 = V) ∧ ((∀ y, y < δe 0 50 → σ y = σe y ∧ κ y = κe y) ∧ κ (δe 0 50) = c) ∧ ∀ y, δe 0 50 ≤ y → y < δ 0 50 → LqIn V γ δ σ κ y ∧ (δe 0 50 < y → LqIp γ δ σ κ y ∧ δe 0 51 + γe 28 n ≤ δ 38 y)
/-- the outputs of a call stay, where another call is filled in -/
theorem outV_41 {δ δ' : St} {y e i0 r : Int} (f : ∀ j i, (j = 41 → i ≠ i0) → δ' j i = δ j i) (hi : δ 40 y + δ 25 e ≠ i0) (t : Int) : outV δ' y e t = outV δ y e t := by
  unfold outV
  rw [f 40 y (by omega), f 25 e (by omega), f 41 _ (fun _ => hi), f 38 _ (by omega), f 21 e (by omega), f 5 _ (by omega)]
theorem lq_call {V : Int} {γe δe γ δ γ1 γ' γ2 δ1 δ2 : St} {σe σ σ1 : Int → Int → Int} {κe κ κ1 : Int → Int} {n out call c k p g : Int} {m : Nat} {ks ms : List Int} (R : LqR V γe δe σe κe n c γ δ σ κ k p) (hV : V < γ 8 5 ∧ γ 9 11 ≤ V ∧ 0 ≤ V) (hV' : γ' 9 11 ≤ V) (hE : γe 9 11 = δe 0 51 + γe 28 n ∧ 0 ≤ δe 0 51 ∧ 0 ≤ δe 0 50) (st : γ 9 10 = γe 9 10 + ks.length) (ar : Arr (γ 68) (σ (δe 0 50)) (γe 9 10) ks) (sg : Sg (δe 26) (δe 19 k) ks p) (c1 : Ch (δe 23) (δe 22 p) ms) (c2 : Sg (δe 26) (p + 1 - δe 26 p) ms p) (c3 : δe 19 k ≤ p + 1 - δe 26 p) (c4 : (ms.length : Int) = γ 26 g) (h43 : γ 38 p = 43) (hg : δe 21 p = g ∧ γ 26 g = δe 5 g ∧ 0 ≤ γ 27 g ∧ 0 ≤ γ 26 g ∧ γ 26 g ≤ γ 28 g) (gk : ∀ e, psN δe n ≤ e → e < p → ∀ ks, Ch (δe 23) (δe 22 e) ks → (∀ z ∈ ks, z < p) ∧ (γ 38 e = 27 → δe 22 e < p)) (gq : ∀ k', δe 7 n ≤ k' → k' < k → (psN δe n ≤ δe 17 k' ∧ δe 17 k' < p) ∧ ∀ t, 0 ≤ t → t < γ 46 k' → 0 ≤ γ 47 (γ 45 k' + t) ∧ γ 47 (γ 45 k' + t) < γe 28 n) (gc : ∀ e, psN δe n ≤ e → e < p → (∃ ks, Ch (δe 23) (δe 22 e) ks) ∧ (γ 38 e = 43 → δe 20 e = 3)) (hk : δe 7 n ≤ k ∧ k < δe 7 (n + 1) ∧ δe 19 k ≤ p ∧ p ≤ δe 17 k) (hp : psN δe n ≤ p ∧ p < peN δe n ∧ δe 20 p = 3) (nd : NdS δe n) (pm : PuM δe n out call p m δ) (pk : PuK δ g (δe 0 50) p (δ 0 50) δ1) (e2 : δ2 = setA δ1 41 (δe 0 54 + δe 25 p) (δ 0 50)) (hy : ∀ y, δe 0 50 < y → y < δ 0 50 → LqY γ δ y ∧ (0 ≤ δ 35 y ∧ δ 35 y < δ 0 18) ∧ ∀ e, psN δ (δ 35 y) ≤ e → e < peN δ (δ 35 y) → γ 38 e = 43 → IsC δ y e ∧ 0 ≤ δ 25 e ∧ δ 40 y + δ 25 e < δ 0 54) (hy1 : ∀ y, δ 0 50 ≤ y → y < δ1 0 50 → LqY γ2 δ1 y ∧ ∀ e, psN δ1 (δ1 35 y) ≤ e → e < peN δ1 (δ1 35 y) → γ 38 e = 43 → 0 ≤ δ1 25 e) (pr : PrS γ γ1 (γe 9 8 - 1)) (ca : CaX γ1 γ' g (ccK (γ 64 (γe 9 8 - 1)) (γ 65 (γe 9 8 - 1)) (γ 41 p)) (γ 42 k) (γ 9 10 - γ 26 g)) (z : LqZ V γ' δ σ κ g (ccK (γ 64 (γe 9 8 - 1)) (γ 65 (γe 9 8 - 1)) (γ 41 p)) γ2 δ1 σ1 κ1) : ∃ σ' ks', LqR V γe δe σe κe n c γ2 δ2 σ' κ1 k (p + 1) ∧ σ' (δe 0 50) p = outV δ2 (δe 0 50) p 0 ∧ ks = ks' ++ ms ∧ γ2 9 10 = γe 9 10 + ks'.length + γ 27 g ∧ (∀ t, 0 ≤ t → t < γ 27 g → γ2 68 (γe 9 10 + ks'.length + t) = outV δ2 (δe 0 50) p t) ∧ Arr (γ2 68) (σ' (δe 0 50)) (γe 9 10) ks' ∧ Sg (δe 26) (δe 19 k) ks' (p + 1 - δe 26 p) := by
  obtain ⟨P, ⟨r1, r2, r3, r4, r5, r6⟩, lf, lst, ⟨c11, c53, c12⟩, ⟨gh, kx⟩, pts, vrs, eqs, sub⟩ := R
  obtain ⟨⟨a1, a2, a3⟩, ⟨a4, a5, a6, a7, a8⟩, a9, a10, a11⟩ := ca
  obtain ⟨z1, z2, z3, ⟨z4, z5⟩, ⟨z6, z7, z8⟩, ⟨z9, z10⟩, z11⟩ := z
  have ⟨h1, h2, h3, h4, h5, h6, h7, ⟨b1, b2, b3, b4, b5, b6⟩, h9, h10, h11, h12⟩ := pm
  obtain ⟨_, k1, k2, k3, ⟨k4, k5, k6, k7⟩, k8, k9⟩ := pk
  have ft := h1.ft
  have ft1 := k1.ft
  have pe : ∀ j i, (j ≠ 67 ∨ i ≠ γe 9 8 - 1) → γ1 j i = γ j i := fun j i q => by rw [pr, if_neg (by omega)]
  have u98 := pe 9 8 (by omega)
  have u911 := pe 9 11 (by omega)
  have u910 := pe 9 10 (by omega)
  have u28 := pe 28 g (by omega)
  have u27 := pe 27 g (by omega)
  have u26 := pe 26 g (by omega)
  rw [u98] at a1 a4 a5 a6 a7 a8
  rw [u911, u28] at a2
  rw [u27] at a3 a9
  rw [u911, u26] at a9
  rw [u911, u28, u98] at a10
  rw [u911, u28, u26] at a11
  have ox : ∀ j i, (j ≠ 9 ∨ i ≠ 8 ∧ i ≠ 10 ∧ i ≠ 11) → (j < 54 ∨ 60 < j ∨ i < γ 9 11 ∨ γ 9 11 + γ 28 g ≤ i) → (j < 63 ∨ 67 < j ∨ i ≠ γ 9 8) → (j ≠ 68 ∨ i < γ 9 10 - γ 26 g) → (j ≠ 67 ∨ i ≠ γe 9 8 - 1) → γ' j i = γ j i := fun j i q1 q2 q3 q4 q5 => by rw [a10 j i q1 q2 q3 q4]; exact pe j i q5
  have d28 : γ' 28 g = γ 28 g := ox 28 g (by omega) (by omega) (by omega) (by omega) (by omega)
  have d26 : γ' 26 g = γ 26 g := ox 26 g (by omega) (by omega) (by omega) (by omega) (by omega)
  rw [d26, d28] at z1
  have P1 : LqPr V 0 0 γ γ' := ⟨fun j i q => ox j i (by omega) (by omega) (by omega) (by omega) (by omega), fun j s q1 q2 q3 q4 => ox j s (by omega) (by omega) (by omega) (by omega) (by omega), fun j i q1 q2 => ox j i (by omega) (by omega) (by omega) (by omega) (by omega), by omega, by rw [ox 8 5 (by omega) (by omega) (by omega) (by omega) (by omega)]; omega, by rw [ox 8 11 (by omega) (by omega) (by omega) (by omega) (by omega)]; omega, ox 9 12 (by omega) (by omega) (by omega) (by omega) (by omega)⟩
  have P2 : LqPr V 0 0 γ γ2 := P1.tr z1 (fun s q _ => by omega)
  obtain ⟨ks0, ek, sg0⟩ := Sg.split ms.length rfl sg c2 c3
  have ar2 := ar
  rw [ek] at ar2
  obtain ⟨ar0, arm⟩ := Arr.app.1 ar2
  have len : (ks.length : Int) = ks0.length + ms.length := by rw [ek, List.length_append]; omega
  have eT : γ 9 10 - γ 26 g = γe 9 10 + ks0.length := by omega
  rw [eT] at a3 a9 a11 ox
  have te : ∀ j i, 2 ≤ j → j ≤ 34 → δ j i = δe j i := fun j i q1 q2 => ft j i (by omega) (by omega)
  have t1e : ∀ j i, 2 ≤ j → j ≤ 34 → δ1 j i = δ j i := fun j i q1 q2 => ft1 j i (by omega) (by omega)
  have s2 : ∀ j i, (j = 41 → i ≠ δe 0 54 + δe 25 p) → δ2 j i = δ1 j i := fun j i q => by rw [e2, stA, if_neg (by omega)]
  have s41 : δ2 41 (δe 0 54 + δe 25 p) = δ 0 50 := by rw [e2, stA, if_pos ⟨rfl, rfl⟩]
  have t2e : ∀ j i, 2 ≤ j → j ≤ 34 → δ2 j i = δ j i := fun j i q1 q2 => by rw [s2 j i (by omega)]; exact t1e j i q1 q2
  have e23 : δ 23 = δe 23 := funext fun i => te 23 i (by omega) (by omega)
  have r50 : δe 0 50 < δ 0 50 := h3.1
  have x38 : δ2 38 (δe 0 50) = δe 0 51 := by rw [s2 38 _ (by omega), k1 38 _ (by omega) (by omega) (by omega) (by omega)]; exact b4
  have x38' : δ 38 (δe 0 50) = δe 0 51 := b4
  have x40 : δ2 40 (δe 0 50) = δe 0 54 := by rw [s2 40 _ (by omega), k1 40 _ (by omega) (by omega) (by omega) (by omega)]; exact b6
  have x35 : δ2 35 (δe 0 50) = n := by rw [s2 35 _ (by omega), k1 35 _ (by omega) (by omega) (by omega) (by omega)]; exact b1
  have y38 : δ2 38 (δ 0 50) = δ 0 51 := by rw [s2 38 _ (by omega)]; exact k7
  have clp := nd.cl hp.1 hp.2.1 hp.2.2
  have h54 := h7
  have oP : ∀ t, outV δ2 (δe 0 50) p t = δ 0 51 + γ 26 g + t := fun t => by
    unfold outV
    rw [x40, t2e 25 p (by omega) (by omega), te 25 p (by omega) (by omega), s41, y38, t2e 21 p (by omega) (by omega), te 21 p (by omega) (by omega), hg.1, t2e 5 _ (by omega) (by omega), te 5 _ (by omega) (by omega), hg.2.1]
  have dX : ∀ e, psN δe n ≤ e → e < p → γ 38 e = 43 → ∀ t, outV δ2 (δe 0 50) e t = outV δ (δe 0 50) e t := fun e q1 q2 q3 t => by
    have q4 := (gc e q1 q2).2 q3
    have ic := h11 e q1 q2 q4
    have cle := nd.cl q1 (by omega) q4
    have ix : δ 40 (δe 0 50) + δ 25 e = δe 0 54 + δe 25 e := by rw [b6, te 25 e (by omega) (by omega)]
    rw [outV_41 (δ := δ1) (r := δ 0 50) s2 (by rw [k1 40 _ (by omega) (by omega) (by omega) (by omega), k1 25 _ (by omega) (by omega) (by omega) (by omega), ix]; intro q5; have := clp.2 e q1 (by omega) q4 (by omega); omega) t]
    exact outV_fp k1 r50 ic (by omega) t
  generalize hσ : (fun y e => if y = δe 0 50 ∧ e = p then outV δ2 (δe 0 50) p 0 else σ1 y e : Int → Int → Int) = σ'
  have so : ∀ y, y ≠ δe 0 50 → σ' y = σ1 y := fun y q => by rw [← hσ]; funext e; show (if _ then _ else _) = _; rw [if_neg (by omega)]
  have sx : ∀ e, e ≠ p → σ' (δe 0 50) e = σ (δe 0 50) e := fun e q => by rw [← hσ]; show (if _ then _ else _) = _; rw [if_neg (by omega), (z9 _ r50).1]
  have sp : σ' (δe 0 50) p = outV δ2 (δe 0 50) p 0 := by rw [← hσ]; show (if _ then _ else _) = _; rw [if_pos ⟨rfl, rfl⟩]
  have mlt : ∀ z ∈ ms, z ≠ p := fun z hz => by have := c2.mem z hz; omega
  have klt : ∀ z ∈ ks0, z ≠ p := fun z hz => by have := sg.mem z (by rw [ek]; exact List.mem_append_left _ hz); omega
  have f98 : γ 9 8 = γe 9 8 := r1
  have st68 : ∀ i, i < γe 9 10 + ks0.length → γ2 68 i = γ 68 i := fun i q => by rw [z5 i (by omega), ox 68 i (by omega) (by omega) (by omega) (by omega) (by omega)]
  have c50 : δ2 0 50 = δ1 0 50 := s2 0 50 (by omega)
  refine ⟨σ', ks0, ⟨P.tr P2 (fun s _ _ => by omega), ⟨by omega, ?_, ?_, ?_, ?_, ?_⟩, fun j i q1 q2 q3 => ?_, fun i q => by rw [st68 i (by omega)]; exact lst i q, ⟨by rw [s2 0 51 (by omega)]; exact z6, by rw [s2 0 53 (by omega)]; exact z7, z8⟩, ⟨fun y q => by rw [so y (by omega), (z9 y (by omega)).1, (z9 y (by omega)).2]; exact gh y q, by rw [(z9 _ r50).2]; exact kx⟩, fun e q1 q2 => ?_, fun i q1 q2 => (vrs i q1 q2).up P2 (by have := P.2.2.2.1; omega), fun k' q1 q2 => ?_, fun y q1 q2 => ?_⟩, sp, ek, by rw [z4]; exact a3, fun t q1 q2 => ?_, ?_, sg0⟩
  · rw [z3 63 _ (by omega) (by omega) (by omega), ox 63 _ (by omega) (by omega) (by omega) (by omega) (by omega)]; exact r2
  · rw [z3 64 _ (by omega) (by omega) (by omega), ox 64 _ (by omega) (by omega) (by omega) (by omega) (by omega)]; exact r3
  · rw [z3 65 _ (by omega) (by omega) (by omega), ox 65 _ (by omega) (by omega) (by omega) (by omega) (by omega)]; exact r4
  · rw [z3 66 _ (by omega) (by omega) (by omega), ox 66 _ (by omega) (by omega) (by omega) (by omega) (by omega)]; exact r5
  · rw [z3 67 _ (by omega) (by omega) (by omega), a10 67 _ (by omega) (by omega) (by omega) (by omega), pr, if_pos ⟨rfl, rfl⟩, r6]
  · rw [z3 j i (by omega) (by omega) (by omega), ox j i (by omega) (by omega) (by omega) (by omega) (by omega)]; exact lf j i q1 q2 q3
  · by_cases q3 : e = p
    · subst q3
      have m38 : γ2 38 e = 43 := by rw [P2.1 38 e (by omega)]; exact h43
      unfold LqPt
      rw [m38]
      exact ⟨fun q => by omega, fun q => by omega, fun q => by omega, fun _ => sp, fun q => by unfold opK at q; omega⟩
    · refine (pts e q1 (by omega)).up P2 hV.2.2 (t2e 22 e (by omega) (by omega)) (funext fun i => t2e 23 i (by omega) (by omega)) (by rw [x38, x38']) (fun q => dX e q1 (by omega) q 0) (sx e q3) (fun ks' hk z hz => ?_) (fun q => ?_)
      · rw [e23, te 22 e (by omega) (by omega)] at hk
        have := (gk e q1 (by omega) ks' hk).1 z hz
        exact sx z (by omega)
      · obtain ⟨ks', hk⟩ := (gc e q1 (by omega)).1
        have := (gk e q1 (by omega) ks' hk).2 q
        rw [te 22 e (by omega) (by omega)]
        exact sx _ (by omega)
  · have gg := gq k' q1 q2
    refine (eqs k' q1 q2).up P2 (fun t w1 w2 => ?_) (t2e 17 k' (by omega) (by omega)) (by rw [x38, x38']) (fun q t => ?_) ?_
    · have := gg.2 t w1 w2
      have := P.2.2.2.1
      rw [x38']; omega
    · rw [te 17 k' (by omega) (by omega)] at q ⊢
      exact dX _ gg.1.1 gg.1.2 q t
    · rw [te 17 k' (by omega) (by omega)]; exact sx _ (by omega)
  · rw [c50] at q2
    by_cases q3 : y < δ 0 50
    · obtain ⟨u1, u2, u3, u4⟩ := sub y q1 q3
      obtain ⟨⟨y1, y2, y3⟩, y4, y5⟩ := hy y q1 q3
      have ⟨ix, ic0, io, icc⟩ := h10 y q1 q3
      have io := io q1
      have e36 := io.1
      have dy : ∀ j, 35 ≤ j → j ≤ 40 → ∀ y, y < δ 0 50 → δ2 j y = δ j y := fun j w1 w2 y w3 => by rw [s2 j y (by omega)]; exact k1 j y (by omega) (by omega) (by omega) (by omega)
      refine ⟨u1.up P2 hV.2.2 t2e (dy 35 (by omega) (by omega) y q3) (dy 38 (by omega) (by omega) y q3) (fun e w1 w2 w3 t => ?_) ?_ (z9 y q3).2 (by omega) y3, u2.up P2 t2e (fun j w1 w2 => dy j w1 (by omega) y q3) (dy 38 (by omega) (by omega) _ (by omega)) (dy 35 (by omega) (by omega) _ (by omega)) ⟨(z9 y q3).2, (z9 _ (by omega)).2⟩ (fun ms' hm a ha => ?_) (by omega), fun w => ?_, by rw [dy 38 (by omega) (by omega) y q3]; exact u4⟩
      · obtain ⟨i1, i2, i3⟩ := y5 e w1 w2 w3
        rw [outV_41 (δ := δ1) (r := δ 0 50) s2 (by rw [k1 40 _ (by omega) (by omega) (by omega) (by omega), k1 25 _ (by omega) (by omega) (by omega) (by omega)]; omega) t]
        exact outV_fp k1 q3 i1 i3 t
      · rw [so y (by omega), (z9 y q3).1]
      · by_cases q4 : δ 36 y = δe 0 50
        · have := u3 q4
          have := y2 ms' hm a ha
          rw [q4]; exact sx a (by omega)
        · rw [so _ q4, (z9 _ (by omega)).1]
      · rw [dy 36 (by omega) (by omega) y q3] at w
        rw [dy 37 (by omega) (by omega) y q3]
        have := u3 w
        omega
    · obtain ⟨w1, w2⟩ := z11 y (by omega) q2
      obtain ⟨⟨y1, y2, y3⟩, y4⟩ := hy1 y (by omega) q2
      have ⟨jx, jc0, jo, jcc⟩ := k8 y (by omega) q2
      have t21 : ∀ j i, 2 ≤ j → j ≤ 34 → δ2 j i = δ1 j i := fun j i v1 v2 => s2 j i (by omega)
      have g11 : γ2 9 11 = δ1 0 51 := z6
      have inn : LqIn V γ2 δ2 σ' κ1 y := w1.up (LqPr.rf (lo := 0) (hi := 0)) hV.2.2 t21 (s2 35 y (by omega)) (s2 38 y (by omega)) (fun e v1 v2 v3 t => by
        rw [P2.1 38 e (by omega)] at v3
        have := y4 e v1 v2 v3
        exact outV_41 (r := δ 0 50) s2 (by omega) t) (by rw [so y (by omega)]) rfl (by omega) y3
      by_cases q4 : y = δ 0 50
      · subst q4
        have e36 : δ2 36 (δ 0 50) = δe 0 50 := by rw [s2 36 _ (by omega)]; exact k5
        have e37 : δ2 37 (δ 0 50) = p := by rw [s2 37 _ (by omega)]; exact k6
        have e35 : δ2 35 (δ 0 50) = g := by rw [s2 35 _ (by omega)]; exact k4
        refine ⟨inn, ?_, fun _ => by rw [e37]; omega, by rw [y38]; have := P.2.2.2.1; omega⟩
        unfold LqIp
        rw [e36, e37, e35, x38, x35, y38, z10, (z9 _ r50).2, kx, r3, r4, P2.1 41 p (by omega), P2.1 26 g (by omega)]
        refine ⟨rfl, ms, k, ?_, c4, by rw [t2e 7 _ (by omega) (by omega), t2e 7 _ (by omega) (by omega), te 7 _ (by omega) (by omega), te 7 _ (by omega) (by omega)]; exact ⟨hk.1, hk.2.1⟩, by rw [t2e 19 _ (by omega) (by omega), t2e 17 _ (by omega) (by omega), te 19 _ (by omega) (by omega), te 17 _ (by omega) (by omega)]; exact hk.2.2, fun i a q => ?_⟩
        · rw [show δ2 23 = δe 23 from funext fun i => by rw [t2e 23 i (by omega) (by omega), te 23 i (by omega) (by omega)], t2e 22 p (by omega) (by omega), te 22 p (by omega) (by omega)]; exact c1
        · have l : i < ms.length := by
            rcases Nat.lt_or_ge i ms.length with r | r
            · exact r
            · rw [List.getElem?_eq_none r] at q; cases q
          obtain ⟨v1, v2, v3, v4, v5, v6⟩ := a11 i (by omega) (by omega)
          rw [c11] at v2 v6
          rw [if_pos (by omega)] at v2 v6
          rw [z1.2.1 55 _ (by omega) (by omega) (by omega) (fun _ => by omega), z1.2.1 60 _ (by omega) (by omega) (by omega) (by omega), v2, v6, pe 68 _ (by omega), P2.1 42 k (by omega), arm.get i a q, sx a (mlt a (List.mem_of_getElem? q))]
          exact ⟨rfl, rfl⟩
      · have io := jo (by omega)
        have e36 := io.1
        have w3 := w2 (by omega)
        rw [d28] at w3
        refine ⟨inn, w3.1.up (LqPr.rf (V := V) (lo := 0) (hi := 0)) t21 (fun j v1 v2 => s2 j y (by omega)) (s2 38 _ (by omega)) (s2 35 _ (by omega)) ⟨rfl, rfl⟩ (fun ms' hm a ha => by rw [so _ (by omega)]) (by omega), fun w => ?_, by rw [s2 38 y (by omega)]; have := P.2.2.2.1; omega⟩
        rw [s2 36 y (by omega)] at w
        exfalso; omega
  · rw [z5 _ (by omega), a9 t q1 q2, oP t, c11]
  · exact ar0.agree (fun i w1 w2 => st68 i (by omega)) (fun z hz => sx z (klt z hz))
