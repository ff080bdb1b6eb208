/-! equality: while an instance is put in -/
theorem LqIn.up {V lo hi : Int} {γ γ' δ δ' : St} {σ σ' : Int → Int → Int} {κ κ' : Int → Int} {y : Int} (h : LqIn V γ δ σ κ y) (P : LqPr V lo hi γ γ') (hV : hi ≤ V) (ft : ∀ j k, 2 ≤ j → j ≤ 34 → δ' j k = δ j k) (d35 : δ' 35 y = δ 35 y) (d38 : δ' 38 y = δ 38 y) (dO : ∀ e, psN δ (δ 35 y) ≤ e → e < peN δ (δ 35 y) → γ 38 e = 43 → ∀ t, outV δ' y e t = outV δ y e t) (hs : σ' y = σ y) (hκ : κ' y = κ y) (hb : δ 38 y + γ 28 (δ 35 y) ≤ γ 9 11 ∧ (δ 38 y + γ 28 (δ 35 y) ≤ lo ∨ hi ≤ δ 38 y)) (hl : ∀ k, δ 7 (δ 35 y) ≤ k → k < δ 7 (δ 35 y + 1) → (psN δ (δ 35 y) ≤ δ 17 k ∧ δ 17 k < peN δ (δ 35 y)) ∧ ∀ t, 0 ≤ t → t < γ 46 k → 0 ≤ γ 47 (γ 45 k + t) ∧ γ 47 (γ 45 k + t) < γ 28 (δ 35 y)) : LqIn V γ' δ' σ' κ' y := by
  obtain ⟨h1, h2, h3⟩ := h
  have eps : psN δ' (δ 35 y) = psN δ (δ 35 y) := by unfold psN; rw [ft 7 _ (by omega) (by omega), ft 19 _ (by omega) (by omega)]
  have epe : peN δ' (δ 35 y) = peN δ (δ 35 y) := by unfold peN; rw [ft 7 _ (by omega) (by omega), ft 17 _ (by omega) (by omega)]
  unfold LqIn
  rw [d35, d38, eps, epe, hs, hκ, ft 7 _ (by omega) (by omega), ft 7 _ (by omega) (by omega), P.1 28 _ (by omega)]
  refine ⟨fun e q1 q2 => (h1 e q1 q2).up P hV (ft 22 e (by omega) (by omega)) (funext fun k => ft 23 k (by omega) (by omega)) d38 (fun q => dO e q1 q2 q 0) rfl (fun _ _ _ _ => rfl) (fun _ => rfl), fun i q1 q2 => (h2 i q1 q2).up P (by omega), fun k q1 q2 => ?_⟩
  have l := hl k q1 q2
  exact (h3 k q1 q2).up P (fun t r1 r2 => by have := l.2 t r1 r2; omega) (ft 17 k (by omega) (by omega)) d38 (fun q t => dO _ l.1.1 l.1.2 q t) rfl
theorem LqIp.up {V lo hi : Int} {γ γ' δ δ' : St} {σ σ' : Int → Int → Int} {κ κ' : Int → Int} {y : Int} (h : LqIp γ δ σ κ y) (P : LqPr V lo hi γ γ') (ft : ∀ j k, 2 ≤ j → j ≤ 34 → δ' j k = δ j k) (dy : ∀ j, 35 ≤ j → j ≤ 38 → δ' j y = δ j y) (d38o : δ' 38 (δ 36 y) = δ 38 (δ 36 y)) (d35o : δ' 35 (δ 36 y) = δ 35 (δ 36 y)) (hκ : κ' y = κ y ∧ κ' (δ 36 y) = κ (δ 36 y)) (hs : ∀ ms, Ch (δ 23) (δ 22 (δ 37 y)) ms → ∀ a ∈ ms, σ' (δ 36 y) a = σ (δ 36 y) a) (hb : δ 38 y + γ 26 (δ 35 y) ≤ γ 9 11 ∧ (δ 38 y + γ 26 (δ 35 y) ≤ lo ∨ hi ≤ δ 38 y)) : LqIp γ' δ' σ' κ' y := by
  obtain ⟨h1, ms, k, h2, h3, h4, h5, h6⟩ := h
  unfold LqIp
  rw [dy 35 (by omega) (by omega), dy 36 (by omega) (by omega), dy 37 (by omega) (by omega), dy 38 (by omega) (by omega), d38o, d35o, hκ.1, hκ.2, ft 22 _ (by omega) (by omega), show δ' 23 = δ 23 from funext fun k => ft 23 k (by omega) (by omega), ft 7 _ (by omega) (by omega), ft 7 _ (by omega) (by omega), P.1 41 _ (by omega), P.1 26 _ (by omega)]
  refine ⟨h1, ms, k, h2, h3, h4, by rw [ft 19 _ (by omega) (by omega), ft 17 _ (by omega) (by omega)]; exact h5, fun i a q => ?_⟩
  have l : i < ms.length := by
    rcases Nat.lt_or_ge i ms.length with r | r
    · exact r
    · rw [List.getElem?_eq_none r] at q; cases q
  rw [P.2.1 55 _ (by omega) (by omega) (by omega) (fun _ => by omega), P.2.1 60 _ (by omega) (by omega) (by omega) (by omega), P.1 42 _ (by omega), hs ms h2 a (List.mem_of_getElem? q)]
  exact h6 i a q
/-- while the instance of n is put in that is opened at γe: its parts before p are, its equations before k -/
def LqR (V : Int) (γe δe : St) (σe : Int → Int → Int) (κe : Int → Int) (n c : Int) (γ δ : St) (σ : Int → Int → Int) (κ : Int → Int) (k p : Int) : Prop := LqPr V (δe 0 51 + γe 26 n) (δe 0 51 + γe 28 n) γe γ ∧ (γ 9 8 = γe 9 8 ∧ γ 63 (γe 9 8 - 1) = n ∧ γ 64 (γe 9 8 - 1) = δe 0 51 ∧ γ 65 (γe 9 8 - 1) = c ∧ γ 66 (γe 9 8 - 1) = k ∧ γ 67 (γe 9 8 - 1) = p) ∧ (∀ j g, 63 ≤ j → j ≤ 67 → g < γe 9 8 - 1 → γ j g = γe j g) ∧ (∀ i, i < γe 9 10 → γ 68 i = γe 68 i) ∧ (γ 9 11 = δ 0 51 ∧ γ 8 11 = δ 0 53 ∧ γ 9 12 = V) ∧ ((∀ y, y < δe 0 50 → σ y = σe y ∧ κ y = κe y) ∧ κ (δe 0 50) = c) ∧ (∀ e, psN δe n ≤ e → e < p → LqPt V γ δ (σ (δe 0 50)) (δe 0 50) c e) ∧ (∀ i, 0 ≤ i → i < γe 28 n → LqVr γ n (δe 0 51) c i) ∧ (∀ k', δe 7 n ≤ k' → k' < k → LqDf γ δ (σ (δe 0 50)) (δe 0 50) k') ∧ ∀ y, δe 0 50 < y → y < δ 0 50 → LqIn V γ δ σ κ y ∧ LqIp γ δ σ κ y ∧ (δ 36 y = δe 0 50 → δ 37 y < p) ∧ δe 0 51 + γe 28 n ≤ δ 38 y
/-- the tables of both -/
def TbR (γ0 δ : St) : Prop := NtR γ0 δ ∧ EqT γ0 δ ∧ PtR γ0 δ ∧ SN δ (δ 0 18) ∧ ∀ f, 0 ≤ f → f < δ 0 18 → (δ 7 (f + 1) ≤ δ 0 30 ∧ peN δ f ≤ δ 0 40 ∧ δ 4 (f + 1) ≤ δ 0 19) ∧ ∀ k, δ 7 f ≤ k → k < δ 7 (f + 1) → 0 ≤ δ 16 k ∧ δ 16 (k + 1) ≤ δ 0 31
theorem TbR.ft {γ0 δ δ' : St} (h : TbR γ0 δ) (f : FT δ δ') : TbR γ0 δ' := by
  obtain ⟨h1, h2, h3, h4, h5⟩ := h
  have e0 : ∀ k, k < 50 → δ' 0 k = δ 0 k := fun k q => f 0 k (by omega) (by omega)
  have e : ∀ j : Nat, 1 ≤ j → j < 35 → δ' j = δ j := fun j q1 q2 => funext fun k => f j k (by omega) (by omega)
  refine ⟨?_, ?_, ?_, fun g q1 q2 => f.ns (h4 g q1 (by rw [e0 18 (by omega)] at q2; exact q2)), ?_⟩
  · simp only [NtR, e0 18 (by omega), e 4 (by omega) (by omega), e 5 (by omega) (by omega), e 6 (by omega) (by omega), e 7 (by omega) (by omega)] at h1 ⊢
    exact h1
  · simp only [EqT, EqE, e0 30 (by omega), e0 31 (by omega), e 15 (by omega) (by omega), e 16 (by omega) (by omega), e 17 (by omega) (by omega), e 18 (by omega) (by omega), e 19 (by omega) (by omega)] at h2 ⊢
    exact h2
  · simp only [PtR, PtE, e0 40 (by omega), e 20 (by omega) (by omega), e 21 (by omega) (by omega), e 26 (by omega) (by omega)] at h3 ⊢
    exact h3
  · intro g q1 q2
    rw [e0 18 (by omega)] at q2
    rw [f.pe, e0 30 (by omega), e0 31 (by omega), e0 40 (by omega), e0 19 (by omega), e 7 (by omega) (by omega), e 4 (by omega) (by omega), e 16 (by omega) (by omega)]
    exact h5 g q1 q2
/-- a part, in both -/
theorem TbR.pt {γ0 δ : St} (h : TbR γ0 δ) {n e : Int} (n0 : 0 ≤ n) (n1 : n < δ 0 18) (e0 : psN δ n ≤ e) (e1 : e < peN δ n) : (kdM (γ0 38 e) = δ 20 e ∧ γ0 39 e = δ 21 e) ∧ ∃ ms, Ch (δ 23) (δ 22 e) ms ∧ Sg (δ 26) (e + 1 - δ 26 e) ms e ∧ (ms.length : Int) = γ0 40 e := by
  obtain ⟨h1, h2, h3, h4, h5⟩ := h
  have nd := h4 n n0 n1
  have sz := nd.sz.2.2.1
  obtain ⟨p1, p2, ks, p3, p4⟩ := h3.2 e (by omega) (by have := (h5 n n0 n1).1.2.1; omega)
  obtain ⟨ms, c1, c2, _⟩ := nd.pt e0 e1
  refine ⟨⟨p1, p2⟩, ms, c1, c2, ?_⟩
  rw [Sg.uniq c2 p3]; exact p4
/-- an equation, in both -/
theorem TbR.eq {γ0 δ : St} (h : TbR γ0 δ) {n k : Int} (n0 : 0 ≤ n) (n1 : n < δ 0 18) (k0 : δ 7 n ≤ k) (k1 : k < δ 7 (n + 1)) : γ0 42 k = δ 15 k ∧ γ0 43 k = δ 19 k ∧ γ0 44 k = δ 17 k + 1 ∧ γ0 45 k = δ 16 k ∧ γ0 46 k = δ 16 (k + 1) - δ 16 k ∧ ∀ t, 0 ≤ t → t < γ0 46 k → γ0 47 (γ0 45 k + t) = δ 18 (δ 16 k + t) := by
  obtain ⟨h1, h2, h3, h4, h5⟩ := h
  have nd := h4 n n0 n1
  have sz := nd.sz.2.1
  obtain ⟨⟨f1, f2⟩, f3, f4⟩ := h2
  have a := h5 n n0 n1
  obtain ⟨w1, w2, w3, w4, w5⟩ := f3 k (by omega) (by omega)
  have b := a.2 k k0 k1
  exact ⟨w1, w2, w3, w4, w5, fun t q1 q2 => by rw [w4]; exact f4 _ (by omega) (by omega)⟩
/-- what is sure of an instance -/
def LqY (γ δ : St) (y : Int) : Prop := (0 ≤ δ 38 y ∧ δ 38 y + γ 28 (δ 35 y) ≤ δ 0 51 ∧ 0 ≤ γ 26 (δ 35 y) ∧ γ 26 (δ 35 y) ≤ γ 28 (δ 35 y)) ∧ (∀ ms, Ch (δ 23) (δ 22 (δ 37 y)) ms → ∀ a ∈ ms, a < δ 37 y) ∧ ∀ k, δ 7 (δ 35 y) ≤ k → k < δ 7 (δ 35 y + 1) → (psN δ (δ 35 y) ≤ δ 17 k ∧ δ 17 k < peN δ (δ 35 y)) ∧ ∀ t, 0 ≤ t → t < γ 46 k → 0 ≤ γ 47 (γ 45 k + t) ∧ γ 47 (γ 45 k + t) < γ 28 (δ 35 y)
theorem clW_nn (k : Int) : 0 ≤ clW k := by
  unfold clW
  by_cases q : k = 37
  · rw [if_pos q]; omega
  · rw [if_neg q]
    by_cases q2 : k = 35 ∨ k = 18 ∨ k = 36
    · rw [if_pos q2]; omega
    · rw [if_neg q2]; omega
/-- a part that is no call -/
theorem lq_val {V : Int} {γe δe γ δ γ' δ' : St} {σe σ : Int → Int → Int} {κe κ : Int → Int} {n c k p : Int} {ks ms : List Int} (R : LqR V γe δe σe κe n c γ δ σ κ k p) (hV : V < γ 8 5 ∧ γ 9 11 ≤ V ∧ 0 ≤ V) (h811 : 0 ≤ γ 8 11) (hE : γe 9 11 = δe 0 51 + γe 28 n ∧ 0 ≤ δe 0 51 ∧ 0 ≤ δe 0 50) (st : γ 9 10 = γe 9 10 + ks.length) (ar : Arr (γ 68) (σ (δe 0 50)) (γe 9 10) ks) (sg : Sg (δe 26) (δe 19 k) ks p) (c1 : Ch (δe 23) (δe 22 p) ms) (c2 : Sg (δe 26) (p + 1 - δe 26 p) ms p) (c3 : δe 19 k ≤ p + 1 - δe 26 p) (c4 : (ms.length : Int) = γ 40 p) (c40 : sdK (γ 38 p) (γ 40 p)) (h43 : γ 38 p ≠ 43) (gk : ∀ e, psN δe n ≤ e → e < p → ∀ ks, Ch (δe 23) (δe 22 e) ks → (∀ z ∈ ks, z < p) ∧ (γ 38 e = 27 → δe 22 e < p)) (gq : ∀ k', δe 7 n ≤ k' → k' < k → δe 17 k' < p ∧ ∀ t, 0 ≤ t → t < γ 46 k' → 0 ≤ γ 47 (γ 45 k' + t) ∧ γ 47 (γ 45 k' + t) < γe 28 n) (gc : ∀ e, psN δe n ≤ e → e < p → ∃ ks, Ch (δe 23) (δe 22 e) ks) (hp : psN δe n ≤ p) (ft : FT δe δ) (fd : ∀ j i, (j ≠ 0 ∨ i ≠ 53) → δ' j i = δ j i) (f53 : δ' 0 53 = δ 0 53 + clW (γ 38 p)) (e38 : δ 38 (δe 0 50) = δe 0 51) (hy : ∀ y, δe 0 50 < y → y < δ 0 50 → LqY γ δ y) (nw : NwS γ γ' (γe 9 8 - 1) (γ 40 p)) (tk : TkV γ γ' (γe 9 8 - 1) p (γ 9 10 - γ 40 p)) : ∃ σ' ks', LqR V γe δe σe κe n c γ' δ' σ' κ k (p + 1) ∧ γ' 9 10 = γe 9 10 + (ks' ++ [p]).length ∧ Arr (γ' 68) (σ' (δe 0 50)) (γe 9 10) (ks' ++ [p]) ∧ Sg (δe 26) (δe 19 k) (ks' ++ [p]) (p + 1) := by
  obtain ⟨P, ⟨r1, r2, r3, r4, r5, r6⟩, lf, lst, ⟨c11, c53, c12⟩, ⟨gh, kx⟩, pts, vrs, eqs, sub⟩ := R
  obtain ⟨n1, n2, n3, n4, n5⟩ := nw
  rw [r6] at n2 n5
  obtain ⟨t1, t2, t3, t4⟩ := tk
  have ml : (ms.length : Int) = γ 40 p := c4
  obtain ⟨ks0, ek, sg0⟩ := Sg.split ms.length rfl sg c2 c3
  have ar2 := ar
  rw [ek] at ar2
  obtain ⟨ar0, arm⟩ := Arr.app.1 ar2
  have len : (ks.length : Int) = ks0.length + ms.length := by rw [ek, List.length_append]; omega
  have eT : γ 9 10 - γ 40 p = γe 9 10 + ks0.length := by omega
  rw [eT] at t1 t2 t4
  have n1' : ∀ j i, (j = 68 ∧ i < γe 9 10 + ks0.length) → γ' j i = γ j i := fun j i q => n1 j i (by omega)
  have cn := clW_nn (γ 38 p)
  have P' : LqPr V 0 0 γ γ' := ⟨fun j i q => n1 j i (by omega), fun j s q1 q2 q3 q4 => n1 j s (by omega), fun j i q1 q2 => n1 j i (by omega), by rw [n1 9 11 (by omega)]; omega, n4, by omega, n1 9 12 (by omega)⟩
  have dOv : ∀ y e t, outV δ' y e t = outV δ y e t := fun y e t => by unfold outV; rw [fd 40 _ (by omega), fd 25 _ (by omega), fd 41 _ (by omega), fd 38 _ (by omega), fd 21 _ (by omega), fd 5 _ (by omega)]
  have ftd : ∀ j i, 2 ≤ j → j ≤ 34 → δ' j i = δ j i := fun j i q1 q2 => fd j i (by omega)
  have te : ∀ j i, 2 ≤ j → j ≤ 34 → δ j i = δe j i := fun j i q1 q2 => ft j i (by omega) (by omega)
  have e23 : δ 23 = δe 23 := funext fun i => te 23 i (by omega) (by omega)
  generalize hval : γ' 68 (γe 9 10 + ks0.length) = val
  generalize hσ : (fun y e => if y = δe 0 50 ∧ e = p then val else σ y e : Int → Int → Int) = σ'
  have so : ∀ y, y ≠ δe 0 50 → σ' y = σ y := fun y q => by rw [← hσ]; funext e; show (if _ then _ else _) = _; rw [if_neg (by omega)]
  have sx : ∀ e, e ≠ p → σ' (δe 0 50) e = σ (δe 0 50) e := fun e q => by rw [← hσ]; show (if _ then _ else _) = _; rw [if_neg (by omega)]
  have sp : σ' (δe 0 50) p = val := by rw [← hσ]; show (if _ then _ else _) = _; rw [if_pos ⟨rfl, rfl⟩]
  have mlt : ∀ z ∈ ms, z ≠ p := fun z hz => by have := c2.mem z hz; omega
  have klt : ∀ z ∈ ks0, z ≠ p := fun z hz => by have := sg.mem z (by rw [ek]; exact List.mem_append_left _ hz); omega
  refine ⟨σ', ks0, ⟨P.tr P' (fun s _ _ => by omega), ⟨by rw [n1 9 8 (by omega)]; exact r1, by rw [n1 63 _ (by omega)]; exact r2, by rw [n1 64 _ (by omega)]; exact r3, by rw [n1 65 _ (by omega)]; exact r4, by rw [n1 66 _ (by omega)]; exact r5, n2⟩, fun j g q1 q2 q3 => ?_, fun i q => by rw [n1' 68 i ⟨rfl, by omega⟩]; exact lst i q, ⟨by rw [n1 9 11 (by omega), fd 0 51 (by omega)]; exact c11, by rw [n5, f53]; omega, by rw [n1 9 12 (by omega)]; exact c12⟩, ⟨fun y q => by rw [so y (by omega)]; exact gh y q, kx⟩, fun e q1 q2 => ?_, fun i q1 q2 => (vrs i q1 q2).up P' ?_, fun k' q1 q2 => ?_, fun y q1 q2 => ?_⟩, ?_, ?_, ?_⟩
  · rw [n1 j g (by omega)]; exact lf j g q1 q2 q3
  · by_cases q3 : e = p
    · subst q3
      have m38 := n1 38 e (by omega)
      have m39 := n1 39 e (by omega)
      have m41 := n1 41 e (by omega)
      unfold LqPt
      rw [m38, m39, m41, sp, fd 22 e (by omega), fd 38 _ (by omega), e38, te 22 e (by omega) (by omega)]
      refine ⟨fun q => ?_, fun q => ?_, fun q => ?_, fun q => absurd q h43, fun q => ?_⟩
      · have := t1 q
        have ev : val = γ 8 5 := by rw [← hval]; exact this.1
        rw [ev]
        exact ⟨by omega, this.2.2⟩
      · rw [← hval, t2 q, r3]
      · have sd1 : γ 40 e = 1 := by unfold sdK at c40; omega
        match ms, ml, c1, arm, mlt with
        | [], ml, _, _, _ => rw [sd1] at ml; simp at ml
        | y :: t, ml, c1, arm, mlt =>
          have ey : δe 22 e = y := c1.1
          rw [ey, sx y (mlt y List.mem_cons_self), ← hval, t3 q]
          exact arm.1
      · obtain ⟨γ1, pr, on⟩ := t4 q
        obtain ⟨o1, ⟨o2, o3, o4, o5⟩, ⟨o6, o7, o8, o9, o10⟩, o11, o12, o13⟩ := on
        have e1 : ∀ j i, (j ≠ 67 ∨ i ≠ γe 9 8 - 1) → γ1 j i = γ j i := fun j i q => by rw [pr, if_neg (by omega)]
        have ev : val = γ 8 5 := by rw [← hval]; exact o5
        have sd1 : 1 ≤ γ 40 e := by unfold sdK at c40; unfold opK at q; omega
        have c12' : γ1 9 12 = V := by rw [e1 9 12 (by omega)]; exact c12
        have sA : ∀ j : Nat, sdF (σ' (δe 0 50)) ms j = if γ 40 e ≤ j then -1 else γ 68 (γe 9 10 + ks0.length + j) := fun j => by
          rw [sdF_agree (s := σ (δe 0 50)) (fun z hz => sx z (mlt z hz)) j, sdF_arr arm j, ml]
        have s0 : sdF (σ' (δe 0 50)) ms 0 = γ 68 (γe 9 10 + ks0.length) := by rw [sA 0, if_neg (by omega), show γe 9 10 + (ks0.length : Int) + ((0 : Nat) : Int) = γe 9 10 + ks0.length by omega]
        have s1 : sdF (σ' (δe 0 50)) ms 1 = if γ 40 e ≤ 1 then -1 else γ 68 (γe 9 10 + ks0.length + 1) := sA 1
        have s2 : sdF (σ' (δe 0 50)) ms 2 = if γ 40 e ≤ 2 then -1 else γ 68 (γe 9 10 + ks0.length + 2) := sA 2
        rw [e1 68 _ (by omega)] at o8 o9 o10
        rw [e1 68 _ (by omega)] at o11 o13
        refine ⟨ms, ?_, ?_, ?_, fun w => ?_, fun w => ?_, fun w => ?_⟩
        · rw [funext fun i => fd 23 i (by omega), e23, fd 22 e (by omega), te 22 e (by omega) (by omega)]; exact c1
        · rw [sp, ev]; omega
        · rw [sp, ev, m38, r3, r4, s0, s1, s2] at *
          exact ⟨o6, o8, o9, o10⟩
        · rw [m38] at w
          have := o11 w
          rw [sp, ev, o7, s0, ← r3, ← r4]
          exact ⟨by omega, this.2.1, this.2.2⟩
        · rw [m38] at w
          have := o12 w
          rw [sp, ev, o7, ← r3, ← r4]
          exact ⟨by omega, by rw [this.2.1]; exact c12', this.2.2⟩
        · rw [m38] at w
          have := o13 w
          rw [sp, ev, o7, s1, ← r3, ← r4]
          exact ⟨by omega, this.2.1, this.2.2⟩
    · refine (pts e q1 (by omega)).up P' hV.2.2 (fd 22 e (by omega)) (funext fun i => fd 23 i (by omega)) (fd 38 _ (by omega)) (fun _ => dOv _ _ _) (sx e q3) (fun ks' hk z hz => ?_) (fun q => ?_)
      · rw [e23, te 22 e (by omega) (by omega)] at hk
        have := (gk e q1 (by omega) ks' hk).1 z hz
        exact sx z (by omega)
      · obtain ⟨ks', hk⟩ := gc e q1 (by omega)
        have := (gk e q1 (by omega) ks' hk).2 q
        rw [te 22 e (by omega) (by omega)]
        exact sx _ (by omega)
  · have := P.2.2.2.1; omega
  · have g := gq k' q1 q2
    refine (eqs k' q1 q2).up P' (fun t w1 w2 => ?_) (fd 17 k' (by omega)) (fd 38 _ (by omega)) (fun _ t => dOv _ _ _) ?_
    · have := g.2 t w1 w2
      have := P.2.2.2.1
      rw [e38]; omega
    · rw [te 17 k' (by omega) (by omega)]; exact sx _ (by omega)
  · rw [fd 0 50 (by omega)] at q2
    obtain ⟨u1, u2, u3, u4⟩ := sub y q1 q2
    obtain ⟨y1, y2, y3⟩ := hy y q1 q2
    refine ⟨u1.up P' hV.2.2 ftd (fd 35 y (by omega)) (fd 38 y (by omega)) (fun _ _ _ _ t => dOv _ _ _) (so y (by omega)) rfl (by omega) y3, u2.up P' ftd (fun j w1 w2 => fd j y (by omega)) (fd 38 _ (by omega)) (fd 35 _ (by omega)) ⟨rfl, rfl⟩ (fun ms' hm a ha => ?_) (by omega), fun w => ?_, by rw [fd 38 y (by omega)]; exact u4⟩
    · by_cases q3 : δ 36 y = δe 0 50
      · have := u3 q3
        have := y2 ms' hm a ha
        rw [q3]; exact sx a (by omega)
      · rw [so _ q3]
    · rw [fd 36 y (by omega)] at w
      rw [fd 37 y (by omega)]
      have := u3 w
      omega
  · rw [n3, eT, List.length_append]; simp only [List.length_singleton]; omega
  · refine Arr.app.2 ⟨ar0.agree (fun i w1 w2 => n1' 68 i ⟨rfl, by omega⟩) (fun z hz => sx z (klt z hz)), ?_, trivial⟩
    rw [sp]; exact hval
  · refine sg0.app ⟨?_, by omega, rfl⟩
    have := c2.le
    omega
