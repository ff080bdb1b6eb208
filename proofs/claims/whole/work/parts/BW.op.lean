/-! equality: a part is made on both sides -/
theorem rdT_o (γ : St) (m : Int) {j : Nat} {k : Int} (h : j ≠ 6 ∨ k < 8 ∨ 10 < k) (h2 : j ≠ 52) : rdT γ m j k = γ j k := by
  show (if _ then _ else _) = _
  rw [if_neg (by omega), if_neg (by omega), if_neg (by omega), if_neg (by omega)]
theorem rdS_9 (γ : St) : rdS γ 6 9 = γ 6 9 - (sidK (topK γ) - 1) := by
  unfold rdS
  rw [caS_o _ _ _ _ (by omega) (by omega)]
  show (if _ then _ else _) = _
  rw [if_neg (by omega), if_pos ⟨rfl, rfl⟩]
theorem rdS_10 (γ : St) : rdS γ 6 10 = γ 6 10 - nestK (topK γ) := by
  unfold rdS
  rw [caS_o _ _ _ _ (by omega) (by omega)]
  show (if _ then _ else _) = _
  rw [if_neg (by omega), if_neg (by omega), if_pos ⟨rfl, rfl⟩]
theorem rdS_52 (γ : St) (k : Int) : rdS γ 52 k = if k = γ 6 9 - (sidK (topK γ) - 1) - 1 then rdM γ + 1 else γ 52 k := by
  unfold rdS
  rw [caS_o _ _ _ _ (by omega) (by omega)]
  show (if _ then _ else _) = _
  by_cases q : k = γ 6 9 - (sidK (topK γ) - 1) - 1
  · rw [if_pos ⟨rfl, q⟩, if_pos q]
  · rw [if_neg (fun r => q r.2), if_neg q, if_neg (by omega), if_neg (by omega), if_neg (by omega)]
theorem rdS_44 (γ : St) : rdS γ 4 4 = γ 4 4 + 1 := by
  unfold rdS
  show (if _ then _ else _) = _
  rw [if_pos ⟨rfl, rfl⟩, rdT_o γ _ (by omega) (by omega)]
theorem rdS_pt (γ : St) {j : Nat} {k : Int} (h : 38 ≤ j ∧ j ≤ 41) (h2 : k ≠ γ 4 4) : rdS γ j k = γ j k := by
  unfold rdS
  rw [caS_o _ _ _ _ (by omega) (by rw [rdT_o γ _ (by omega) (by omega)]; omega), rdT_o γ _ (by omega) (by omega)]
theorem rdS_nw (γ : St) : rdS γ 38 (γ 4 4) = (if topK γ ≠ 34 then topK γ else 32) ∧ rdS γ 39 (γ 4 4) = 0 ∧ rdS γ 40 (γ 4 4) = sidK (topK γ) ∧ rdS γ 41 (γ 4 4) = -2 := by
  have e : rdT γ (rdM γ) 4 4 = γ 4 4 := rdT_o γ _ (by omega) (by omega)
  unfold rdS caS
  simp [e]
theorem rdM_1 {γ : St} (h : sidK (topK γ) = 1) : rdM γ = γ 52 (γ 6 9 - 1) := by
  unfold rdM
  rw [h, show γ 6 9 - (1 - 1) - 1 = γ 6 9 - 1 by omega]
  rfl
theorem rdM_2 {γ : St} (h : sidK (topK γ) = 2) : rdM γ = max (γ 52 (γ 6 9 - 2)) (γ 52 (γ 6 9 - 1)) := by
  unfold rdM
  rw [h, show γ 6 9 - (2 - 1) - 1 = γ 6 9 - 2 by omega, show ((2 : Int) - 1).toNat = 0 + 1 from rfl]
  unfold mxN mxN
  rw [show γ 6 9 - (2 - 1) - 1 + 1 = γ 6 9 - 1 by omega]
  split <;> omega
theorem rdM_3 {γ : St} (h : sidK (topK γ) = 3) : rdM γ = max (γ 52 (γ 6 9 - 3)) (max (γ 52 (γ 6 9 - 2)) (γ 52 (γ 6 9 - 1))) := by
  unfold rdM
  rw [h, show γ 6 9 - (3 - 1) - 1 = γ 6 9 - 3 by omega, show ((3 : Int) - 1).toNat = 0 + 1 + 1 from rfl]
  unfold mxN mxN mxN
  rw [show γ 6 9 - (3 - 1) - 1 + 1 = γ 6 9 - 2 by omega, show γ 6 9 - (3 - 1) - 1 + (1 + 1) = γ 6 9 - 1 by omega]
  split <;> split <;> omega
/-- the class goes on, or takes all down and says no -/
def Go (z : Bool) (f : Nat) (γ : St) (i : Int) : Option (Int × St) := match z with
  | true => Dm γ
  | false => f_Er_readRightSide_L57 f γ 1 i
theorem pq_gfl {α : Type} {m : Option α} {Q : Int × St → α → Prop} {N d i : Int} {z : Bool} {f : Nat} {γ δ : St} (h : XpR N d i γ δ) (hd : γ 6 12 = 0) (hs : 0 < γ 6 8) (hm : γ 6 11 = 0 ∨ 1 < γ 6 8) (hz0 : z = false → γ 14 (γ 1 6) ≠ 27 ∧ lstK (γ 14 (γ 1 6)) ≤ rankK (topK γ)) (hz1 : z = true → 1 ≤ rankK (topK γ)) (h1 : rdM γ < 200 → pq (Go z f (rdS γ) i) m Q) (h2 : 200 ≤ rdM γ → pq (some (0, flS (rdS γ) 3)) m Q) : pq (Go z f γ i) m Q := by
  cases z with
  | true => exact pq_dflush h.1.1.2 hs (hz1 rfl) h1 h2
  | false => exact pq_flush h.lp hd h.1.1.2 hs hm (hz0 rfl).1 (hz0 rfl).2 h1 h2
theorem wp_both {α : Type} {o : Option α} {P Q : α → Prop} (h : wp o P) (g : wp o Q) : pc o (fun z => P z ∧ Q z) := fun y e => by
  rw [e] at h g
  exact ⟨h, g⟩
theorem XS.hb {δ0 δ : St} {ks : List Int} (x : XS δ0 δ ks) : ∀ y ∈ ks, 1 ≤ δ 27 y ∧ δ 27 y ≤ 200 := fun y hy => by
  have m := x.2.1.2.mem y hy
  obtain ⟨_, _, _, _, _, _, _, k⟩ := x.2.2.1 y m.1 m.2
  exact k
/-- both make the part of what waits on top -/
theorem pq_op {N d i a0 : Int} {z : Bool} {f : Nat} {γ δ0 δ : St} {ks : List Int} {K : Int → St → Option Res} {R : St → St → Prop} (x : XS δ0 δ ks) (p0 : 0 ≤ δ0 0 40 ∧ δ0 0 40 ≤ δ0 0 5) (sl : δ0 0 5 - δ0 0 40 + 1 ≤ δ 0 5 - δ 0 40) (h : XpR N d i γ δ) (hd : γ 6 12 = 0) (hs : 0 < γ 6 8) (hm : γ 6 11 = 0 ∨ 1 < γ 6 8) (hz0 : z = false → γ 14 (γ 1 6) ≠ 27 ∧ lstK (γ 14 (γ 1 6)) ≤ rankK (topK γ)) (hz1 : z = true → 1 ≤ rankK (topK γ)) (kd : kdM (if topK γ ≠ 34 then topK γ else 32) = a0) (n3 : clw a0 = 0) (ar : aryK a0 ks.length) (wh : whK (δ0 0 19 - δ0 4 (δ0 0 18)) (δ0 0 18) a0 0) (hsd : sidK (topK γ) = ks.length) (hH : hMx (δ 27) ks = rdM γ + 1) (ho : (ks.length : Int) ≤ γ 6 9 ∧ 1 ≤ ks.length)
    (cont : ∀ δ', XS δ0 δ' [δ 0 40] → XpR N (d - nestK (topK γ)) i (rdS γ) δ' → rdS γ 52 (γ 6 9 - ks.length) = δ' 27 (δ 0 40) → pq (Go z f (rdS γ) i) (K (δ 0 40) δ') (OuR R)) : pq (Go z f γ i) (bndT (f_M_make δ a0 0 (ks.headD (-1)) 1) K) (OuR R) := by
  have ⟨⟨b1, b2, b3, b4⟩, ⟨h1, h2⟩, _⟩ := x
  have ⟨k1, k2, k3, k4, k5⟩ := b1
  have lx := k1.1
  have x1 := lx.1
  have x5 := lx.2.1
  have w := wp_both (w_make (a0 := a0) (a1 := 0) lx (by omega) k1.2.1 (by omega) p0.1 h1 h2 x.hb) (w_mk x n3 ar wh sl p0)
  have ⟨c1, c2, c3, ⟨g1, g2, g3, g4⟩, ⟨g5, g6, g7⟩⟩ := h
  have o : ∀ (j : Nat) (k : Int), j ≤ 3 ∨ 13 ≤ j ∧ j ≤ 37 ∨ j = 6 ∧ 10 < k → rdS γ j k = γ j k := fun j k q => rdS_o γ (by omega) (by omega) (by omega) (by omega)
  refine pq_gfl h hd hs hm hz0 hz1 (fun q => pq_brT w (fun e δ' t => ?_) (fun r δ' t => ?_)) (fun q => pq_brT w (fun e δ' t => ?_) (fun r δ' t => ?_))
  · rcases t.1 with ⟨_, γ', e, _⟩ | ⟨t1, _⟩
    · cases e
    · exfalso; omega
  · have t2 := t.2
    rcases t.1 with ⟨hH2, γ', e, fr, c40, c20, c21, c22, c23, c24, c26, c27, _, _, _⟩ | ⟨t1, _⟩
    · cases e
      have xs : XS δ0 δ' [δ 0 40] := t2.1.2 _ rfl
      have nw := rdS_nw γ
      have e44 : γ 4 4 = δ 0 40 := c2.1.1
      rw [e44] at nw
      have l : LxR N (rdS γ) δ' := c1.1.fr (fun j k q => o j k (by omega)) (fun k _ _ => o 1 k (by omega)) (o 2 8 (by omega)) (funext fun k => fr 1 k (by omega) (by omega) (by omega)) (fun k q => fr 0 k (by omega) (by omega) (by omega))
      have pt : PtR (rdS γ) δ' := by
        refine c2.add (fun j q1 q2 k q3 => rdS_pt γ ⟨q1, q2⟩ q3) (rdS_44 γ) (fun j q1 q2 q3 q4 q5 k q6 => fr j k (by omega) (by omega) (by omega)) c40 ⟨?_, ?_, ⟨ks, ?_, ?_⟩⟩
        · rw [nw.1, c20]; exact kd
        · rw [nw.2.1, c21]
        · rw [c26, show δ 0 40 + 1 - (δ 0 40 + 1 - δ0 0 40) = δ0 0 40 by omega]
          exact h2.agree (fun y hy => fr 26 y (by omega) (by have := h2.mem y hy; omega) (by omega))
        · rw [nw.2.2.1]; exact hsd.symm
      refine cont δ' xs ⟨c1.xp l (fun j k q => o j k (by omega)) (fun j k q => fr j k (by omega) (by omega) (by omega)), pt, xs.1.1, ⟨by rw [o 6 14 (by omega)]; exact g1, by rw [rdS_10, g2], g3, by rw [o 1 6 (by omega)]; exact g4⟩, by rw [rdS_8]; omega, by rw [rdS_9]; omega, by rw [o 6 11 (by omega), rdS_8]; omega⟩ ?_
      rw [rdS_52, if_pos (by omega), c27, hH]
    · exfalso; omega
  · rcases t.1 with ⟨_, γ', e, _⟩ | ⟨t1, γ', e, _⟩
    · cases e
    · cases e
      exact pq_some (OuR.no (flS_7 _ _) (by rw [flS_8, o 1 6 (by omega), o 15 _ (by omega)]; exact c1.1.1.2.2.2.2.symm) (by decide))
  · rcases t.1 with ⟨t1, _⟩ | ⟨t1, γ', e, _⟩
    · exfalso; omega
    · cases e
