/-! the reference's trees: one root more, a part over the roots -/
theorem stw_b (k : Int) : 0 ≤ stw k ∧ stw k ≤ 2 := by unfold stw; split <;> (try split) <;> omega
theorem clw_b (k : Int) : 0 ≤ clw k ∧ clw k ≤ 1 := by unfold clw; split <;> omega
theorem Ch.app {b c : Int → Int} {a v : Int} (hv : 0 ≤ v) (ca : c a = v) (cv : c v = -1) : ∀ {ks : List Int} {x : Int}, Ch b x (ks ++ [a]) → (∀ y ∈ ks, c y = b y) → Ch c x (ks ++ [a] ++ [v])
  | [], x, h, _ => ⟨h.1, h.2.1, by rw [ca]; exact ⟨rfl, hv, cv⟩⟩
  | y :: t, x, h, g => ⟨h.1, h.2.1, by rw [g y List.mem_cons_self]; exact Ch.app hv ca cv h.2.2 (fun z hz => g z (List.mem_cons_of_mem _ hz))⟩
theorem Sg.last {p : Int → Int} {a : Int} : ∀ {ks : List Int} {lo hi : Int}, Sg p lo (ks ++ [a]) hi → hi = a + 1 ∧ ∀ y ∈ ks, y < a
  | [], lo, hi, h => ⟨h.2.2.symm, fun y m => by cases m⟩
  | x :: t, lo, hi, h => by
    have k := Sg.last h.2.2
    refine ⟨k.1, fun y m => ?_⟩
    rcases List.mem_cons.1 m with e | e
    · subst e
      have := Sg.mem h.2.2 a (List.mem_append_right _ List.mem_cons_self)
      omega
    · exact k.2 y e
theorem head_app {ks : List Int} {a b : Int} : (ks ++ [a] ++ [b]).headD (-1) = (ks ++ [a]).headD (-1) := by
  cases ks <;> rfl
theorem DcI.fr {γ γ' : St} (h : DcI γ) (e0 : ∀ k, k ≠ 40 → γ' 0 k = γ 0 k) (e : ∀ j : Nat, j = 1 ∨ j = 4 ∨ 10 ≤ j ∧ j ≤ 14 → ∀ k, γ' j k = γ j k) : DcI γ' := by
  have ⟨a1, a2, a3, a4, a5, a6, a7⟩ := h
  have e18 := e0 18 (by omega)
  have e19 := e0 19 (by omega)
  have e4 := e 4 (by omega) (γ 0 18)
  refine ⟨a1.fr (funext fun k => e 1 (by omega) k) (fun k q => e0 k (by omega)), by rw [e18]; exact a2, by rw [e18, e4]; exact a3, by rw [e18, e4, e19]; exact a4, ?_, ?_, fun v => by rw [e 14 (by omega) v]; exact a7 v⟩
  · rw [e18, e4, e19]
    intro v q1 q2
    rw [e 10 (by omega) v, e 11 (by omega) v]
    exact a5 v q1 q2
  · rw [e18, e4, e19]
    intro v q1 q2
    unfold ClO
    rw [e 12 (by omega) v]
    exact a6 v q1 q2
theorem PxI.fr {γ γ' : St} (h : PxI γ) (e : ∀ j k, (j = 0 → k ≠ 40) → (j < 20 ∨ 27 < j) → (j = 8 ∨ j = 9 → k ≠ γ 0 18) → γ' j k = γ j k) (h40 : 0 ≤ γ' 0 40 ∧ γ' 0 40 ≤ γ 0 5) (h9 : 0 ≤ γ' 9 (γ 0 18) ∧ γ' 9 (γ 0 18) + 2 * γ 19 (γ 7 (γ 0 18)) ≤ 2 * γ' 0 40) (h8 : 0 ≤ γ' 8 (γ 0 18) ∧ γ' 8 (γ 0 18) + γ 19 (γ 7 (γ 0 18)) ≤ γ' 0 40) : PxI γ' := by
  have ⟨a1, a2, a3, a4, a5⟩ := h
  have e18 := e 0 18 (by omega) (by omega) (by omega)
  refine ⟨a1.fr (fun k q => e 0 k (fun _ => q) (by omega) (by omega)) (fun j q k => e j k (by omega) (by omega) (by omega)), ?_, by rw [e 0 5 (by omega) (by omega) (by omega)]; exact h40, by rw [e18, e 7 _ (by omega) (by omega) (by omega), e 19 _ (by omega) (by omega) (by omega)]; exact h9, by rw [e18, e 7 _ (by omega) (by omega) (by omega), e 19 _ (by omega) (by omega) (by omega)]; exact ⟨h8.1, a5.2.1, h8.2⟩⟩
  rw [e18]
  intro v q1 q2
  rw [e 2 v (by omega) (by omega) (by omega), e 3 v (by omega) (by omega) (by omega)]
  exact a2 v q1 q2
theorem XS.app {γ0 γ1 γ2 : St} {ks : List Int} {a b : Int} (h : XS γ0 γ1 (ks ++ [a])) (g : XS γ1 γ2 [b]) : XS γ0 (setA γ2 23 a b) (ks ++ [a] ++ [b]) := by
  have ⟨⟨a1, a2, a3, a4⟩, ⟨b1, b2⟩, c, ⟨d1, d2⟩, ⟨f1, f2⟩⟩ := h
  have ⟨⟨a1', a2', a3', a4'⟩, ⟨b1', b2'⟩, c', ⟨d1', d2'⟩, ⟨f1', f2'⟩⟩ := g
  have la := b2.last
  have mb := b2'.mem b List.mem_cons_self
  have ma := b2.mem a (List.mem_append_right _ List.mem_cons_self)
  have n0 := a1.2.2.1
  have s0 : ∀ j k, (j = 23 → k ≠ a) → setA γ2 23 a b j k = γ2 j k := fun j k q => by rw [stA, if_neg (by omega)]
  have e18 : γ1 0 18 = γ0 0 18 := a2.1 0 18 (by omega) (by omega) (by omega)
  have e18' : γ2 0 18 = γ1 0 18 := a2'.1 0 18 (by omega) (by omega) (by omega)
  have e19 : γ1 0 19 = γ0 0 19 := a2.1 0 19 (by omega) (by omega) (by omega)
  have e4 : ∀ k, γ1 4 k = γ0 4 k := fun k => a2.1 4 k (by omega) (by omega) (by omega)
  have old : ∀ (j : Nat) k, 20 ≤ j → j ≤ 27 → k < γ1 0 40 → γ2 j k = γ1 j k := fun j k q1 q2 q3 => a2'.1 j k (by omega) (fun _ _ => q3) (by omega)
  rw [e18, e19, e4] at c'
  rw [e18] at a2' d1' d2' f1' f2'
  have s40 := s0 0 40 (by omega)
  refine ⟨⟨?_, ?_, by rw [s40]; omega, by rw [s40, s0 0 5 (by omega)]; omega⟩, ⟨?_, ?_⟩, ?_, ?_, ?_⟩
  · refine a1'.fr (fun j k q1 q2 q3 => s0 j k (by omega)) (by rw [s40]; exact a1'.2.2.1) (by rw [s40, s0 9 _ (by omega)]; exact a1'.2.2.2.1) (by rw [s40, s0 8 _ (by omega)]; exact ⟨a1'.2.2.2.2.1, a1'.2.2.2.2.2.2⟩)
  · refine ⟨?_, fun b => (a2'.2 (a2.2 b)).fr (fun k => s0 25 k (by omega))⟩
    intro j k q1 q2 q3
    rw [s0 j k (fun r => by have := q2 (by omega) (by omega); omega), a2'.1 j k q1 (fun r1 r2 => by have := q2 r1 r2; omega) q3]
    exact a2.1 j k q1 q2 q3
  · rw [head_app]
    refine Ch.app (by omega) (by rw [stA, if_pos ⟨rfl, rfl⟩]) (by rw [s0 23 b (by omega)]; exact b1'.2.2) b1 (fun y hy => ?_)
    have := la.2 y hy
    rw [s0 23 y (by omega), old 23 y (by omega) (by omega) (by omega)]
  · rw [s40]
    refine Sg.app (b2.agree (fun y hy => ?_)) (b2'.agree (fun y hy => s0 26 y (by omega)))
    have := b2.mem y hy
    rw [s0 26 y (by omega), old 26 y (by omega) (by omega) (by omega)]
  · rw [s40]
    intro e q1 q2
    by_cases q : e < γ1 0 40
    · refine (c e q1 q).fr (Int.le_refl _) (fun k r1 r2 => ?_) (fun j r1 r2 r3 r4 r5 k r6 r7 => ?_)
      · rw [s0 23 k (by omega), old 23 k (by omega) (by omega) (by omega)]
      · rw [s0 j k (by omega), old j k r1 r2 (by omega)]
    · exact (c' e (by omega) q2).fr a3 (fun k r1 r2 => s0 23 k (by omega)) (fun j r1 r2 r3 r4 r5 k r6 r7 => s0 j k (by omega))
  · rw [s40, s0 9 _ (by omega)]
    refine ⟨by omega, Odr.app (d2.fr (fun k r1 r2 => ?_) (fun k r1 r2 => ?_)) (d2'.fr (fun k r1 r2 => s0 20 k (by omega)) (fun k r1 r2 => s0 25 k (by omega))) d1 d1' a3⟩
    · rw [s0 20 k (by omega), old 20 k (by omega) (by omega) (by omega)]
    · rw [s0 25 k (by omega), old 25 k (by omega) (by omega) (by omega)]
  · rw [s40, s0 8 _ (by omega)]
    refine ⟨by omega, Odr.app (f2.fr (fun k r1 r2 => ?_) (fun k r1 r2 => ?_)) (f2'.fr (fun k r1 r2 => s0 20 k (by omega)) (fun k r1 r2 => s0 25 k (by omega))) f1 f1' a3⟩
    · rw [s0 20 k (by omega), old 20 k (by omega) (by omega) (by omega)]
    · rw [s0 25 k (by omega), old 25 k (by omega) (by omega) (by omega)]
theorem Odr.one {γ : St} {f : Int → Int} {n c c1 : Int} (h : 0 < f (γ 20 n) → γ 25 n = c) (h1 : c1 = c + f (γ 20 n)) : Odr γ f n (n + 1) c c1 := fun e a b q => by
  have e1 : e = n := by omega
  subst e1
  have := h q
  exact ⟨by omega, by omega, fun e' a' b' => by omega⟩
/-- a part over the roots -/
theorem XS.mk {γ0 γ γ' : St} {ks : List Int} {a0 a1 : Int} (h : XS γ0 γ ks) (fr : ∀ j k, (j = 0 → k ≠ 40) → (20 ≤ j → j ≤ 27 → k ≠ γ 0 40) → (j = 8 ∨ j = 9 → k ≠ γ 0 18) → γ' j k = γ j k) (c40 : γ' 0 40 = γ 0 40 + 1) (c20 : γ' 20 (γ 0 40) = a0) (c21 : γ' 21 (γ 0 40) = a1) (c22 : γ' 22 (γ 0 40) = ks.headD (-1)) (c23 : γ' 23 (γ 0 40) = -1) (c26 : γ' 26 (γ 0 40) = γ 0 40 + 1 - γ0 0 40) (c27 : γ' 27 (γ 0 40) = hMx (γ 27) ks) (cH : hMx (γ 27) ks ≤ 200) (c9 : γ' 9 (γ 0 18) = γ 9 (γ 0 18) + stw a0) (c8 : γ' 8 (γ 0 18) = γ 8 (γ 0 18) + clw a0) (s9 : 0 < stw a0 → γ' 25 (γ 0 40) = γ 9 (γ 0 18)) (s8 : 0 < clw a0 → γ' 25 (γ 0 40) = γ 8 (γ 0 18)) (ar : aryK a0 ks.length) (wh : whK (γ0 0 19 - γ0 4 (γ0 0 18)) (γ0 0 18) a0 a1) (sl : γ0 0 5 - γ0 0 40 + 1 ≤ γ 0 5 - γ 0 40) (p0 : 0 ≤ γ0 0 40 ∧ γ0 0 40 ≤ γ0 0 5) (c25 : γ' 25 (γ 0 40) = γ 25 (γ 0 40) ∨ 0 ≤ γ' 25 (γ 0 40) ∧ γ' 25 (γ 0 40) ≤ 100000) : XS γ0 γ' [γ 0 40] := by
  have ⟨⟨b1, b2, b3, b4⟩, ⟨h1, h2⟩, c, ⟨d1, d2⟩, ⟨f1, f2⟩⟩ := h
  have e18 : γ 0 18 = γ0 0 18 := b2.1 0 18 (by omega) (by omega) (by omega)
  have w9 := stw_b a0
  have w8 := clw_b a0
  have n0 := b1.2.2.1
  have n9 := b1.2.2.2.1
  have n8 := b1.2.2.2.2
  have m := h2.mem
  have hb : 1 ≤ hMx (γ 27) ks := (hMx_b (fun y hy => by obtain ⟨_, _, _, _, _, _, _, k⟩ := c y (m y hy).1 (m y hy).2; exact k)).1
  refine ⟨⟨?_, ?_, by omega, by rw [c40, fr 0 5 (by omega) (by omega) (by omega)]; omega⟩, ⟨?_, ?_⟩, ?_, ?_, ?_⟩
  · exact b1.fr (fun j k q1 q2 q3 => fr j k q1 (by omega) q3) (by omega) (by omega) (by omega)
  · refine ⟨?_, fun b e => ?_⟩
    · intro j k q1 q2 q3
      rw [fr j k (by omega) (fun r1 r2 => by have := q2 r1 r2; omega) (by rw [e18]; exact q3)]
      exact b2.1 j k q1 q2 q3
    · have t := b2.2 b e
      by_cases q : e = γ 0 40
      · rw [q] at t ⊢
        rcases c25 with c | c <;> omega
      · rw [fr 25 e (by omega) (fun _ _ => q) (by omega)]; exact t
  · exact ⟨rfl, by omega, c23⟩
  · exact ⟨b3, c26, by rw [c40]; rfl⟩
  · rw [c40]
    intro e q1 q2
    by_cases q : e < γ 0 40
    · exact (c e q1 q).fr (Int.le_refl _) (fun k r1 r2 => fr 23 k (by omega) (by omega) (by omega)) (fun j r1 r2 r3 r4 r5 k r6 r7 => fr j k (by omega) (by omega) (by omega))
    · have e1 : e = γ 0 40 := by omega
      subst e1
      refine ⟨ks, ?_, ?_, by rw [c26]; omega, by rw [c20]; exact ar, by rw [c20, c21]; exact wh, ?_, by rw [c27]; omega⟩
      · rw [c22]; exact h1.agree (fun y hy => fr 23 y (by omega) (by have := m y hy; omega) (by omega))
      · rw [c26, show γ 0 40 + 1 - (γ 0 40 + 1 - γ0 0 40) = γ0 0 40 by omega]
        exact h2.agree (fun y hy => fr 26 y (by omega) (by have := m y hy; omega) (by omega))
      · rw [c27]
        exact (hMx_agree (fun y hy => fr 27 y (by omega) (by have := m y hy; omega) (by omega))).symm
  · rw [e18] at c9 s9
    rw [c9, c40]
    refine ⟨by omega, Odr.app (d2.fr (fun k r1 r2 => fr 20 k (by omega) (by omega) (by omega)) (fun k r1 r2 => fr 25 k (by omega) (by omega) (by omega))) (Odr.one (by rw [c20]; exact s9) (by rw [c20])) d1 (by omega) b3⟩
  · rw [e18] at c8 s8
    rw [c8, c40]
    refine ⟨by omega, Odr.app (f2.fr (fun k r1 r2 => fr 20 k (by omega) (by omega) (by omega)) (fun k r1 r2 => fr 25 k (by omega) (by omega) (by omega))) (Odr.one (by rw [c20]; exact s8) (by rw [c20])) f1 (by omega) b3⟩
/-- what a parse answers: throws, or a root -/
def Xo (γ0 : St) (z : Res) : Prop := Fx (γ0 0 40) (γ0 0 18) γ0 z.2 ∧ ∀ r, z.1 = .inr r → XS γ0 z.2 [r]
theorem Xo.er {γ0 γ : St} {e : Int × Int} (h : Fx (γ0 0 40) (γ0 0 18) γ0 γ) : Xo γ0 (.inl e, γ) := ⟨h, fun r q => by cases q⟩
theorem Xo.ok {γ0 γ : St} {r : Int} (h : XS γ0 γ [r]) : Xo γ0 (.inr r, γ) := ⟨h.1.2.1, fun r' e => by cases e; exact h⟩
theorem XS.lx {γ0 γ : St} {ks : List Int} (h : XS γ0 γ ks) : LX γ := h.1.1.1.1
theorem XS.fx {γ0 γ : St} {ks : List Int} (h : XS γ0 γ ks) : Fx (γ0 0 40) (γ0 0 18) γ0 γ := h.1.2.1
theorem Fx.tr {γ0 γ γ' : St} {ks : List Int} (h : XS γ0 γ ks) (g : Fx (γ 0 40) (γ 0 18) γ γ') : Fx (γ0 0 40) (γ0 0 18) γ0 γ' := by
  refine ⟨fun j k q1 q2 q3 => ?_, fun b => g.2 (h.1.2.1.2 b)⟩
  have e18 : γ 0 18 = γ0 0 18 := h.1.2.1.1 0 18 (by omega) (by omega) (by omega)
  have := h.1.2.2.1
  rw [g.1 j k q1 (fun r1 r2 => by have := q2 r1 r2; omega) (by rw [e18]; exact q3)]
  exact h.1.2.1.1 j k q1 q2 q3
theorem head_ch {b : Int → Int} {ks : List Int} {x : Int} (h : Ch b x ks) : x = ks.headD (-1) := by
  cases ks with
  | nil => exact h
  | cons y t => exact h.1
/-- and the new part is the last -/
def XoM (γ0 γ : St) (z : Res) : Prop := Xo γ0 z ∧ ∀ r, z.1 = .inr r → r = γ 0 40 ∧ z.2 0 40 = γ 0 40 + 1 ∧ z.2 0 5 = γ 0 5
theorem w_mk {γ0 γ : St} {ks : List Int} {a0 a1 : Int} (h : XS γ0 γ ks) (n3 : clw a0 = 0) (ar : aryK a0 ks.length) (wh : whK (γ0 0 19 - γ0 4 (γ0 0 18)) (γ0 0 18) a0 a1) (sl : γ0 0 5 - γ0 0 40 + 1 ≤ γ 0 5 - γ 0 40) (p0 : 0 ≤ γ0 0 40 ∧ γ0 0 40 ≤ γ0 0 5) : wp (f_M_make γ a0 a1 (ks.headD (-1)) 1) (XoM γ0 γ) := by
  have ⟨⟨b1, b2, b3, b4⟩, ⟨h1, h2⟩, c, ⟨d1, d2⟩, ⟨f1, f2⟩⟩ := h
  have ⟨k1, k2, k3, k4, k5⟩ := b1
  have lx := k1.1
  have m := h2.mem
  have x1 := lx.1
  have x5 := lx.2.1
  refine wp_mono (w_make (a0 := a0) (a1 := a1) lx (by omega) k1.2.1 (by omega) p0.1 h1 h2 (fun y hy => by obtain ⟨_, _, _, _, _, _, _, k⟩ := c y (m y hy).1 (m y hy).2; exact k)) (fun z hz => ?_)
  rcases hz with ⟨hH, γ', e, fr, c40, c20, c21, c22, c23, c24, c26, c27, c9, s9, s25⟩ | ⟨_, γ', e, fr⟩
  · rw [e]
    refine ⟨Xo.ok (h.mk (fun j k q1 q2 q3 => fr j k q1 q2 (by omega)) c40 c20 c21 c22 c23 c26 c27 hH c9 ?_ s9 (fun q => by omega) ar wh sl p0 ?_), fun r e => ?_⟩
    · rw [fr 8 _ (by omega) (by omega) (by omega)]; omega
    · have sb := stw_b a0
      by_cases q : 0 < stw a0
      · exact Or.inr (by rw [s9 q]; omega)
      · exact Or.inl (s25 (by omega))
    · cases e; exact ⟨rfl, c40, fr 0 5 (by omega) (by omega) (by omega)⟩
  · rw [e]
    refine ⟨Xo.er ⟨fun j k q1 q2 q3 => ?_, fun b => (b2.2 b).fr (fun k => fr 25 k (by omega) (by omega))⟩, fun r e => by cases e⟩
    rw [fr j k q1 (fun r1 r2 _ => by have := q2 r1 r2; omega)]
    exact b2.1 j k q1 q2 q3
/-- two roots under one sign -/
theorem w_two {γ0 γ1 γ2 : St} {a b k : Int} (h : XS γ0 γ1 [a]) (g : XS γ1 γ2 [b]) (hk : 5 ≤ k ∧ k ≤ 21) (sl : γ0 0 5 - γ0 0 40 + 1 ≤ γ2 0 5 - γ2 0 40) (p0 : 0 ≤ γ0 0 40 ∧ γ0 0 40 ≤ γ0 0 5) : wp (f_M_two γ2 k a b) (XoM γ0 γ2) := by
  have ma := h.2.1.2.mem a List.mem_cons_self
  have n40 := g.1.1.2.2.1
  have lx := g.lx
  have x1 := lx.1
  have x5 := lx.2.1
  have b3 := g.1.2.2.1
  have x := XS.app (ks := []) h g
  unfold f_M_two
  refine wp_chk (by omega) (wp_sub ?_)
  have s0 : ∀ j q, j ≠ 23 → setA γ2 23 a b j q = γ2 j q := fun j q r => by rw [stA, if_neg (by omega)]
  have w := w_mk (a0 := k) (a1 := 0) x (by unfold clw; rw [if_neg (by omega)]) ⟨fun q => by omega, fun q => by omega, fun q => by omega, fun q => rfl, fun q => by omega⟩ ⟨by omega, fun q => by omega, fun q => by omega, fun q => by omega⟩ (by rw [s0 0 5 (by omega), s0 0 40 (by omega)]; exact sl) p0
  refine wp_bndT w (fun e γ' q => ⟨q.1, fun r e => by cases e⟩) (fun r γ' q => wp_some ⟨q.1, fun r' e => ?_⟩)
  have t := q.2 r' e
  rw [s0 0 40 (by omega), s0 0 5 (by omega)] at t
  exact t
