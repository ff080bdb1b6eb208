/-! the reference's instances: their parts and cells lie apart -/
def pN (D : St) (f : Int) : Int := peN D f - psN D f
/-- places for the parts of the instances from x on, from p0 on -/
def PpI (D δ : St) (x : Int) (P : Int → Int) : Prop := (∀ y y', x ≤ y → y < y' → y' < δ 0 50 → P y + pN D (δ 35 y) ≤ P y' ∧ (δ 39 y + D 9 (δ 35 y) ≤ δ 39 y' ∧ δ 38 y + nvN D (δ 35 y) ≤ δ 38 y') ∧ (δ 36 y = δ 36 y' → δ 37 y ≠ δ 37 y'))
def PpB (D δ : St) (n : Int) (z : Res) : Prop := ∀ r, z.1 = .inr r → ∀ p0, ∃ P : Int → Int, PpI D z.2 (δ 0 50) P ∧ ∀ y, δ 0 50 ≤ y → y < z.2 0 50 → (p0 ≤ P y ∧ P y + pN D (z.2 35 y) ≤ p0 + D 34 n) ∧ δ 0 52 ≤ z.2 39 y ∧ z.2 39 y + D 9 (z.2 35 y) ≤ z.2 0 52 ∧ δ 0 51 ≤ z.2 38 y ∧ z.2 38 y + nvN D (z.2 35 y) ≤ z.2 0 51
/-- while an instance of n is put in -/
def PpM (D δe : St) (n e : Int) (m : Nat) (δ : St) : Prop := ∀ p0, ∃ P : Int → Int, PpI D δ (δe 0 50) P ∧ P (δe 0 50) = p0 ∧ ∀ y, δe 0 50 ≤ y → y < δ 0 50 → (p0 ≤ P y ∧ P y + pN D (δ 35 y) ≤ p0 + pN D n + sumC D (psN D n) m) ∧ ((δe 0 52 ≤ δ 39 y ∧ δ 39 y + D 9 (δ 35 y) ≤ δ 0 52) ∧ δe 0 51 ≤ δ 38 y ∧ δ 38 y + nvN D (δ 35 y) ≤ δ 0 51) ∧ (δe 0 50 < y → δe 0 50 ≤ δ 36 y ∧ (δ 36 y = δe 0 50 → δ 37 y < e))
theorem PpM.eq {D δe δ δ' : St} {n e e' : Int} {m m' : Nat} (h : PpM D δe n e m δ) (f : ∀ j i, 35 ≤ j → j ≤ 40 → δ' j i = δ j i) (f0 : ∀ i, i ≠ 53 → δ' 0 i = δ 0 i) (hs : sumC D (psN D n) m ≤ sumC D (psN D n) m') (he : e ≤ e') : PpM D δe n e' m' δ' := fun p0 => by
  obtain ⟨P, h1, h2, h3⟩ := h p0
  refine ⟨P, fun y y' q1 q2 q3 => ?_, h2, fun y q1 q2 => ?_⟩
  · rw [f0 50 (by omega)] at q3
    rw [f 35 y (by omega) (by omega), f 38 y (by omega) (by omega), f 38 y' (by omega) (by omega), f 39 y (by omega) (by omega), f 39 y' (by omega) (by omega), f 36 y (by omega) (by omega), f 36 y' (by omega) (by omega), f 37 y (by omega) (by omega), f 37 y' (by omega) (by omega)]
    exact h1 y y' q1 q2 q3
  · rw [f0 50 (by omega)] at q2
    rw [f 35 y (by omega) (by omega), f 38 y (by omega) (by omega), f0 51 (by omega), f 39 y (by omega) (by omega), f0 52 (by omega), f 36 y (by omega) (by omega), f 37 y (by omega) (by omega)]
    obtain ⟨g1, g2, g3⟩ := h3 y q1 q2
    exact ⟨by omega, g2, fun q => ⟨(g3 q).1, fun q4 => by have := (g3 q).2 q4; omega⟩⟩
theorem PpM.call {D δe δ δ1 δ2 : St} {n e e' : Int} {m m' : Nat} {g r : Int} (h : PpM D δe n e m δ) (x50 : δe 0 50 < δ 0 50) (k1 : FP δ δ1) (up : Up δ δ1) (b : PpB D δ g (.inr r, δ1)) (f : ∀ j i, j ≠ 41 → δ2 j i = δ1 j i) (hs : sumC D (psN D n) m' = sumC D (psN D n) m + D 34 g) (h34 : 0 ≤ D 34 g) (n0 : 0 ≤ pN D n) (s0 : 0 ≤ sumC D (psN D n) m) (u52 : δe 0 52 ≤ δ 0 52) (u51 : δe 0 51 ≤ δ 0 51) (he : e < e') (x36 : δ 36 (δe 0 50) < δe 0 50) (y36 : ∀ y, δe 0 50 < y → y < δ 0 50 → δ 36 y < y) (k36 : δ1 36 (δ 0 50) = δe 0 50 ∧ δ1 37 (δ 0 50) = e ∧ ∀ y, δ 0 50 < y → y < δ1 0 50 → δ 0 50 ≤ δ1 36 y) : PpM D δe n e' m' δ2 := fun p0 => by
  obtain ⟨P, h1, h2, h3⟩ := h p0
  obtain ⟨P', b1, b2⟩ := b r rfl (p0 + pN D n + sumC D (psN D n) m)
  have fo : ∀ j y, 35 ≤ j → j ≤ 40 → y < δ 0 50 → δ2 j y = δ j y := fun j y q1 q2 q3 => by rw [f j y (by omega)]; exact k1 j y (by omega) (by omega) (by omega) (by omega)
  have c50 : δ2 0 50 = δ1 0 50 := f 0 50 (by omega)
  have c52 : δ2 0 52 = δ1 0 52 := f 0 52 (by omega)
  have c51 : δ2 0 51 = δ1 0 51 := f 0 51 (by omega)
  have ⟨u0, u1, u2, u3, u4⟩ := up
  refine ⟨fun y => if y < δ 0 50 then P y else P' y, fun y y' q1 q2 q3 => ?_, ?_, fun y q1 q2 => ?_⟩
  · rw [c50] at q3
    show (if y < δ 0 50 then P y else P' y) + _ ≤ (if y' < δ 0 50 then P y' else P' y') ∧ _
    by_cases w1 : y' < δ 0 50
    · rw [if_pos (by omega), if_pos w1, fo 35 y (by omega) (by omega) (by omega), fo 38 y (by omega) (by omega) (by omega), fo 38 y' (by omega) (by omega) w1, fo 39 y (by omega) (by omega) (by omega), fo 39 y' (by omega) (by omega) w1, fo 36 y (by omega) (by omega) (by omega), fo 36 y' (by omega) (by omega) w1, fo 37 y (by omega) (by omega) (by omega), fo 37 y' (by omega) (by omega) w1]
      exact h1 y y' q1 q2 w1
    · rw [if_neg w1, f 38 y' (by omega), f 39 y' (by omega), f 36 y' (by omega), f 37 y' (by omega)]
      have b' := b2 y' (by omega) q3
      have b' : (p0 + pN D n + sumC D (psN D n) m ≤ P' y' ∧ P' y' + pN D (δ1 35 y') ≤ p0 + pN D n + sumC D (psN D n) m + D 34 g) ∧ δ 0 52 ≤ δ1 39 y' ∧ δ1 39 y' + D 9 (δ1 35 y') ≤ δ1 0 52 ∧ δ 0 51 ≤ δ1 38 y' ∧ δ1 38 y' + nvN D (δ1 35 y') ≤ δ1 0 51 := b'
      by_cases w2 : y < δ 0 50
      · rw [if_pos w2, fo 35 y (by omega) (by omega) w2, fo 38 y (by omega) (by omega) w2, fo 39 y (by omega) (by omega) w2, fo 36 y (by omega) (by omega) w2, fo 37 y (by omega) (by omega) w2]
        obtain ⟨g1, g2, g3⟩ := h3 y q1 w2
        refine ⟨by omega, by omega, fun q4 q5 => ?_⟩
        by_cases w3 : y' = δ 0 50
        · rw [w3, k36.1] at q4
          rw [w3, k36.2.1] at q5
          by_cases w4 : y = δe 0 50
          · rw [w4] at q4; omega
          · have := (g3 (by omega)).2 q4; omega
        · have w5 := k36.2.2 y' (by omega) q3
          by_cases w4 : y = δe 0 50
          · rw [w4] at q4; omega
          · have := y36 y (by omega) w2; omega
      · rw [if_neg w2, f 35 y (by omega), f 38 y (by omega), f 39 y (by omega), f 36 y (by omega), f 37 y (by omega)]
        exact b1 y y' (by omega) q2 q3
  · show (if _ then _ else _) = _
    rw [if_pos x50]; exact h2
  · rw [c50] at q2
    show (p0 ≤ (if y < δ 0 50 then P y else P' y) ∧ (if y < δ 0 50 then P y else P' y) + _ ≤ _) ∧ _
    rw [hs, c52, c51]
    by_cases w2 : y < δ 0 50
    · rw [if_pos w2, fo 35 y (by omega) (by omega) w2, fo 38 y (by omega) (by omega) w2, fo 39 y (by omega) (by omega) w2, fo 36 y (by omega) (by omega) w2, fo 37 y (by omega) (by omega) w2]
      obtain ⟨g1, g2, g3⟩ := h3 y q1 w2
      exact ⟨by omega, by omega, fun q => ⟨(g3 q).1, fun q4 => by have := (g3 q).2 q4; omega⟩⟩
    · rw [if_neg w2, f 35 y (by omega), f 38 y (by omega), f 39 y (by omega), f 36 y (by omega), f 37 y (by omega)]
      have b' : (p0 + pN D n + sumC D (psN D n) m ≤ P' y ∧ P' y + pN D (δ1 35 y) ≤ p0 + pN D n + sumC D (psN D n) m + D 34 g) ∧ δ 0 52 ≤ δ1 39 y ∧ δ1 39 y + D 9 (δ1 35 y) ≤ δ1 0 52 ∧ δ 0 51 ≤ δ1 38 y ∧ δ1 38 y + nvN D (δ1 35 y) ≤ δ1 0 51 := b2 y (by omega) q2
      refine ⟨by omega, by omega, fun q => ?_⟩
      by_cases w3 : y = δ 0 50
      · rw [w3, k36.1, k36.2.1]; omega
      · have := k36.2.2 y (by omega) q2
        omega
theorem pp_L232 {D γ0 : St} {n out call : Int} {E : Nat → St → Int → Int → Int → Option Res} (s : SN γ0 (γ0 0 18)) (fD : FT D γ0) (hn : NdS γ0 n) (n0 : 0 ≤ n ∧ n < γ0 0 18) (h59 : γ0 0 18 ≤ 59) (hR : PuR γ0 n) (hout : out < γ0 0 50) (hE : ∀ g, 0 ≤ g → g < n → PuS E g) (hP : ∀ g, 0 ≤ g → g < n → ∀ δ out call, FT D δ → SN δ (δ 0 18) → g < δ 0 18 → δ 0 18 ≤ 59 → PuR δ g → out < δ 0 50 → pc (E 0 δ g out call) (PpB D δ g)) {k : Int} (k1 : γ0 7 n ≤ k) (k2 : k < γ0 7 (n + 1)) {x363 : St → Int → Int → Int → Option Res} {Q : Res → Prop} (kt : ∀ er γ', Q (.inl er, γ')) (hx : ∀ γ', PuM γ0 n out call (γ0 17 k + 1) (γ0 17 k + 1 - psN γ0 n).toNat γ' → PpM D γ0 n (γ0 17 k + 1) (γ0 17 k + 1 - psN γ0 n).toNat γ' → pc (x363 γ' n (γ0 0 50) k) Q) : ∀ (f : Nat) (γ : St) (e : Int), PuM γ0 n out call e (e - psN γ0 n).toNat γ → PpM D γ0 n e (e - psN γ0 n).toNat γ → γ0 19 k ≤ e → e ≤ γ0 17 k + 1 → pc (f_M_putIn_L232 E x363 f γ n (γ0 0 50) k e) Q := by
  have sz := hn.sz
  have wt := hn.wt
  have eq := hn.eq k1 k2
  have ⟨r0, r1, r2, r3, r4⟩ := hR
  have nn : ∀ i, psN γ0 n ≤ i → i < psN γ0 n + ((peN γ0 n - psN γ0 n).toNat : Int) → γ0 20 i = 3 → 0 ≤ γ0 34 (γ0 21 i) := fun i q1 q2 q3 => by
    obtain ⟨ks, _, _, _, _, w, _⟩ := hn.pt q1 (by omega)
    have w3 := w.2.2.1 q3
    exact (s _ w3.1 (by omega)).wt.1.1
  have sD : ∀ m, sumC D (psN D n) m = sumC γ0 (psN γ0 n) m := fun m => by
    rw [fD.ps]
    exact (sumC_agree (γ := D) (γ' := γ0) (fun e _ _ => ⟨fD 20 e (by omega) (by omega), fD 21 e (by omega) (by omega), fun _ => fD 34 _ (by omega) (by omega)⟩)).symm
  intro f
  induction f with
  | zero => intro γ e _ _ _ _; exact pc_n
  | succ f ih =>
    intro γ e h1 hp1 h2 h3
    have ft := h1.1.ft
    have b290 : ∀ γ1, PuM γ0 n out call e (e + 1 - psN γ0 n).toNat γ1 → PpM D γ0 n (e + 1) (e + 1 - psN γ0 n).toNat γ1 → (γ0 20 e = 3 → IsC γ1 (γ0 0 50) e) → e ≤ γ0 17 k → pc (f_M_putIn_b290 E (f_M_putIn_L232 E x363 f) x363 γ1 n (γ0 0 50) k e) Q := fun γ1 g1 g2 g3 g4 => by
      rw [← bT_id (f_M_putIn_b290 _ _ _ _ _ _ _ _)]
      refine pc_pq (pq_b290 (fun δ' fd' f53 => ?_))
      rw [bT_id]
      have sb := stw_b (γ1 20 e)
      have c0 : ∀ i, i ≠ 53 → δ' 0 i = γ1 0 i := fun i q => fd' 0 i (by omega)
      have d0 := c0 50 (by omega)
      have d1 := c0 51 (by omega)
      have d2 := c0 52 (by omega)
      have d4 := c0 54 (by omega)
      have := ih δ' (e + 1) (g1.mem s (fun j i q1 _ _ _ => fd' j i (by omega)) ⟨by omega, by omega, by omega, by omega, by omega⟩ d0 d1 d2 d4 (by omega) rfl (by omega) (Int.le_refl _) g3 hn (by omega)) (g2.eq (fun j i q1 q2 => fd' j i (by omega)) c0 (Int.le_refl _) (Int.le_refl _)) (by omega) (by omega)
      exact fun _ z _ e2 => this z e2
    unfold f_M_putIn_L232
    rw [ft 17 k (by omega) (by omega)]
    refine pc_c (fun _ => pc_i (fun q => ?_) (fun q => ?_))
    · rw [show e = γ0 17 k + 1 by omega] at h1 hp1
      exact hx γ h1 hp1
    · have hp : e < peN γ0 n := by omega
      have h0 : psN γ0 n ≤ e := by omega
      have en : (e + 1 - psN γ0 n).toNat = (e - psN γ0 n).toNat + 1 := by omega
      have el : psN γ0 n + ((e - psN γ0 n).toNat : Int) = e := by omega
      have sst : sumC γ0 (psN γ0 n) (e + 1 - psN γ0 n).toNat = sumC γ0 (psN γ0 n) (e - psN γ0 n).toNat + if γ0 20 e = 3 then γ0 34 (γ0 21 e) else 0 := by
        rw [en]
        show _ + (if γ0 20 (psN γ0 n + ((e - psN γ0 n).toNat : Int)) = 3 then γ0 34 (γ0 21 (psN γ0 n + ((e - psN γ0 n).toNat : Int))) else 0) = _
        rw [el]
      have le := sumC_le (m := (e + 1 - psN γ0 n).toNat) (k := (peN γ0 n - psN γ0 n).toNat) (by omega) nn
      have sn0 : 0 ≤ sumC γ0 (psN γ0 n) (e - psN γ0 n).toNat := sumC_le (m := 0) (k := (e - psN γ0 n).toNat) (by omega) (fun i q1 q2 => nn i q1 (by omega))
      have mw := wt.2 (by omega)
      have h1' := h1
      have ⟨p1, p2, p3, p4, p5, p6, p7, ⟨a1, a2, a3, a4, a5, a6⟩, p9, p10, p11, p12⟩ := h1'
      have ⟨v0, v1, v2, v3, v4⟩ := p2
      rw [ft 20 e (by omega) (by omega), ft 21 e (by omega) (by omega), a6, ft 25 e (by omega) (by omega)]
      refine pc_c (fun _ => pc_i (fun q2 => ?_) (fun q2 => ?_))
      · rw [if_neg q2] at sst
        refine b290 γ ?_ (hp1.eq (fun _ _ _ _ => rfl) (fun _ _ => rfl) (by rw [sD, sD]; omega) (by omega)) (fun q => absurd q q2) (by omega)
        have ⟨g1, g2, g3, g4, g5, g6, g7, g8⟩ := h1
        exact ⟨g1, g2, by omega, g4, by omega, by omega, by omega, g8⟩
      · have c3 : γ0 20 e = 3 := by omega
        rw [if_pos c3] at sst
        obtain ⟨ks, _, _, _, _, w, _⟩ := hn.pt h0 hp
        have w3 := w.2.2.1 c3
        have e18 := ft 0 18 (by omega) (by omega)
        have g34 := ft 34 (γ0 21 e) (by omega) (by omega)
        have wg := (s _ w3.1 (by omega)).wt.1
        refine pc_c (fun _ => pc_c (fun _ => pc_c (fun _ => pc_c (fun _ => ?_))))
        have pr : PuR γ (γ0 21 e) := by unfold PuR; rw [g34]; omega
        have sg : SN γ (γ 0 18) := fun x q1 q2 => ft.ns (s x q1 (by omega))
        have ha := (hE _ w3.1 w3.2 γ (γ0 0 50) e sg (by omega) (by omega) pr).pc
        have hb := hP _ w3.1 w3.2 γ (γ0 0 50) e (fD.tr ft) sg (by omega) (by omega) pr (by omega)
        intro z e2
        match hm : E 0 γ (γ0 21 e) (γ0 0 50) e with
        | none => rw [hm] at e2; exact absurd e2 (by intro h; cases h)
        | some (.inl er, δ1) =>
          rw [hm] at e2
          have e2 : some ((.inl er, δ1) : Res) = some z := e2
          cases e2
          exact kt er δ1
        | some (.inr r, δ1) =>
          rw [hm] at e2
          have pk : PuK γ (γ0 21 e) (γ0 0 50) e r δ1 := (ha _ hm).2 r rfl
          have pb : PpB D γ (γ0 21 e) (.inr r, δ1) := hb _ hm
          have cc := h1.call s hn h0 hp c3 rfl pk sst rfl
          have d34 : D 34 (γ0 21 e) = γ0 34 (γ0 21 e) := (fD 34 _ (by omega) (by omega)).symm
          have pn0 : 0 ≤ pN D n := by unfold pN; rw [← fD.pe, ← fD.ps]; omega
          have b := b290 (setA δ1 41 (γ0 0 54 + γ0 25 e) r) cc.1 (hp1.call (by omega) pk.2.1 pk.2.2.1 pb (fun j i q => by rw [stA, if_neg (by omega)]) (by rw [sD, sD, d34]; exact sst) (by rw [d34]; omega) pn0 (by rw [sD]; exact sn0) (by omega) (by omega) (by omega) (by rw [a2]; exact hout) (fun y q1 q2 => ((p10 y q1 q2).2.2.1 q1).1.2) ⟨by rw [← pk.1]; exact pk.2.2.2.2.1.2.1, by rw [← pk.1]; exact pk.2.2.2.2.1.2.2.1, fun y q1 q2 => by have := ((pk.2.2.2.2.2.1 y (by rw [pk.1]; omega) q2).2.2.1 (by rw [pk.1]; omega)).1.1; rw [pk.1] at this; exact this⟩) (fun _ => cc.2) (by omega)
          have pcc : pc (bndT (some ((.inr r, δ1) : Res)) fun r83 γ84 => chk (inb (γ0 0 54 + γ0 25 e) 3200) (ap (setA γ84 41 (γ0 0 54 + γ0 25 e) r83) fun γ85 => f_M_putIn_b290 E (f_M_putIn_L232 E x363 f) x363 γ85 n (γ0 0 50) k e)) Q := pc_c (fun _ => pc_a b)
          exact pcc z e2
theorem pp_L210 {D γ0 : St} {n out call : Int} {E : Nat → St → Int → Int → Int → Option Res} (s : SN γ0 (γ0 0 18)) (fD : FT D γ0) (hn : NdS γ0 n) (n0 : 0 ≤ n ∧ n < γ0 0 18) (h59 : γ0 0 18 ≤ 59) (hR : PuR γ0 n) (hout : out < γ0 0 50) (hE : ∀ g, 0 ≤ g → g < n → PuS E g) (hP : ∀ g, 0 ≤ g → g < n → ∀ δ out call, FT D δ → SN δ (δ 0 18) → g < δ 0 18 → δ 0 18 ≤ 59 → PuR δ g → out < δ 0 50 → pc (E 0 δ g out call) (PpB D δ g)) : ∀ (f : Nat) (γ : St) (k t : Int), PuM γ0 n out call t (t - psN γ0 n).toNat γ → PpM D γ0 n t (t - psN γ0 n).toNat γ → γ0 7 n ≤ k → k ≤ γ0 7 (n + 1) → (k < γ0 7 (n + 1) → γ0 19 k = t) → (k = γ0 7 (n + 1) → t = peN γ0 n) → pc (f_M_putIn_L210 E f γ n (γ0 0 50) k) (PpB D γ0 n) := by
  have sz := hn.sz
  have wt := hn.wt
  have ⟨r0, r1, r2, r3, r4⟩ := hR
  intro f
  induction f with
  | zero => intro γ k t _ _ _ _ _ _; exact pc_n
  | succ f ih =>
    intro γ k t h1 hp1 h2 h3 h4 h5
    have ft := h1.1.ft
    unfold f_M_putIn_L210
    rw [ft 7 _ (by omega) (by omega), ft 19 _ (by omega) (by omega)]
    refine pc_c (fun _ => pc_c (fun _ => pc_i (fun q => pc_s ?_) (fun q => ?_)))
    · have ek : k = γ0 7 (n + 1) := by omega
      rw [h5 ek] at hp1
      intro r _ p0
      obtain ⟨P, g1, g2, g3⟩ := hp1 p0
      have mw := wt.2 (by omega)
      have sD : sumC D (psN D n) (peN γ0 n - psN γ0 n).toNat = sumC γ0 (psN γ0 n) (peN γ0 n - psN γ0 n).toNat := by
        rw [fD.ps]
        exact (sumC_agree (γ := D) (γ' := γ0) (fun e _ _ => ⟨fD 20 e (by omega) (by omega), fD 21 e (by omega) (by omega), fun _ => fD 34 _ (by omega) (by omega)⟩)).symm
      have d34 : D 34 n = γ0 34 n := (fD 34 _ (by omega) (by omega)).symm
      have pn : pN D n = peN γ0 n - psN γ0 n := by unfold pN; rw [fD.pe, fD.ps]
      refine ⟨P, g1, fun y q1 q2 => ?_⟩
      have := g3 y q1 q2
      obtain ⟨this, t2, _⟩ := this
      rw [sD, pn] at this
      show (p0 ≤ P y ∧ P y + pN D (γ 35 y) ≤ p0 + D 34 n) ∧ γ0 0 52 ≤ γ 39 y ∧ γ 39 y + D 9 (γ 35 y) ≤ γ 0 52 ∧ γ0 0 51 ≤ γ 38 y ∧ γ 38 y + nvN D (γ 35 y) ≤ γ 0 51
      rw [d34]
      omega
    · have k3 : k < γ0 7 (n + 1) := by omega
      have eq := hn.eq h2 k3
      have et := h4 k3
      refine pc_c (fun _ => pc_a (pp_L232 s fD hn n0 h59 hR hout hE hP h2 k3 (fun er γ' r q => by cases q) (fun γ' h' hp' => ?_) FU γ _ (by rw [et]; exact h1) (by rw [et]; exact hp1) (Int.le_refl _) (by omega)))
      unfold f_M_putIn_b363
      exact pc_c (fun _ => ih γ' (k + 1) (γ0 17 k + 1) h' hp' (by omega) (by omega) (fun q2 => eq.2.2.2.2.2.2.1 q2) (fun q2 => eq.2.2.2.2.2.2.2 q2))
theorem pp_MP {D : St} : ∀ (M : Nat) (n : Int), 0 ≤ n → n < M → ∀ δ out call, FT D δ → SN δ (δ 0 18) → n < δ 0 18 → δ 0 18 ≤ 59 → PuR δ n → out < δ 0 50 → pc (MP M 0 δ n out call) (PpB D δ n)
  | 0, n, h0, h1, _, _, _, _, _, _, _, _, _ => by exfalso; omega
  | M + 1, n, h0, h1, δ, out, call, f, s, h2, h3, hR, ho => by
    show pc (if (0 : Nat) = 0 then f_M_putIn (MP M) δ n out call else none) _
    rw [if_pos rfl, ← bT_id (f_M_putIn (MP M) δ n out call)]
    have hn := s n h0 h2
    have sz := hn.sz
    have ⟨r0, r1, r2, r3, r4⟩ := hR
    have nv : nvN δ n = δ 4 (n + 1) - δ 4 n := rfl
    refine pc_pq (pq_putIn (by omega) r1.1 (fun q γ' g => pq_some (fun r q2 => by cases q2)) (fun hA δ1 pv => ?_))
    rw [bT_id]
    have pm := pv.pm hn hR hA
    have ⟨p1, ⟨c0, c1, c2, c3, c4⟩, p3, p4⟩ := pv
    have f1 := p1.ft
    have z : sumC D (psN D n) (psN δ n - psN δ n).toNat = 0 := by rw [show (psN δ n - psN δ n).toNat = 0 by omega]; rfl
    have d9 : D 9 n = δ 9 n := (f 9 n (by omega) (by omega)).symm
    have ppm : PpM D δ n (psN δ n) (psN δ n - psN δ n).toNat δ1 := fun p0 => ⟨fun _ => p0, fun y y' q1 q2 q3 => by omega, rfl, fun y q1 q2 => by
      have ey : y = δ 0 50 := by omega
      rw [ey, p3.1, p3.2.2.2.2.1, p3.2.2.2.1, z, d9, ← f.nv n]
      refine ⟨?_, by omega, fun q => by omega⟩
      show p0 ≤ p0 ∧ p0 + pN D n ≤ p0 + pN D n + 0
      omega⟩
    have h := pp_L210 (D := D) (E := MP M) s f hn ⟨h0, h2⟩ h3 hR ho (fun g q1 q2 γ' o c s' q3 q4 r' => MP_w M g q1 (by omega) γ' o c s' q3 q4 r') (fun g q1 q2 δ' o c f' s' q3 q4 r' ho' => pp_MP M g q1 (by omega) δ' o c f' s' q3 q4 r' ho') FU δ1 (δ 7 n) (psN δ n) pm ppm (Int.le_refl _) (by omega) (fun _ => rfl) (fun q => by omega)
    have h' : pc (f_M_putIn_b202 (MP M) δ1 n (δ 0 50)) (PpB D δ n) := by
      unfold f_M_putIn_b202
      rw [f1 7 n (by omega) (by omega)]
      exact pc_c (fun _ => pc_a h)
    exact fun _ z _ e => h' z e
