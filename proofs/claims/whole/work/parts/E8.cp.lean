/-! equality: what the nodes weigh -/
theorem c2_L51 {γ0 : St} {n v0 v1 a b l0 l P0 P : Int} (X : NdX γ0 n v0 v1 a b l0 l P0 P) (h34 : ∀ g, 0 ≤ g → g < n → 0 ≤ γ0 34 g ∧ γ0 34 g ≤ 100000) {k : Int} {x100 : St → Int → Int → Int → Option (Int × St)} {Q : Int × St → Prop} (hk : a ≤ k ∧ k < b) (hs : P0 ≤ γ0 19 k) : ∀ (f : Nat) (w e : Int), γ0 19 k ≤ e → e ≤ γ0 17 k + 1 → w = min 100000 ((k + 1 - a) + (γ0 17 k + 1 - P0) + sumC γ0 P0 (e - P0).toNat) → (pc (x100 γ0 n (min 100000 ((k + 1 - a) + (γ0 17 k + 1 - P0) + sumC γ0 P0 (γ0 17 k + 1 - P0).toNat)) k) Q) → pc (f_M_countParts_L51 x100 f γ0 n w k e) Q := by
  have ⟨x1, x2, x3, x4, x5, x6, x7, x8, x9, x10, x11, x12, x13, x14, x15⟩ := X.1
  have er := x4.1 k hk.1 hk.2
  intro f
  induction f with
  | zero => intro w e h1 h2 h4 _; exact fun _ e => absurd e (by intro h; cases h)
  | succ f ih =>
    intro w e h1 h2 h4 hx
    have e2 := er.2.2
    unfold f_M_countParts_L51
    refine pc_c (fun _ => ?_)
    by_cases q : γ0 17 k < e
    · rw [if_pos q, h4, show e = γ0 17 k + 1 by omega]
      exact hx
    · rw [if_neg q]
      obtain ⟨ks, c1, c2, c3, c4, c5, _⟩ := er.1.2.2.2.2.1 e h1 (by omega)
      have en : (e + 1 - P0).toNat = (e - P0).toNat + 1 := by omega
      have el : P0 + ((e - P0).toNat : Int) = e := by omega
      have st : sumC γ0 P0 (e + 1 - P0).toNat = sumC γ0 P0 (e - P0).toNat + if γ0 20 e = 3 then γ0 34 (γ0 21 e) else 0 := by
        rw [en]
        show _ + (if γ0 20 (P0 + ((e - P0).toNat : Int)) = 3 then γ0 34 (γ0 21 (P0 + ((e - P0).toNat : Int))) else 0) = _
        rw [el]
      unfold f_M_countParts_b94
      refine pc_c (fun _ => ?_)
      by_cases q2 : γ0 20 e ≠ 3
      · rw [if_pos q2]
        rw [if_neg q2] at st
        exact pc_c (fun _ => ih w (e + 1) (by omega) (by omega) (by omega) hx)
      · rw [if_neg q2]
        have w3 := c5.2.2.1 (by omega)
        have g := h34 _ w3.1 w3.2
        rw [if_pos (by omega)] at st
        refine pc_c (fun _ => pc_c (fun _ => pc_c (fun _ => pc_c (fun _ => ih _ (e + 1) (by omega) (by omega) ?_ hx))))
        omega
theorem c2_L9 {γ0 : St} {n v0 v1 a b l0 l P0 P : Int} (X : NdX γ0 n v0 v1 a b l0 l P0 P) (h34 : ∀ g, 0 ≤ g → g < n → 0 ≤ γ0 34 g ∧ γ0 34 g ≤ 100000) {x106 : St → Int → Int → Option (Int × St)} {Q : Int × St → Prop} (h7 : γ0 7 (n + 1) = b) (hx : pc (x106 γ0 n (min 100000 ((b - a) + (P - P0) + sumC γ0 P0 (P - P0).toNat))) Q) : ∀ (f : Nat) (w k s : Int), a ≤ k → k ≤ b → (k < b → γ0 19 k = s) → (k = b → s = P) → P0 ≤ s → w = min 100000 ((k - a) + (s - P0) + sumC γ0 P0 (s - P0).toNat) → pc (f_M_countParts_L9 x106 f γ0 n w k) Q := by
  have ⟨x1, x2, x3, x4, x5, x6, x7, x8, x9, x10, x11, x12, x13, x14, x15⟩ := X.1
  intro f
  induction f with
  | zero => intro w k s h1 h2 h3 h4 h5 h8; exact fun _ e => absurd e (by intro h; cases h)
  | succ f ih =>
    intro w k s h1 h2 h3 h4 h5 h8
    unfold f_M_countParts_L9
    rw [h7]
    refine pc_c (fun _ => pc_c (fun _ => ?_))
    by_cases q : b ≤ k
    · rw [if_pos q, h8]
      have ek : k = b := by omega
      have es := h4 ek
      rw [es, ek]
      exact hx
    · rw [if_neg q]
      have er := x4.1 k h1 (by omega)
      have r4 := er.1.2.2.2.1
      have e2 := er.2.2
      have es := h3 (by omega)
      rw [r4.2.2]
      refine pc_c (fun _ => pc_c (fun _ => pc_c (fun _ => pc_c (fun _ => pc_c (fun _ => ?_)))))
      refine c2_L51 X h34 ⟨h1, by omega⟩ (by omega) FU _ _ (Int.le_refl _) (by omega) ?_ ?_
      · rw [es] at r4 ⊢
        omega
      · unfold f_M_countParts_b100
        refine pc_c (fun _ => ih _ (k + 1) (γ0 17 k + 1) (by omega) (by omega) (fun q1 => x4.2.1 k h1 (by omega)) (fun q1 => ?_) (by omega) (by congr 1))
        rw [show k = b - 1 by omega, x11]; omega
theorem c2_countParts {γ0 : St} {n v0 v1 a b l0 l P0 P : Int} (X : NdX γ0 n v0 v1 a b l0 l P0 P) (h34 : ∀ g, 0 ≤ g → g < n → 0 ≤ γ0 34 g ∧ γ0 34 g ≤ 100000) (h7 : γ0 7 n = a) (h7' : γ0 7 (n + 1) = b) : pc (f_M_countParts γ0 n) (fun z => z = (0, setA γ0 34 n (min 100000 ((b - a) + (P - P0) + sumC γ0 P0 (P - P0).toNat)))) := by
  have ⟨x1, x2, x3, x4, x5, x6, x7, x8, x9, x10, x11, x12, x13, x14, x15⟩ := X.1
  unfold f_M_countParts
  rw [h7]
  refine pc_c (fun _ => c2_L9 X h34 h7' ?_ FU 0 a P0 (Int.le_refl _) (by omega) (fun _ => x9) (fun q => by omega) (Int.le_refl _) ?_)
  · unfold f_M_countParts_b106
    exact pc_c (fun _ => pc_s rfl)
  · rw [show (P0 - P0).toNat = 0 by omega]
    show (0 : Int) = min 100000 (_ + 0)
    omega
