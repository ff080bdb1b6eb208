/-! the reference's nodes: countParts -/
/-- what the called nodes weigh, of the m parts from lo on -/
def sumC (γ : St) (lo : Int) : Nat → Int
  | 0 => 0
  | m + 1 => sumC γ lo m + if γ 20 (lo + m) = 3 then γ 34 (γ 21 (lo + m)) else 0
theorem sumC_agree {γ γ' : St} {lo : Int} : ∀ {m : Nat}, (∀ e, lo ≤ e → e < lo + m → γ' 20 e = γ 20 e ∧ γ' 21 e = γ 21 e ∧ (γ 20 e = 3 → γ' 34 (γ 21 e) = γ 34 (γ 21 e))) → sumC γ' lo m = sumC γ lo m
  | 0, _ => rfl
  | m + 1, h => by
    have q := h (lo + m) (by omega) (by omega)
    show sumC γ' lo m + (if γ' 20 (lo + m) = 3 then γ' 34 (γ' 21 (lo + m)) else 0) = sumC γ lo m + (if γ 20 (lo + m) = 3 then γ 34 (γ 21 (lo + m)) else 0)
    rw [sumC_agree (m := m) (fun e a b => h e a (by omega)), q.1, q.2.1]
    by_cases c : γ 20 (lo + m) = 3
    · rw [if_pos c, if_pos c, q.2.2 c]
    · rw [if_neg c, if_neg c]
theorem sumC_mono {γ : St} {lo : Int} {m : Nat} : ∀ (d : Nat), (∀ e, lo ≤ e → e < lo + (m + d : Nat) → γ 20 e = 3 → 0 ≤ γ 34 (γ 21 e)) → sumC γ lo m ≤ sumC γ lo (m + d)
  | 0, _ => Int.le_refl _
  | d + 1, h => by
    have i := sumC_mono (γ := γ) (lo := lo) (m := m) d (fun e a b c => h e a (by omega) c)
    show _ ≤ sumC γ lo (m + d) + (if γ 20 (lo + (m + d : Nat)) = 3 then γ 34 (γ 21 (lo + (m + d : Nat))) else 0)
    by_cases c : γ 20 (lo + (m + d : Nat)) = 3
    · rw [if_pos c]
      have := h (lo + (m + d : Nat)) (by omega) (by omega) c
      omega
    · rw [if_neg c]; omega
theorem sumC_le {γ : St} {lo : Int} {m k : Nat} (h : m ≤ k) (g : ∀ e, lo ≤ e → e < lo + k → γ 20 e = 3 → 0 ≤ γ 34 (γ 21 e)) : sumC γ lo m ≤ sumC γ lo k := by
  have e : m + (k - m) = k := by omega
  have t := sumC_mono (γ := γ) (lo := lo) (m := m) (k - m) (by rw [e]; exact g)
  rw [e] at t
  exact t
def Wt (γ : St) (f a b P0 P : Int) : Prop := (0 ≤ γ 34 f ∧ γ 34 f ≤ 100000) ∧ (γ 34 f < 100000 → γ 34 f = (b - a) + (P - P0) + sumC γ P0 (P - P0).toNat)
theorem w_countParts_L51 {γ0 : St} {n v0 v1 a b l0 l P0 P : Int} (X : NdX γ0 n v0 v1 a b l0 l P0 P) (hn : 0 ≤ n ∧ n ≤ 58) (hb : b ≤ 16000) (hP : P ≤ 65000) (h34 : ∀ g, 0 ≤ g → g < n → 0 ≤ γ0 34 g ∧ γ0 34 g ≤ 100000) {k : Int} {x100 : St → Int → Int → Int → Option (Int × St)} {Q : Int × St → Prop} (hk : a ≤ k ∧ k < b) (hs : P0 ≤ γ0 19 k) : ∀ (f : Nat) (w e : Int), γ0 19 k ≤ e → e ≤ γ0 17 k + 1 → 0 ≤ w ∧ w ≤ 100000 → (w < 100000 → w = (k + 1 - a) + (γ0 17 k + 1 - P0) + sumC γ0 P0 (e - P0).toNat) → γ0 17 k + 1 - e < f → (∀ w, 0 ≤ w ∧ w ≤ 100000 → (w < 100000 → w = (k + 1 - a) + (γ0 17 k + 1 - P0) + sumC γ0 P0 (γ0 17 k + 1 - P0).toNat) → wp (x100 γ0 n w k) Q) → wp (f_M_countParts_L51 x100 f γ0 n w k e) Q := by
  have ⟨x1, x2, x3, x4, x5, x6, x7, x8, x9, x10, x11, x12, x13, x14, x15⟩ := X.1
  have er := x4.1 k hk.1 hk.2
  intro f
  induction f with
  | zero => intro w e h1 h2 h3 h4 h5; exfalso; omega
  | succ f ih =>
    intro w e h1 h2 h3 h4 h5 hx
    have e2 := er.2.2
    unfold f_M_countParts_L51
    refine wp_chk (by omega) (wp_ite (fun q => hx w h3 (fun r => ?_)) (fun q => ?_))
    · have := h4 r
      rw [show e = γ0 17 k + 1 by omega] at this
      exact this
    · obtain ⟨ks, c1, c2, c3, c4, c5, _⟩ := er.1.2.2.2.2.1 e h1 (by omega)
      have en : (e + 1 - P0).toNat = (e - P0).toNat + 1 := by omega
      have el : P0 + ((e - P0).toNat : Int) = e := by omega
      have st : sumC γ0 P0 (e + 1 - P0).toNat = sumC γ0 P0 (e - P0).toNat + if γ0 20 e = 3 then γ0 34 (γ0 21 e) else 0 := by
        rw [en]
        show _ + (if γ0 20 (P0 + ((e - P0).toNat : Int)) = 3 then γ0 34 (γ0 21 (P0 + ((e - P0).toNat : Int))) else 0) = _
        rw [el]
      unfold f_M_countParts_b94
      refine wp_chk (by omega) (wp_ite (fun q2 => ?_) (fun q2 => ?_))
      · rw [if_neg q2] at st
        exact wp_chk (by omega) (ih w (e + 1) (by omega) (by omega) h3 (fun r => by have := h4 r; omega) (by omega) hx)
      · have w3 := c5.2.2.1 (by omega)
        have g := h34 _ w3.1 w3.2
        rw [if_pos (by omega)] at st
        refine wp_chk (by omega) (wp_chk (by omega) (wp_chk (by omega) (wp_sub (wp_chk (by omega) (ih _ (e + 1) (by omega) (by omega) (by omega) (fun r => ?_) (by omega) hx)))))
        have := h4 (by omega)
        omega
theorem w_countParts_L9 {γ0 : St} {n v0 v1 a b l0 l P0 P : Int} (X : NdX γ0 n v0 v1 a b l0 l P0 P) (hn : 0 ≤ n ∧ n ≤ 58) (hb : b ≤ 16000) (hP : P ≤ 65000) (h34 : ∀ g, 0 ≤ g → g < n → 0 ≤ γ0 34 g ∧ γ0 34 g ≤ 100000) {x106 : St → Int → Int → Option (Int × St)} {Q : Int × St → Prop} (h7 : γ0 7 (n + 1) = b) (hx : ∀ w, 0 ≤ w ∧ w ≤ 100000 → (w < 100000 → w = (b - a) + (P - P0) + sumC γ0 P0 (P - P0).toNat) → wp (x106 γ0 n w) Q) : ∀ (f : Nat) (w k s : Int), a ≤ k → k ≤ b → (k < b → γ0 19 k = s) → (k = b → s = P) → P0 ≤ s → 0 ≤ w ∧ w ≤ 100000 → (w < 100000 → w = (k - a) + (s - P0) + sumC γ0 P0 (s - P0).toNat) → b - k < f → wp (f_M_countParts_L9 x106 f γ0 n w k) Q := by
  have := FU_v
  have ⟨x1, x2, x3, x4, x5, x6, x7, x8, x9, x10, x11, x12, x13, x14, x15⟩ := X.1
  intro f
  induction f with
  | zero => intro w k s h1 h2 h3 h4 h5 h6 h8 h9; exfalso; omega
  | succ f ih =>
    intro w k s h1 h2 h3 h4 h5 h6 h8 h9
    unfold f_M_countParts_L9
    rw [h7]
    refine wp_chk (by omega) (wp_chk (by omega) (wp_ite (fun q => ?_) (fun q => ?_)))
    · have ek : k = b := by omega
      have es := h4 ek
      refine hx w h6 (fun r => ?_)
      have := h8 r
      rw [es, ek] at this
      exact this
    · have er := x4.1 k h1 (by omega)
      have r4 := er.1.2.2.2.1
      have e2 := er.2.2
      have es := h3 (by omega)
      rw [r4.2.2]
      refine wp_chk (by omega) (wp_chk (by omega) (wp_chk (by omega) (wp_chk (by omega) (wp_sub (wp_chk (by omega) (wp_sub ?_))))))
      refine w_countParts_L51 X hn hb hP h34 ⟨h1, by omega⟩ (by omega) FU _ _ (Int.le_refl _) (by omega) (by omega) (fun r => ?_) (by omega) (fun w' g1 g2 => ?_)
      · have := h8 (by omega)
        rw [es]
        omega
      · unfold f_M_countParts_b100
        refine wp_chk (by omega) (ih w' (k + 1) (γ0 17 k + 1) (by omega) (by omega) (fun q1 => x4.2.1 k h1 (by omega)) (fun q1 => ?_) (by omega) g1 g2 (by omega))
        rw [show k = b - 1 by omega, x11]; omega
theorem w_countParts {γ0 : St} {n v0 v1 a b l0 l P0 P : Int} (X : NdX γ0 n v0 v1 a b l0 l P0 P) (hn : 0 ≤ n ∧ n ≤ 58) (hb : b ≤ 16000) (hP : P ≤ 65000) (h34 : ∀ g, 0 ≤ g → g < n → 0 ≤ γ0 34 g ∧ γ0 34 g ≤ 100000) (h7 : γ0 7 n = a) (h7' : γ0 7 (n + 1) = b) : wp (f_M_countParts γ0 n) (fun z => ∃ w, z = (0, setA γ0 34 n w) ∧ (0 ≤ w ∧ w ≤ 100000) ∧ (w < 100000 → w = (b - a) + (P - P0) + sumC γ0 P0 (P - P0).toNat)) := by
  have := FU_v
  have ⟨x1, x2, x3, x4, x5, x6, x7, x8, x9, x10, x11, x12, x13, x14, x15⟩ := X.1
  unfold f_M_countParts
  rw [h7]
  refine wp_chk (by omega) (wp_sub (w_countParts_L9 X hn hb hP h34 h7' (fun w g1 g2 => ?_) FU 0 a P0 (Int.le_refl _) (by omega) (fun _ => x9) (fun q => by omega) (Int.le_refl _) (by omega) (fun _ => ?_) (by omega)))
  · unfold f_M_countParts_b106
    exact wp_chk (by omega) (wp_sub (wp_some ⟨w, rfl, g1, g2⟩))
  · rw [show (P0 - P0).toNat = 0 by omega]
    show (0 : Int) = _ + 0
    omega
