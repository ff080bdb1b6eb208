/-! the reference's equations: the left sides -/
/-- what the reader leaves as it was, also where it throws -/
def Bo (γ : St) : Prop := B14 γ ∧ (∀ v, γ 28 v = 0 ∨ γ 28 v = 1) ∧ B25 γ
theorem Bo.fr {γ γ' : St} (h : Bo γ) (e14 : ∀ k, γ' 14 k = γ 14 k) (e28 : ∀ k, γ' 28 k = γ 28 k) (e25 : ∀ k, γ' 25 k = γ 25 k) : Bo γ' := ⟨fun v => by rw [e14]; exact h.1 v, fun v => by rw [e28]; exact h.2.1 v, h.2.2.fr e25⟩
def Rf (γ γ' : St) : Prop := (∀ j k, (j = 0 → k < 5 ∨ 42 < k) → (j ≠ 0 → j = 1 ∨ 28 < j) → γ' j k = γ j k) ∧ (Bo γ → Bo γ')
theorem Rf.rf {γ : St} : Rf γ γ := ⟨fun _ _ _ _ => rfl, fun h => h⟩
theorem Rf.tr {γ γ' γ'' : St} (h : Rf γ γ') (g : Rf γ' γ'') : Rf γ γ'' := ⟨fun j k q1 q2 => (g.1 j k q1 q2).trans (h.1 j k q1 q2), fun b => g.2 (h.2 b)⟩
theorem Mv.re {γ γ' : St} (h : Mv γ γ') : Rf γ γ' := ⟨fun j k q1 q2 => h.2.1 j k (by omega), fun b => b.fr (fun k => h.2.1 14 k (by omega)) (fun k => h.2.1 28 k (by omega)) (fun k => h.2.1 25 k (by omega))⟩
theorem Fx.re {p nd : Int} {γ γ' : St} (h : Fx p nd γ γ') : Rf γ γ' := ⟨fun j k q1 q2 => h.1 j k (by omega) (by omega) (by omega), fun b => ⟨fun v => by rw [h.1 14 v (by omega) (by omega) (by omega)]; exact b.1 v, fun v => by rw [h.1 28 v (by omega) (by omega) (by omega)]; exact b.2.1 v, h.2 b.2.2⟩⟩
theorem Fg.re {v : Int} {γ γ' : St} (h : Fg v γ γ') (b : B14 γ') : Rf γ γ' := ⟨fun j k q1 q2 => h j k (by omega) (by omega), fun c => ⟨b, fun v => by rw [h 28 v (by omega) (by omega)]; exact c.2.1 v, c.2.2.fr (fun k => h 25 k (by omega) (by omega))⟩⟩
/-- what the left sides leave as it was -/
def Fm (γ0 γ : St) : Prop := ∀ j k, (j = 0 → (k < 5 ∨ 9 < k) ∧ k ≠ 31) → (j = 13 → k < γ0 4 (γ0 0 18) ∨ γ0 0 19 ≤ k) → (j = 15 ∨ j = 16 ∨ j = 19 → k ≠ γ0 0 30) → (j = 18 → k < γ0 0 31) → γ j k = γ0 j k
theorem Fm.re {γ γ' : St} (h : Fm γ γ') : Rf γ γ' := ⟨fun j k q1 q2 => h j k (by omega) (by omega) (by omega) (by omega), fun b => b.fr (fun k => h 14 k (by omega) (by omega) (by omega) (by omega)) (fun k => h 28 k (by omega) (by omega) (by omega) (by omega)) (fun k => h 25 k (by omega) (by omega) (by omega) (by omega))⟩
/-- how often w comes among the n from lo on -/
def cntN (f : Int → Int) (lo w : Int) : Nat → Int
  | 0 => 0
  | n + 1 => cntN f lo w n + if f (lo + n) = w then 1 else 0
theorem cntN_agree {f g : Int → Int} {lo w : Int} : ∀ {n : Nat}, (∀ i, lo ≤ i → i < lo + n → g i = f i) → cntN g lo w n = cntN f lo w n
  | 0, _ => rfl
  | n + 1, h => by
    show cntN g lo w n + _ = cntN f lo w n + _
    rw [cntN_agree (n := n) (fun i a b => h i a (by omega)), h (lo + n) (by omega) (by omega)]
theorem cntN_b (f : Int → Int) (lo w : Int) : ∀ n : Nat, 0 ≤ cntN f lo w n ∧ cntN f lo w n ≤ n
  | 0 => by show 0 ≤ (0 : Int) ∧ (0 : Int) ≤ ((0 : Nat) : Int); omega
  | n + 1 => by
    have := cntN_b f lo w n
    show 0 ≤ cntN f lo w n + _ ∧ cntN f lo w n + _ ≤ _
    split <;> omega
theorem cntN_app (f : Int → Int) (lo w : Int) (n : Nat) : ∀ m : Nat, cntN f lo w (n + m) = cntN f lo w n + cntN f (lo + n) w m
  | 0 => by show cntN f lo w n = cntN f lo w n + 0; omega
  | m + 1 => by
    show cntN f lo w (n + m) + (if f (lo + ((n + m : Nat) : Int)) = w then 1 else 0) = cntN f lo w n + (cntN f (lo + n) w m + (if f (lo + n + m) = w then 1 else 0))
    rw [cntN_app f lo w n m, show lo + ((n + m : Nat) : Int) = lo + n + m by omega]
    omega
theorem cntN_ex {f : Int → Int} {lo w : Int} : ∀ {n : Nat}, cntN f lo w n ≠ 0 → ∃ i, lo ≤ i ∧ i < lo + n ∧ f i = w
  | 0, h => absurd rfl h
  | n + 1, h => by
    by_cases q : f (lo + n) = w
    · exact ⟨lo + n, by omega, by omega, q⟩
    · have e : cntN f lo w (n + 1) = cntN f lo w n := by
        show cntN f lo w n + (if f (lo + n) = w then 1 else 0) = _
        rw [if_neg q]; omega
      rw [e] at h
      obtain ⟨i, a, b, c⟩ := cntN_ex h
      exact ⟨i, a, by omega, c⟩
/-- while the left sides of an equation are read -/
def EM (γ0 γ : St) : Prop := (DcI γ ∧ Fm γ0 γ ∧ γ0 0 5 ≤ γ 0 5) ∧ (γ 16 (γ0 0 30) = γ0 0 31 ∧ γ 19 (γ0 0 30) = γ0 0 40) ∧ (γ0 0 31 ≤ γ 0 31 ∧ γ 0 31 ≤ γ 0 5) ∧ (∀ i, γ0 0 31 ≤ i → i < γ 0 31 → γ0 5 (γ0 0 18) ≤ γ 18 i ∧ γ 18 i < γ0 0 19 - γ0 4 (γ0 0 18)) ∧ (∀ v, γ0 4 (γ0 0 18) ≤ v → v < γ0 0 19 → 0 ≤ γ 13 v ∧ γ 13 v ≤ γ 0 5) ∧ ∀ v, γ0 4 (γ0 0 18) ≤ v → v < γ0 0 19 → γ 13 v = γ0 13 v + cntN (γ 18) (γ0 0 31) (v - γ0 4 (γ0 0 18)) (γ 0 31 - γ0 0 31).toNat
theorem EM.mv {γ0 γ γ' : St} (h : EM γ0 γ) (m : Mv γ γ') : EM γ0 γ' := by
  have ⟨⟨a1, a2, a3⟩, ⟨b1, b2⟩, ⟨c1, c2⟩, d, f, cn⟩ := h
  have e := m.2.1
  have m5 := m.2.2
  have e31 := e 0 31 (by omega)
  refine ⟨⟨a1.mv m, fun j k q1 q2 q3 q4 => (e j k (by omega)).trans (a2 j k q1 q2 q3 q4), by omega⟩, ⟨by rw [e 16 _ (by omega)]; exact b1, by rw [e 19 _ (by omega)]; exact b2⟩, by omega, ?_, ?_, ?_⟩
  · rw [e31]
    intro i q1 q2
    rw [e 18 i (by omega)]
    exact d i q1 q2
  · intro v q1 q2
    rw [e 13 v (by omega)]
    have := f v q1 q2
    omega
  · intro v q1 q2
    rw [e 13 v (by omega), e31, show γ' 18 = γ 18 from funext fun k => e 18 k (by omega)]
    exact cn v q1 q2
theorem EM.lx {γ0 γ : St} (h : EM γ0 γ) : LX γ := h.1.1.1
/-- one left side -/
theorem EM.left {γ0 γ : St} {K : St → Option Res} {Q : Res → Prop} (h : EM γ0 γ) (h31 : 0 ≤ γ0 0 31) (h5 : 0 ≤ γ0 5 (γ0 0 18) ∧ γ0 4 (γ0 0 18) + γ0 5 (γ0 0 18) ≤ γ0 0 19) (kt : ∀ e γ', Rf γ0 γ' → Q (.inl e, γ')) (kk : ∀ γ', EM γ0 γ' → γ' 0 31 = γ 0 31 + 1 → γ 0 5 < γ' 0 5 → γ' 0 1 = γ 0 1 → tK γ = 1 → γ' 15 (γ0 0 30) = γ 15 (γ0 0 30) → wp (K γ') Q) : wp (chk (i32 (γ 0 31 + 1)) (ap (setA γ 0 31 (γ 0 31 + 1)) fun γ35 => bndT (f_M_left γ35) fun r γ37 => chk (inb (γ 0 31) 66000) (ap (setA γ37 18 (γ 0 31) r) fun γ38 => K γ38))) Q := by
  have ⟨⟨a1, a2, a3⟩, ⟨b1, b2⟩, ⟨c1, c2⟩, d, f, cn⟩ := h
  have x1 := a1.1.1
  have x5 := a1.1.2.1
  refine wp_chk (by omega) (wp_sub ?_)
  have s0 : ∀ j k, (j = 0 → k ≠ 31) → setA γ 0 31 (γ 0 31 + 1) j k = γ j k := fun j k q => by rw [stA, if_neg (by omega)]
  have s31 : setA γ 0 31 (γ 0 31 + 1) 0 31 = γ 0 31 + 1 := by rw [stA, if_pos ⟨rfl, rfl⟩]
  generalize setA γ 0 31 (γ 0 31 + 1) = γ1 at *
  have e18 : γ1 0 18 = γ0 0 18 := by rw [s0 0 18 (by omega)]; exact a2 0 18 (by omega) (by omega) (by omega) (by omega)
  have e19 : γ1 0 19 = γ0 0 19 := by rw [s0 0 19 (by omega)]; exact a2 0 19 (by omega) (by omega) (by omega) (by omega)
  have e4 : ∀ k, γ1 4 k = γ0 4 k := fun k => by rw [s0 4 k (by omega)]; exact a2 4 k (by omega) (by omega) (by omega) (by omega)
  have e5 : ∀ k, γ1 5 k = γ0 5 k := fun k => by rw [s0 5 k (by omega)]; exact a2 5 k (by omega) (by omega) (by omega) (by omega)
  have rf1 : Rf γ0 γ1 := a2.re.tr ⟨fun j k q1 q2 => s0 j k (by omega), fun b => b.fr (fun k => s0 14 k (by omega)) (fun k => s0 28 k (by omega)) (fun k => s0 25 k (by omega))⟩
  have dc : DcI γ1 := by
    have ⟨y1, y2, y3, y4, y5, y6, y7⟩ := a1
    have g18 := s0 0 18 (by omega)
    have g19 := s0 0 19 (by omega)
    have g4 : ∀ k, γ1 4 k = γ 4 k := fun k => s0 4 k (by omega)
    refine ⟨y1.fr (funext fun k => s0 1 k (by omega)) (fun k q => s0 0 k (by omega)), by rw [g18]; exact y2, by rw [g18, g4]; exact y3, by rw [g18, g4, g19]; exact y4, ?_, ?_, fun v => by rw [s0 14 v (by omega)]; exact y7 v⟩
    · rw [g18, g4, g19]
      intro v q1 q2
      rw [s0 10 v (by omega), s0 11 v (by omega)]
      exact y5 v q1 q2
    · rw [g18, g4, g19]
      intro v q1 q2
      unfold ClO
      rw [s0 12 v (by omega)]
      exact y6 v q1 q2
  have l1 := dc.1
  have es : sk γ1 = sk γ := by
    show skpF (γ1 1) (γ1 0 1) FU (γ1 0 5) = skpF (γ 1) (γ 0 1) FU (γ 0 5)
    rw [show γ1 1 = γ 1 from funext fun k => s0 1 k (by omega), s0 0 1 (by omega), s0 0 5 (by omega)]
  have et : tK γ1 = tK γ := by
    show tkK (γ1 1) (γ1 0 1) (sk γ1) = tkK (γ 1) (γ 0 1) (sk γ)
    rw [show γ1 1 = γ 1 from funext fun k => s0 1 k (by omega), s0 0 1 (by omega), es]
  refine wp_bndT (w_left dc (by rw [e18, e4, e5, e19]; exact h5) (fun v q1 q2 => ?_)) (fun e γ' z => ?_) (fun r γ' z => ?_)
  · rw [e18, e4] at q1
    rw [e19] at q2
    rw [s0 13 v (by omega)]
    have := f v q1 q2
    omega
  · rcases z with ⟨e2, γ2, z, m⟩ | ⟨_, v, _, _, z⟩
    · cases z; exact kt _ _ (rf1.tr m.re)
    · cases z
  · rcases z with ⟨e2, γ2, z, m⟩ | ⟨nm, v, hv, _, z⟩
    · cases z
    · rw [e18, e4, e5, e19] at hv
      rw [e18, e4] at z
      cases z
      have m := Mv.tk0 l1
      have lt := Mv.nz l1 (by rw [nm.1]; decide)
      have g5 := s0 0 5 (by omega)
      refine wp_chk (by omega) (wp_sub ?_)
      generalize hg : setA (setA (tkS γ1) 13 v (γ1 13 v + 1)) 18 (γ 0 31) (v - γ0 4 (γ0 0 18)) = γ3
      have s : ∀ j k, γ3 j k = if j = 18 ∧ k = γ 0 31 then v - γ0 4 (γ0 0 18) else if j = 13 ∧ k = v then γ1 13 v + 1 else tkS γ1 j k := fun j k => by rw [← hg, stA, stA]
      have t0 : ∀ j k, (j = 18 → k ≠ γ 0 31) → (j = 13 → k ≠ v) → γ3 j k = tkS γ1 j k := fun j k q1 q2 => by rw [s, if_neg (by omega), if_neg (by omega)]
      have u0 : ∀ j k, (j = 0 → (k < 5 ∨ 9 < k) ∧ k ≠ 31) → (j = 18 → k ≠ γ 0 31) → (j = 13 → k ≠ v) → γ3 j k = γ j k := fun j k q1 q2 q3 => by rw [t0 j k q2 q3, m.2.1 j k (by omega), s0 j k (by omega)]
      have v31 : γ3 0 31 = γ 0 31 + 1 := by rw [t0 0 31 (by omega) (by omega), m.2.1 0 31 (by omega)]; exact s31
      have v5 : γ3 0 5 = tkS γ1 0 5 := t0 0 5 (by omega) (by omega)
      have dc3 : DcI γ3 := by
        have ⟨y1, y2, y3, y4, y5, y6, y7⟩ := dc.mv m
        have g18 := t0 0 18 (by omega) (by omega)
        have g19 := t0 0 19 (by omega) (by omega)
        have g4 : ∀ k, γ3 4 k = tkS γ1 4 k := fun k => t0 4 k (by omega) (by omega)
        refine ⟨y1.fr (funext fun k => t0 1 k (by omega) (by omega)) (fun k q => t0 0 k (by omega) (by omega)), by rw [g18]; exact y2, by rw [g18, g4]; exact y3, by rw [g18, g4, g19]; exact y4, ?_, ?_, fun v => by rw [t0 14 v (by omega) (by omega)]; exact y7 v⟩
        · rw [g18, g4, g19]
          intro v q1 q2
          rw [t0 10 v (by omega) (by omega), t0 11 v (by omega) (by omega)]
          exact y5 v q1 q2
        · rw [g18, g4, g19]
          intro v q1 q2
          unfold ClO
          rw [t0 12 v (by omega) (by omega)]
          exact y6 v q1 q2
      refine kk γ3 ⟨⟨dc3, fun j k q1 q2 q3 q4 => ?_, by omega⟩, ⟨by rw [u0 16 _ (by omega) (by omega) (by omega)]; exact b1, by rw [u0 19 _ (by omega) (by omega) (by omega)]; exact b2⟩, by omega, ?_, ?_, ?_⟩ v31 (by omega) (u0 0 1 (by omega) (by omega) (by omega)) (by rw [← et]; exact nm.1) (u0 15 _ (by omega) (by omega) (by omega))
      · rw [u0 j k q1 (fun r => by have := q4 r; omega) (fun r => by have := q2 r; omega)]
        exact a2 j k q1 q2 q3 q4
      · rw [v31]
        intro i q1 q2
        by_cases q : i = γ 0 31
        · rw [q, s, if_pos ⟨rfl, rfl⟩]; omega
        · rw [u0 18 i (by omega) (by omega) (by omega)]
          exact d i q1 (by omega)
      · intro w q1 q2
        have fw := f w q1 q2
        by_cases q : w = v
        · rw [q, s, if_neg (by omega), if_pos ⟨rfl, rfl⟩, s0 13 v (by omega)]
          rw [q] at fw
          omega
        · rw [u0 13 w (by omega) (by omega) (by omega)]
          omega
      · intro w q1 q2
        have c0 := cn w q1 q2
        have e18n : γ3 18 (γ 0 31) = v - γ0 4 (γ0 0 18) := by rw [s, if_pos ⟨rfl, rfl⟩]
        have en : (γ3 0 31 - γ0 0 31).toNat = (γ 0 31 - γ0 0 31).toNat + 1 := by omega
        have el : γ0 0 31 + ((γ 0 31 - γ0 0 31).toNat : Int) = γ 0 31 := by omega
        rw [en]
        show _ = _ + (cntN (γ3 18) (γ0 0 31) (w - γ0 4 (γ0 0 18)) (γ 0 31 - γ0 0 31).toNat + if γ3 18 (γ0 0 31 + ((γ 0 31 - γ0 0 31).toNat : Int)) = w - γ0 4 (γ0 0 18) then 1 else 0)
        rw [el, cntN_agree (f := γ 18) (fun i r1 r2 => u0 18 i (by omega) (by omega) (by omega)), e18n]
        by_cases q : w = v
        · rw [q, s, if_neg (by omega), if_pos ⟨rfl, rfl⟩, s0 13 v (by omega), if_pos rfl]
          rw [q] at c0
          omega
        · rw [u0 13 w (by omega) (by omega) (by omega), if_neg (by omega)]
          omega
