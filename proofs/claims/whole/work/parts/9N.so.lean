/-! the class's order: sort -/
def Mu (S : Int) (γ : St) : Int := sm (fun i => 4 - γ 71 (γ 73 i)) 0 (γ 10 10) + 4 * (S - γ 10 8)
def VsP (S : Int) (γ γ' : St) : Prop := ∀ s, 0 ≤ s → s < S → γ 69 s ≠ 0 → γ' 69 s ≠ 0
def AvP (γ0 : St) (S : Int) (γ γ' : St) : Prop := OdI γ0 S γ' ∧ Mu S γ' + 1 ≤ Mu S γ ∧ ((∀ k, γ' 74 k = γ 74 k) ∧ γ' 10 12 = γ 10 12) ∧ VsP S γ γ'
set_option maxHeartbeats 2000000 in
theorem w_closeSlot {γ0 γ : St} {S x : Int} (hX : SdX γ0 S) (h : OdI γ0 S γ) (hS : γ0 8 5 = S) (hP : 0 < γ 10 10) (hx : x = γ 73 (γ 10 10 - 1)) (h71 : γ 71 x = 3) : wp (f_Od_closeSlot γ x) (fun z => AvP γ0 S γ z.2) := by
  have ⟨hF, hN, hT, hE, hC⟩ := h
  have ⟨t1, t2, t3, t4, t5, t6⟩ := hT
  have ⟨n1, n2, n3, n4, n5, n6⟩ := hN
  have cnt := hN.cnt hX.1.1
  have tk := hN.tk
  have tx := t4 (γ 10 10 - 1) (by omega) (by omega)
  rw [← hx] at tx
  have hS1 := hX.1
  have := FU_v
  have e6 := hE.2.2.2.2.2
  -- the measure: the path loses its last
  have mu : ∀ γ' : St, γ' 10 10 = γ 10 10 - 1 → γ' 10 8 = γ 10 8 → (∀ k, γ' 71 k = γ 71 k) → (∀ k, γ' 73 k = γ 73 k) → Mu S γ' + 1 ≤ Mu S γ := fun γ' a1 a2 a3 a4 => by
    unfold Mu
    have s := sm_succ (f := fun i => 4 - γ 71 (γ 73 i)) (a := 0) (b := γ 10 10 - 1) (by omega)
    rw [show γ 10 10 - 1 + 1 = γ 10 10 by omega] at s
    have s2 : (4 : Int) - γ 71 (γ 73 (γ 10 10 - 1)) = 1 := by rw [← hx, h71]; omega
    rw [a1, a2, show (fun i => 4 - γ' 71 (γ' 73 i)) = (fun i => 4 - γ 71 (γ 73 i)) from funext fun i => by rw [a3, a4], s]
    show _ ≤ _ + (4 - γ 71 (γ 73 (γ 10 10 - 1))) + _
    omega
  unfold f_Od_closeSlot
  refine wp_chk (by omega) (wp_sub ?_)
  have a10 : setA γ 10 10 (γ 10 10 - 1) 10 10 = γ 10 10 - 1 := by rw [stA, if_pos ⟨rfl, rfl⟩]
  have aj : ∀ j k, (j ≠ 10 ∨ k ≠ 10) → setA γ 10 10 (γ 10 10 - 1) j k = γ j k := fun j k q => by rw [stA, if_neg (by omega)]
  generalize setA γ 10 10 (γ 10 10 - 1) = γ1 at *
  rw [a10]
  -- the end of it: u is the outer slot's low
  have fin : ∀ γ2 : St, (2 ≤ γ 10 10 → ∀ j k, γ2 j k = if j = 70 ∧ k = γ 73 (γ 10 10 - 2) then min (γ 70 (γ 73 (γ 10 10 - 2))) (γ 70 x) else if j = 10 ∧ k = 10 then γ 10 10 - 1 else γ j k) → (γ 10 10 = 1 → ∀ j k, γ2 j k = if j = 10 ∧ k = 10 then γ 10 10 - 1 else γ j k) → wp (f_Od_closeSlot_b50 γ2 x) (fun z => AvP γ0 S γ z.2) := by
    intro γ2 g1 g2
    -- the outer low is the same where x is its own lowest
    have nx : ∀ j k, j ≠ 70 → (j ≠ 10 ∨ k ≠ 10) → γ2 j k = γ j k := fun j k q1 q2 => by
      rcases Int.lt_or_le (γ 10 10) 2 with r | r
      · rw [g2 (by omega), if_neg (by omega)]
      · rw [g1 r, if_neg (by omega), if_neg (by omega)]
    have n10 : γ2 10 10 = γ 10 10 - 1 := by
      rcases Int.lt_or_le (γ 10 10) 2 with r | r
      · rw [g2 (by omega)]; simp
      · rw [g1 r]; simp
    have ux : 2 ≤ γ 10 10 → γ 69 (γ 73 (γ 10 10 - 2)) < γ 69 x := fun r => by
      have := t5 (γ 10 10 - 2) (γ 10 10 - 1) (by omega) (by omega) (by omega)
      rw [← hx] at this
      exact this
    have x70 : γ2 70 x = γ 70 x := by
      rcases Int.lt_or_le (γ 10 10) 2 with r | r
      · rw [g2 (by omega), if_neg (by omega)]
      · have := ux r
        rw [g1 r, if_neg (fun q => by rw [← q.2] at this; omega), if_neg (by omega)]
    have l70 : γ 70 x = γ 69 x → ∀ k, γ2 70 k = γ 70 k := fun q k => by
      rcases Int.lt_or_le (γ 10 10) 2 with r | r
      · rw [g2 (by omega), if_neg (by omega)]
      · rw [g1 r]
        by_cases v : k = γ 73 (γ 10 10 - 2)
        · have y := t4 (γ 10 10 - 2) (by omega) (by omega)
          have := (e6 _ y.1.1 y.1.2 y.2).1
          have := ux r
          rw [if_pos ⟨rfl, v⟩, v]
          omega
        · rw [if_neg (fun w => v w.2), if_neg (by omega)]
    unfold f_Od_closeSlot_b50
    rw [x70, nx 69 x (by omega) (by omega)]
    refine wp_chk (by omega) (wp_chk (by omega) (wp_ite (fun c => wp_some ?_) (fun c => ?_)))
    · refine ⟨h.cls1 hP hx h71 c g1, mu γ2 n10 (nx 10 8 (by omega) (by omega)) (fun k => nx 71 k (by omega) (by omega)) (fun k => nx 73 k (by omega) (by omega)), ⟨fun k => nx 74 k (by omega) (by omega), nx 10 12 (by omega) (by omega)⟩, fun s q1 q2 q3 => ?_⟩
      show γ2 69 s ≠ 0
      rw [nx 69 s (by omega) (by omega)]; exact q3
    · have c : γ 70 x = γ 69 x := by omega
      obtain ⟨i0, i1, i2, i3⟩ := t3 x tx.1.1 tx.1.2 tx.2
      have b9 : γ2 10 9 = γ 10 9 := nx 10 9 (by omega) (by omega)
      have b11 : γ2 10 11 = γ 10 11 := nx 10 11 (by omega) (by omega)
      have b72 : ∀ k, γ2 72 k = γ 72 k := fun k => nx 72 k (by omega) (by omega)
      have b75 : ∀ k, γ2 75 k = γ 75 k := fun k => nx 75 k (by omega) (by omega)
      have b69 : ∀ k, γ2 69 k = γ 69 k := fun k => nx 69 k (by omega) (by omega)
      have b85 : γ2 8 5 = S := by rw [nx 8 5 (by omega) (by omega), hF 8 5 (by omega) (by omega)]; exact hS
      have b13 : γ2 10 13 = γ 10 13 := nx 10 13 (by omega) (by omega)
      have run : ∀ al, (al = 0 ∧ i0 < γ 10 9 - 1 ∨ al = 1 ∧ i0 = γ 10 9 - 1) → wp (bndN (f_Od_takeCircle_L23 FU γ2 x al 0) fun _ γ7 => some ((0 : Int), γ7)) (fun z => AvP γ0 S γ z.2) := by
        intro al hal
        refine wp_bnd (w_circle_L23 (x := x) (al := al) hX.1 i1 FU γ2 b85 (by omega) (by rw [b72]; exact i3) (fun i r1 r2 r3 => ?_) (fun i r1 r2 => by rw [b72]; exact (t1 i (by omega) (by omega)).1) (by omega) (by omega) (by omega)) (fun r γ3 z => wp_some ?_)
        · rw [b72] at r3
          have := t2 i0 i i1 r1 (by omega)
          rw [i3, r3] at this
          omega
        · obtain ⟨z1, z2, z3, z4, z5, z6, z7, z8, z9⟩ := z
          rw [b9] at z2 z3 z4 z5 z6 z9
          rw [b11] at z2 z5 z6
          rw [b13] at z8 z9
          have z1 : γ3 10 9 = i0 := z1
          have z2 : γ3 10 11 = γ 10 11 + (γ 10 9 - i0) := z2
          have z7 : ∀ j k, j ≠ 69 → j ≠ 75 → (j ≠ 10 ∨ k ≠ 9 ∧ k ≠ 11 ∧ k ≠ 13) → γ3 j k = γ2 j k := z7
          have ga : ∀ i, i0 ≤ i → i < γ 10 9 → γ3 69 (γ 72 i) = S + 1 := fun i r1 r2 => by have := z3 i r1 r2; rw [b72] at this; exact this
          have gb : ∀ s, (∀ i, i0 ≤ i → i < γ 10 9 → γ 72 i ≠ s) → γ3 69 s = γ 69 s := fun s q => by
            have := z4 s (fun i r1 r2 => by rw [b72]; exact q i r1 r2)
            rw [b69] at this
            exact this
          have k10 : γ3 10 10 = γ 10 10 - 1 := by rw [z7 10 10 (by omega) (by omega) (by omega)]; exact n10
          have ff : ∀ j k, j ≠ 69 → j ≠ 75 → (j ≠ 10 ∨ k ≠ 9 ∧ k ≠ 10 ∧ k ≠ 11 ∧ k ≠ 13) → γ3 j k = γ j k := fun j k q1 q2 q3 => by
            rw [z7 j k q1 q2 (by omega)]
            by_cases v : j = 70
            · subst v; exact l70 c k
            · exact nx j k v (by omega)
          refine ⟨h.pop hX hP hx h71 c ⟨i1, i2, i3⟩ z1 k10 z2 ga gb (fun w => ?_) (fun i r1 r2 => ?_) ff ?_, mu γ3 k10 (ff 10 8 (by omega) (by omega) (by omega)) (fun k => ff 71 k (by omega) (by omega) (by omega)) (fun k => ff 73 k (by omega) (by omega) (by omega)), ⟨fun k => ff 74 k (by omega) (by omega) (by omega), ff 10 12 (by omega) (by omega) (by omega)⟩, fun s q1 q2 q3 => ?_⟩
          · have := z5 w
            rw [show (fun i => w (γ2 75 i)) = (fun i => w (γ 75 i)) from funext fun i => by rw [b75], show (fun i => w (γ2 72 i)) = (fun i => w (γ 72 i)) from funext fun i => by rw [b72]] at this
            exact this
          · rcases z6 i r1 r2 with u | ⟨k, u1, u2, u3⟩
            · show 0 ≤ γ3 75 i ∧ γ3 75 i < S
              have := u.2
              have this : γ3 75 i = γ2 75 i := this
              rw [this, b75]; exact n6 i r1 u.1
            · show 0 ≤ γ3 75 i ∧ γ3 75 i < S
              have u3 : γ3 75 i = γ2 72 k := u3
              rw [u3, b72]; exact (t1 k (by omega) u2).1
          · rcases hal with v | v
            · obtain ⟨y1, y2, y3, y4⟩ := z9 v.1
              refine Or.inr ⟨v.2, y1, ?_, fun i r1 r2 => ?_, y4⟩
              · rcases y2 with u | ⟨i, u1, u2, u3⟩
                · exact Or.inl u
                · exact Or.inr ⟨i, u1, u2, by rw [← b72]; exact u3⟩
              · have := y3 i r1 r2
                rw [b72] at this
                exact this
            · exact Or.inl ⟨v.2, z8 (by omega)⟩
          · show γ3 69 s ≠ 0
            by_cases v : ∃ i, i0 ≤ i ∧ i < γ 10 9 ∧ γ 72 i = s
            · obtain ⟨i, v1, v2, v3⟩ := v
              rw [← v3, ga i v1 v2]; omega
            · rw [gb s (fun i r1 r2 r3 => v ⟨i, r1, r2, r3⟩)]; exact q3
      unfold f_Od_takeCircle f_Od_takeCircle_b20
      rw [b9, b72]
      have tt := t1 (γ 10 9 - 1) (by omega) (by omega)
      by_cases v : i0 = γ 10 9 - 1
      · have e : γ 72 (γ 10 9 - 1) = x := by rw [← v]; exact i3
        have ee : chk (i32 (γ 10 9 - 1)) (chk (inb (γ 10 9 - 1) 9001) (if γ 72 (γ 10 9 - 1) ≠ x then f_Od_takeCircle_L23 FU γ2 x 0 0 else f_Od_takeCircle_L23 FU γ2 x 1 0)) = f_Od_takeCircle_L23 FU γ2 x 1 0 := by
          rw [chk_t (show i32 (γ 10 9 - 1) by omega), chk_t (show inb (γ 10 9 - 1) 9001 by omega), if_neg (by omega)]
        rw [ee]
        exact run 1 (Or.inr ⟨rfl, v⟩)
      · have e : γ 72 (γ 10 9 - 1) ≠ x := fun w => by
          have := t2 i0 (γ 10 9 - 1) i1 (by omega) (by omega)
          rw [i3, w] at this
          omega
        have ee : chk (i32 (γ 10 9 - 1)) (chk (inb (γ 10 9 - 1) 9001) (if γ 72 (γ 10 9 - 1) ≠ x then f_Od_takeCircle_L23 FU γ2 x 0 0 else f_Od_takeCircle_L23 FU γ2 x 1 0)) = f_Od_takeCircle_L23 FU γ2 x 0 0 := by
          rw [chk_t (show i32 (γ 10 9 - 1) by omega), chk_t (show inb (γ 10 9 - 1) 9001 by omega), if_pos e]
        rw [ee]
        exact run 0 (Or.inl ⟨rfl, by omega⟩)
  refine wp_ite (fun c => fin γ1 (fun r => by omega) (fun r j k => ?_)) (fun c => ?_)
  · by_cases q : j = 10 ∧ k = 10
    · rw [if_pos q, q.1, q.2]; exact a10
    · rw [if_neg q, aj j k (by omega)]
  · have y := t4 (γ 10 10 - 2) (by omega) (by omega)
    refine wp_chk (by omega) (wp_chk (by omega) (wp_sub ?_))
    rw [show γ 10 10 - 1 - 1 = γ 10 10 - 2 by omega, aj 73 _ (by omega), aj 70 _ (by omega), aj 70 _ (by omega)]
    refine wp_chk (by omega) (wp_chk (by omega) (wp_chk (by omega) (wp_sub (fin _ (fun r j k => ?_) (fun r => by omega)))))
    rw [stA]
    by_cases q : j = 70 ∧ k = γ 73 (γ 10 10 - 2)
    · rw [if_pos q, if_pos q]
    · rw [if_neg q, if_neg q]
      by_cases q2 : j = 10 ∧ k = 10
      · rw [if_pos q2, q2.1, q2.2]; exact a10
      · rw [if_neg q2, aj j k (by omega)]
theorem opn_eq {γ : St} {c : Int} (hc : 0 ≤ c ∧ c < 9001) (h8 : 0 ≤ γ 10 8 ∧ γ 10 8 ≤ 9001) (h9 : 0 ≤ γ 10 9 ∧ γ 10 9 < 9001) (h10 : 0 ≤ γ 10 10 ∧ γ 10 10 < 9001) : wp (f_Od_openSlot γ c) (fun z => ∀ j k, z.2 j k = if j = 10 ∧ k = 10 then γ 10 10 + 1 else if j = 73 ∧ k = γ 10 10 then c else if j = 10 ∧ k = 9 then γ 10 9 + 1 else if j = 72 ∧ k = γ 10 9 then c else if j = 71 ∧ k = c then 0 else if j = 70 ∧ k = c then γ 10 8 + 1 else if j = 69 ∧ k = c then γ 10 8 + 1 else if j = 10 ∧ k = 8 then γ 10 8 + 1 else γ j k) := by
  unfold f_Od_openSlot
  refine wp_chk (by omega) (wp_sub (wp_chk (by omega) (wp_sub (wp_chk (by omega) (wp_sub (wp_chk (by omega) (wp_sub (wp_chk (by simp [stA]; omega) (wp_sub (wp_chk (by simp [stA]; omega) (wp_sub (wp_chk (by simp [stA]; omega) (wp_sub (wp_chk (by simp [stA]; omega) (wp_sub (wp_some ?_))))))))))))))))
  intro j k
  simp [stA]
