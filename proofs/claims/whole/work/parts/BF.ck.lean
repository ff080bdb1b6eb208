/-! equality: a group's clock -/
def ckS (γ : St) (i c d : Int) : St := fun j k => if j = 34 ∧ i ≤ k ∧ k < γ 3 15 then c else if j = 35 ∧ i ≤ k ∧ k < γ 3 15 then d else γ j k
def ckD (δ : St) (i c : Int) : St := fun j k => if j = 12 ∧ i ≤ k ∧ k < δ 0 19 then c else δ j k
theorem ckS_o (γ : St) (i c d : Int) {j : Nat} {k : Int} (h : j ≠ 34 ∧ j ≠ 35 ∨ k < i) : ckS γ i c d j k = γ j k := by
  show (if _ then _ else _) = _
  rw [if_neg (by omega), if_neg (by omega)]
theorem ckD_o (δ : St) (i c : Int) {j : Nat} {k : Int} (h : j ≠ 12 ∨ k < i) : ckD δ i c j k = δ j k := by
  show (if _ then _ else _) = _
  rw [if_neg (by omega)]
theorem pq_ckC {α : Type} {m : Option α} {Q : Int × St → α → Prop} {c f d : Int} : ∀ (n : Nat) (γ : St) (i : Int), γ 35 (f + ishr c 1) + 1 = d → f + ishr c 1 < i → pq (some (1, ckS γ i c d)) m Q → pq (f_Nr_readGroupClock_L50 n γ c f i) m Q := by
  intro n
  induction n with
  | zero => intro γ i _ _ _; exact pq_nl
  | succ n ih =>
    intro γ i hd hi h
    unfold f_Nr_readGroupClock_L50
    refine pq_il (fun q => ?_) (fun q => ?_)
    · have e1 : ckS γ i c d = γ := by
        funext j k
        show (if _ then _ else _) = _
        rw [if_neg (by omega), if_neg (by omega)]
      rw [e1] at h
      exact h
    · refine pq_cl (fun _ => pq_al (pq_cl (fun _ => pq_cl (fun _ => pq_cl (fun _ => pq_cl (fun _ => pq_al (pq_cl (fun _ => ?_))))))))
      have r35 : setA γ 34 i c 35 (f + ishr c 1) + 1 = d := by rw [stA, if_neg (by omega)]; exact hd
      rw [r35]
      refine ih _ (i + 1) ?_ (by omega) ?_
      · rw [stA, if_neg (by omega), stA, if_neg (by omega)]; exact hd
      · have e2 : ckS (setA (setA γ 34 i c) 35 i d) (i + 1) c d = ckS γ i c d := by
          funext j k
          show (if j = 34 ∧ i + 1 ≤ k ∧ k < setA (setA γ 34 i c) 35 i d 3 15 then c else if j = 35 ∧ i + 1 ≤ k ∧ k < setA (setA γ 34 i c) 35 i d 3 15 then d else setA (setA γ 34 i c) 35 i d j k) = if j = 34 ∧ i ≤ k ∧ k < γ 3 15 then c else if j = 35 ∧ i ≤ k ∧ k < γ 3 15 then d else γ j k
          rw [show setA (setA γ 34 i c) 35 i d 3 15 = γ 3 15 by rw [stA, if_neg (by omega), stA, if_neg (by omega)], stA, stA]
          by_cases a : j = 34 ∧ i ≤ k ∧ k < γ 3 15
          · rw [if_pos a]
            by_cases a2 : k = i
            · rw [if_neg (by omega), if_neg (by omega), if_neg (by omega), if_pos (by omega)]
            · rw [if_pos (by omega)]
          · rw [if_neg a, if_neg (show ¬ (j = 34 ∧ i + 1 ≤ k ∧ k < γ 3 15) by omega)]
            by_cases b : j = 35 ∧ i ≤ k ∧ k < γ 3 15
            · rw [if_pos b]
              by_cases b2 : k = i
              · rw [if_neg (by omega), if_pos (by omega)]
              · rw [if_pos (by omega)]
            · rw [if_neg b, if_neg (show ¬ (j = 35 ∧ i + 1 ≤ k ∧ k < γ 3 15) by omega), if_neg (by omega), if_neg (by omega)]
        rw [e2]
        exact h
theorem pq_ckD {α : Type} {o : Option α} {Q : α → Res → Prop} {b r c : Int} : ∀ (n : Nat) (δ : St) (i : Int), 2 * (r - δ 4 (δ 0 18)) + (if b = 0 then 1 else 0) = c → pq o (some (.inr 0, ckD δ i c)) Q → pq o (f_M_group_L333 n δ b r i) Q := by
  intro n
  induction n with
  | zero => intro γ i _ _; exact pq_nr
  | succ n ih =>
    intro γ i hc h
    unfold f_M_group_L333
    refine pq_ir (fun q => ?_) (fun q => ?_)
    · have e1 : ckD γ i c = γ := by
        funext j k
        show (if _ then _ else _) = _
        rw [if_neg (by omega)]
      rw [e1] at h
      exact h
    · have e2 : ckD (setA γ 12 i c) (i + 1) c = ckD γ i c := by
        funext j k
        show (if j = 12 ∧ i + 1 ≤ k ∧ k < setA γ 12 i c 0 19 then c else setA γ 12 i c j k) = if j = 12 ∧ i ≤ k ∧ k < γ 0 19 then c else γ j k
        rw [show setA γ 12 i c 0 19 = γ 0 19 by rw [stA, if_neg (by omega)], stA]
        by_cases a : j = 12 ∧ i ≤ k ∧ k < γ 0 19
        · rw [if_pos a]
          by_cases a2 : j = 12 ∧ k = i
          · rw [if_neg (by omega), if_pos a2]
          · rw [if_pos (by omega)]
        · rw [if_neg a, if_neg (by omega), if_neg (by omega)]
      rw [← e2] at h
      have k := ih (setA γ 12 i c) (i + 1) (by rw [stA, if_neg (by omega), stA, if_neg (by omega)]; exact hc) h
      unfold f_M_group_b372
      refine pq_cr (fun _ => pq_cr (fun _ => pq_cr (fun _ => pq_ir (fun q2 => ?_) (fun q2 => ?_))))
      · rw [if_pos q2] at hc
        rw [hc]
        exact pq_cr (fun _ => pq_cr (fun _ => pq_ar (pq_cr (fun _ => k))))
      · rw [if_neg q2] at hc
        rw [hc]
        exact pq_cr (fun _ => pq_cr (fun _ => pq_ar (pq_cr (fun _ => k))))
theorem DcR.ck {N t i r s d : Int} {γ δ : St} (h : DcR N t γ δ) (hs : s = 0 ∨ s = 1) (hr : 0 ≤ r ∧ δ 4 (δ 0 18) + r < i) (h2 : 2 * r + s ≤ 2147483647) (hi : i ≤ δ 0 19) (hd : γ 35 (δ 4 (δ 0 18) + r) + 1 = d) (h8 : γ 35 (δ 4 (δ 0 18) + r) ≠ 8) : DcR N t (ckS γ i (2 * r + s) d) (ckD δ i (2 * r + s)) := by
  have ⟨h1, h2', h3, h4, h5, h6⟩ := h
  have er : ∀ j, j ≠ 34 → j ≠ 35 → ckS γ i (2 * r + s) d j = γ j := fun j q1 q2 => funext fun k => ckS_o γ i _ d (by omega)
  have dr : ∀ j, j ≠ 12 → ckD δ i (2 * r + s) j = δ j := fun j q => funext fun k => ckD_o δ i _ (by omega)
  have r2 := h4.2.1
  have b0 := h6 (δ 4 (δ 0 18) + r) (by omega) (by omega)
  refine ⟨h1.fr (fun j k q => ckS_o γ i _ d (by omega)) (fun k _ _ => ckS_o γ i _ d (by omega)) (ckS_o γ i _ d (by omega)) (dr 1 (by omega)) (fun k _ => ckD_o δ i _ (by omega)), ?_, ?_, ?_, ?_, ?_⟩
  · unfold NmR spW at h2' ⊢
    rw [er 13 (by omega) (by omega), er 18 (by omega) (by omega), er 19 (by omega) (by omega), er 22 (by omega) (by omega), er 21 (by omega) (by omega), er 2 (by omega) (by omega), dr 4 (by omega), dr 10 (by omega), dr 11 (by omega), dr 0 (by omega)]
    exact h2'
  · unfold NnR spW at h3 ⊢
    rw [er 13 (by omega) (by omega), er 18 (by omega) (by omega), er 19 (by omega) (by omega), er 23 (by omega) (by omega), er 2 (by omega) (by omega), dr 2 (by omega), dr 3 (by omega), dr 0 (by omega)]
    exact h3
  · unfold VrR at h4 ⊢
    rw [er 3 (by omega) (by omega), er 25 (by omega) (by omega), er 28 (by omega) (by omega), dr 4 (by omega), dr 0 (by omega)]
    exact h4
  · unfold VdR
    rw [er 36 (by omega) (by omega), er 33 (by omega) (by omega), dr 13 (by omega), dr 14 (by omega), dr 0 (by omega)]
    intro u q1 q2
    have b := h5 u q1 q2
    refine ⟨?_, b.2⟩
    show (if 34 = 34 ∧ i ≤ u ∧ u < γ 3 15 then 2 * r + s else if 34 = 35 ∧ i ≤ u ∧ u < γ 3 15 then d else γ 34 u) = if 12 = 12 ∧ i ≤ u ∧ u < δ 0 19 then 2 * r + s else δ 12 u
    by_cases c : i ≤ u
    · rw [if_pos ⟨rfl, c, by omega⟩, if_pos ⟨rfl, c, q2⟩]
    · rw [if_neg (by omega), if_neg (by omega), if_neg (by omega)]
      exact b.1
  · unfold DpR
    rw [dr 4 (by omega), dr 0 (by omega)]
    intro u q1 q2
    by_cases c : i ≤ u
    · have e12 : ckD δ i (2 * r + s) 12 u = 2 * r + s := by show (if _ then _ else _) = _; rw [if_pos ⟨rfl, c, q2⟩]
      have e35 : ckS γ i (2 * r + s) d 35 u = d := by show (if _ then _ else _) = _; rw [if_neg (by omega), if_pos ⟨rfl, c, by omega⟩]
      have eh : (2 * r + s) / 2 = r := by omega
      rw [e12, e35, eh, ckS_o γ i _ d (Or.inr hr.2)]
      exact ⟨by omega, Or.inr ⟨by omega, hd.symm⟩⟩
    · have b := h6 u q1 q2
      rw [ckS_o γ i _ d (by omega), ckD_o δ i _ (by omega)]
      refine ⟨b.1, ?_⟩
      rcases b.2 with b | b
      · exact Or.inl b
      · rw [ckS_o γ i _ d (by have := b.1; omega)]
        exact Or.inr b
theorem shallow_pc {γ δ : St} (h : DpR γ δ) : ∀ (n : Nat) (x v : Int), δ 4 (δ 0 18) ≤ v → v < δ 0 19 → pc (f_M_shallow_L4 f_M_shallow_b39 n δ x v) (fun z => x + γ 35 v < 8 ∧ z = (.inr 0, δ) ∨ 8 ≤ x + γ 35 v ∧ z = (.inl (3, δ 0 7), δ)) := by
  intro n
  induction n with
  | zero => intro x v _ _; exact pc_n
  | succ n ih =>
    intro x v h1 h2
    have b := h v h1 h2
    unfold f_M_shallow_L4
    refine pc_c (fun _ => pc_i (fun q => ?_) (fun q => ?_))
    · rcases b.2 with b | b
      · unfold f_M_shallow_b39
        rw [b.2]
        refine pc_i (fun q2 => pc_s (Or.inl ⟨by omega, rfl⟩)) (fun q2 => pc_s (Or.inr ⟨by omega, rfl⟩))
      · have := b.1; exfalso; omega
    · refine pc_c (fun _ => pc_c (fun _ => pc_c (fun _ => pc_c (fun _ => pc_c (fun _ => pc_a ?_)))))
      rcases b.2 with b | b
      · exact absurd b.1 q
      · rw [idiv_2 b.1.1 b.1.2.1]
        have e := b.2
        exact pc_m (ih (x + 1) _ (by have := b.1; omega) (by have := b.1; omega)) (fun z k => by
          rcases k with k | k
          · exact Or.inl ⟨by omega, k.2⟩
          · exact Or.inr ⟨by omega, k.2⟩)
theorem FcD.ck {v0 g i c d : Int} {γ : St} (h : v0 ≤ i) : FcD v0 g γ (ckS γ i c d) := fun j k _ _ _ _ q _ => by
  show (if _ then _ else _) = _
  rw [if_neg (by omega), if_neg (by omega)]
theorem Fg.ck {v0 i c : Int} {γ : St} (h : v0 ≤ i) : Fg v0 γ (ckD γ i c) := fun j k _ q => by
  show (if _ then _ else _) = _
  rw [if_neg (by omega)]
