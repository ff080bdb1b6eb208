/-! the class's order: its functions -/
theorem note_wp (γ : St) (a : Int) : wp (f_Od_noteOwnCause γ a) (fun z => z.2 = setA γ 10 13 (if γ 10 13 < 0 ∨ a < γ 10 13 then a else γ 10 13)) := by
  unfold f_Od_noteOwnCause
  refine wp_ite (fun c => wp_sub (wp_some ?_)) (fun c => wp_ite (fun c2 => wp_some ?_) (fun c2 => wp_sub (wp_some ?_)))
  · rw [if_pos (by omega)]
  · rw [if_neg (by omega)]
    funext j k
    rw [stA]
    by_cases q : j = 10 ∧ k = 13
    · rw [if_pos q, q.1, q.2]
    · rw [if_neg q]
  · rw [if_pos (by omega)]
/-- what takeCircle leaves -/
def TcP (S : Int) (γ : St) (i0 al : Int) (γ' : St) : Prop := γ' 10 9 = i0 ∧ γ' 10 11 = γ 10 11 + (γ 10 9 - i0) ∧ (∀ i, i0 ≤ i → i < γ 10 9 → γ' 69 (γ 72 i) = S + 1) ∧ (∀ s, (∀ i, i0 ≤ i → i < γ 10 9 → γ 72 i ≠ s) → γ' 69 s = γ 69 s) ∧ (∀ w : Int → Int, sm (fun i => w (γ' 75 i)) 0 (γ' 10 11) = sm (fun i => w (γ 75 i)) 0 (γ 10 11) + sm (fun i => w (γ 72 i)) i0 (γ 10 9)) ∧ (∀ k, 0 ≤ k → k < γ' 10 11 → k < γ 10 11 ∧ γ' 75 k = γ 75 k ∨ ∃ i, i0 ≤ i ∧ i < γ 10 9 ∧ γ' 75 k = γ 72 i) ∧ (∀ j k, j ≠ 69 → j ≠ 75 → (j ≠ 10 ∨ k ≠ 9 ∧ k ≠ 11 ∧ k ≠ 13) → γ' j k = γ j k) ∧ (al ≠ 0 → γ' 10 13 = γ 10 13) ∧ (al = 0 → 0 ≤ γ' 10 13 ∧ (γ' 10 13 = γ 10 13 ∨ ∃ i, i0 ≤ i ∧ i < γ 10 9 ∧ γ' 10 13 = γ 72 i) ∧ (∀ i, i0 ≤ i → i < γ 10 9 → γ' 10 13 ≤ γ 72 i) ∧ (0 ≤ γ 10 13 → γ' 10 13 ≤ γ 10 13))
theorem circle_L1 {n : Nat} {γ : St} {a b : Int} (hn : 0 < n) : f_Od_takeCircle_L23 n γ a b 1 = some (0, γ) := by
  cases n with
  | zero => exact absurd hn (by omega)
  | succ n =>
    unfold f_Od_takeCircle_L23
    rw [if_pos (by omega)]
set_option maxHeartbeats 2000000 in
theorem w_circle_L23 {S x al i0 : Int} (hS : 0 ≤ S ∧ S ≤ 9001) (h0 : 0 ≤ i0) : ∀ (n : Nat) (γ : St), γ 8 5 = S → i0 < γ 10 9 → γ 72 i0 = x → (∀ i, i0 < i → i < γ 10 9 → γ 72 i ≠ x) → (∀ i, i0 ≤ i → i < γ 10 9 → 0 ≤ γ 72 i ∧ γ 72 i < S) → (0 ≤ γ 10 11 ∧ γ 10 11 + (γ 10 9 - i0) ≤ 9001) → γ 10 9 ≤ 9001 → γ 10 9 - i0 < n → wp (f_Od_takeCircle_L23 n γ x al 0) (fun z => TcP S γ i0 al z.2) := by
  intro n
  induction n with
  | zero => intro γ h1 h2 h3 h4 h5 h6 h7 h8; exfalso; omega
  | succ n ih =>
    intro γ h1 h2 h3 h4 h5 h6 h7 h8
    unfold f_Od_takeCircle_L23
    refine wp_ite (fun c => absurd rfl c) (fun _ => wp_ite (fun c => by omega) (fun c => ?_))
    refine wp_chk (by omega) (wp_sub (wp_chk (by simp [stA]; omega) (wp_sub ?_)))
    have a72 : ∀ k, setA γ 10 9 (γ 10 9 - 1) 72 k = γ 72 k := fun k => by rw [stA, if_neg (by omega)]
    have a9 : setA γ 10 9 (γ 10 9 - 1) 10 9 = γ 10 9 - 1 := by rw [stA, if_pos ⟨rfl, rfl⟩]
    rw [a9, a72]
    have top := h5 (γ 10 9 - 1) (by omega) (by omega)
    generalize hm : γ 72 (γ 10 9 - 1) = mb at *
    -- the tail, with the cause noted or not
    have tail : ∀ o, (al ≠ 0 ∧ o = γ 10 13 ∨ al = 0 ∧ o = (if γ 10 13 < 0 ∨ mb < γ 10 13 then mb else γ 10 13)) → ∀ γ1 : St, (∀ j k, γ1 j k = if j = 10 ∧ k = 13 then o else if j = 10 ∧ k = 9 then γ 10 9 - 1 else γ j k) → wp (f_Od_takeCircle_b65 (f_Od_takeCircle_L23 n) γ1 x al mb) (fun z => TcP S γ i0 al z.2) := by
      intro o ho γ1 s1
      have b85 : γ1 8 5 = S := by rw [s1]; simp; exact h1
      have b11 : γ1 10 11 = γ 10 11 := by rw [s1]; simp
      unfold f_Od_takeCircle_b65
      rw [b85]
      refine wp_chk (by omega) (wp_chk (by omega) (wp_sub (wp_chk (by simp [stA]; omega) (wp_sub (wp_chk (by simp [stA]; omega) (wp_sub ?_))))))
      generalize hh : setA _ 10 11 _ = γ2
      have s2 : ∀ j k, γ2 j k = if j = 10 ∧ k = 11 then γ 10 11 + 1 else if j = 75 ∧ k = γ 10 11 then mb else if j = 69 ∧ k = mb then S + 1 else if j = 10 ∧ k = 13 then o else if j = 10 ∧ k = 9 then γ 10 9 - 1 else γ j k := fun j k => by
        rw [← hh]
        simp only [stA]
        simp [b11]
        simp only [s1]
      have c9 : γ2 10 9 = γ 10 9 - 1 := by rw [s2]; simp
      have c11 : γ2 10 11 = γ 10 11 + 1 := by rw [s2]; simp
      have c13 : γ2 10 13 = o := by rw [s2]; simp
      have c69 : γ2 69 mb = S + 1 := by rw [s2]; simp
      have f69 : ∀ k, k ≠ mb → γ2 69 k = γ 69 k := fun k q => by rw [s2]; simp [q]
      have f72 : ∀ k, γ2 72 k = γ 72 k := fun k => by rw [s2]; simp
      have c75 : γ2 75 (γ 10 11) = mb := by rw [s2]; simp
      have f75 : ∀ k, k ≠ γ 10 11 → γ2 75 k = γ 75 k := fun k q => by rw [s2]; simp [q]
      have fo : ∀ j k, j ≠ 69 → j ≠ 75 → (j ≠ 10 ∨ k ≠ 9 ∧ k ≠ 11 ∧ k ≠ 13) → γ2 j k = γ j k := fun j k q1 q2 q3 => by rw [s2]; repeat rw [if_neg (by omega)]
      have w1 : ∀ w : Int → Int, sm (fun i => w (γ2 75 i)) 0 (γ 10 11 + 1) = sm (fun i => w (γ 75 i)) 0 (γ 10 11) + w mb := fun w => by
        rw [sm_succ h6.1, sm_ext (f := fun i => w (γ2 75 i)) (g := fun i => w (γ 75 i)) (fun i q1 q2 => by show w (γ2 75 i) = w (γ 75 i); rw [f75 i (by omega)])]
        show _ + w (γ2 75 (γ 10 11)) = _
        rw [c75]
      have w2 : ∀ w : Int → Int, sm (fun i => w (γ 72 i)) i0 (γ 10 9) = sm (fun i => w (γ 72 i)) i0 (γ 10 9 - 1) + w mb := fun w => by
        have := sm_succ (f := fun i => w (γ 72 i)) (a := i0) (b := γ 10 9 - 1) (by omega)
        rw [show γ 10 9 - 1 + 1 = γ 10 9 by omega, hm] at this
        exact this
      have oA : al = 0 → 0 ≤ o ∧ o ≤ mb ∧ (o = γ 10 13 ∨ o = mb) ∧ (0 ≤ γ 10 13 → o ≤ γ 10 13) := fun q => by
        rcases ho with r | r
        · exact absurd q r.1
        · have := r.2
          split at this <;> omega
      unfold f_Od_takeCircle_b113
      refine wp_ite (fun q => ?_) (fun q => ?_)
      · have il : i0 < γ 10 9 - 1 := by
          rcases Int.lt_or_le i0 (γ 10 9 - 1) with v | v
          · exact v
          · exfalso
            apply q
            rw [← hm, ← h3, show γ 10 9 - 1 = i0 by omega]
        refine wp_mono (ih γ2 (by rw [s2]; simp; exact h1) (by omega) (by rw [f72]; exact h3) (fun i r1 r2 => by rw [f72]; exact h4 i r1 (by omega)) (fun i r1 r2 => by rw [f72]; exact h5 i r1 (by omega)) (by omega) (by omega) (by omega)) (fun z hz => ?_)
        obtain ⟨z1, z2, z3, z4, z5, z6, z7, z8, z9⟩ := hz
        rw [c9] at z2 z3 z4 z5 z6 z9
        rw [c11] at z2 z5 z6
        rw [c13] at z8 z9
        refine ⟨z1, by omega, fun i r1 r2 => ?_, fun s r => ?_, fun w => ?_, fun k r1 r2 => ?_, fun j k r1 r2 r3 => by rw [z7 j k r1 r2 r3, fo j k r1 r2 r3], fun r => ?_, fun r => ?_⟩
        · by_cases u : i = γ 10 9 - 1
          · rw [u, hm]
            by_cases v : ∃ k, i0 ≤ k ∧ k < γ 10 9 - 1 ∧ γ 72 k = mb
            · obtain ⟨k, v1, v2, v3⟩ := v
              have := z3 k v1 v2
              rw [f72, v3] at this
              exact this
            · rw [z4 mb (fun k v1 v2 v3 => v ⟨k, v1, v2, by rw [← f72]; exact v3⟩)]; exact c69
          · have := z3 i r1 (by omega)
            rw [f72] at this
            exact this
        · have sm : s ≠ mb := fun u => r (γ 10 9 - 1) (by omega) (by omega) (by rw [hm, u])
          rw [z4 s (fun i r1 r2 => by rw [f72]; exact r i r1 (by omega)), f69 s sm]
        · rw [z5 w, w1, w2, show (fun i => w (γ2 72 i)) = (fun i => w (γ 72 i)) from funext fun i => by rw [f72]]
          omega
        · rcases z6 k r1 r2 with u | u
          · by_cases v : k = γ 10 11
            · refine Or.inr ⟨γ 10 9 - 1, by omega, by omega, ?_⟩
              rw [u.2, v, c75, hm]
            · exact Or.inl ⟨by omega, by rw [u.2, f75 k v]⟩
          · obtain ⟨i, u1, u2, u3⟩ := u
            exact Or.inr ⟨i, u1, by omega, by rw [u3, f72]⟩
        · rw [z8 r]
          rcases ho with v | v
          · exact v.2
          · exact absurd v.1 r
        · have oa := oA r
          obtain ⟨y1, y2, y3, y4⟩ := z9 r
          refine ⟨y1, ?_, fun i r1 r2 => ?_, fun u => ?_⟩
          · rcases y2 with u | ⟨i, u1, u2, u3⟩
            · rcases oa.2.2.1 with v | v
              · exact Or.inl (by omega)
              · exact Or.inr ⟨γ 10 9 - 1, by omega, by omega, by rw [hm]; omega⟩
            · exact Or.inr ⟨i, u1, by omega, by rw [u3, f72]⟩
          · by_cases u : i = γ 10 9 - 1
            · rw [u, hm]; have := y4 oa.1; omega
            · have := y3 i r1 (by omega)
              rw [f72] at this
              exact this
          · have := y4 oa.1
            have := oa.2.2.2 u
            omega
      · have q : mb = x := by omega
        have il : i0 = γ 10 9 - 1 := by
          rcases Int.lt_or_le i0 (γ 10 9 - 1) with v | v
          · exact absurd (by rw [hm]; exact q) (h4 (γ 10 9 - 1) v (by omega))
          · omega
        refine wp_eq (circle_L1 (by omega)) ?_
        refine ⟨by show γ2 10 9 = _; omega, by show γ2 10 11 = _; omega, fun i r1 r2 => ?_, fun s r => ?_, fun w => ?_, fun k r1 r2 => ?_, fo, fun r => ?_, fun r => ?_⟩
        · show γ2 69 (γ 72 i) = _
          rw [show i = γ 10 9 - 1 by omega, hm]; exact c69
        · show γ2 69 s = _
          exact f69 s (fun u => r (γ 10 9 - 1) (by omega) (by omega) (by rw [hm, u]))
        · show sm (fun i => w (γ2 75 i)) 0 (γ2 10 11) = _
          rw [c11, w1, w2, il, sm_nil (Int.le_refl _)]
          omega
        · have r2 : k < γ2 10 11 := r2
          show k < γ 10 11 ∧ γ2 75 k = γ 75 k ∨ ∃ i, i0 ≤ i ∧ i < γ 10 9 ∧ γ2 75 k = γ 72 i
          by_cases v : k = γ 10 11
          · exact Or.inr ⟨γ 10 9 - 1, by omega, by omega, by rw [v, c75, hm]⟩
          · exact Or.inl ⟨by omega, f75 k v⟩
        · show γ2 10 13 = _
          rcases ho with v | v
          · omega
          · exact absurd v.1 r
        · have oa := oA r
          show 0 ≤ γ2 10 13 ∧ (γ2 10 13 = γ 10 13 ∨ ∃ i, i0 ≤ i ∧ i < γ 10 9 ∧ γ2 10 13 = γ 72 i) ∧ (∀ i, i0 ≤ i → i < γ 10 9 → γ2 10 13 ≤ γ 72 i) ∧ (0 ≤ γ 10 13 → γ2 10 13 ≤ γ 10 13)
          rw [c13]
          refine ⟨oa.1, ?_, fun i r1 r2 => ?_, oa.2.2.2⟩
          · rcases oa.2.2.1 with v | v
            · exact Or.inl v
            · exact Or.inr ⟨γ 10 9 - 1, by omega, by omega, by rw [hm]; exact v⟩
          · rw [show i = γ 10 9 - 1 by omega, hm]; exact oa.2.1
    refine wp_ite (fun c2 => ?_) (fun c2 => ?_)
    · refine tail (γ 10 13) (Or.inl ⟨c2, rfl⟩) _ (fun j k => ?_)
      rw [stA]
      by_cases q : j = 10 ∧ k = 13
      · rw [if_pos q, if_neg (by omega), q.1, q.2]
      · rw [if_neg q]
    · have a13 : setA γ 10 9 (γ 10 9 - 1) 10 13 = γ 10 13 := by rw [stA, if_neg (by omega)]
      refine wp_bnd (note_wp _ _) (fun r γ1 q => ?_)
      have q : γ1 = _ := q
      rw [a13] at q
      refine tail _ (Or.inr ⟨by omega, rfl⟩) γ1 (fun j k => ?_)
      rw [q, stA, stA]
