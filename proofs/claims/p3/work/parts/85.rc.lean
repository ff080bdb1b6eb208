/-! the class's expression reader: operators and closers -/
def addS (γ : St) (a0 a1 a2 : Int) : St := setA (setA (setA (setA (setA γ 38 (γ 4 4) a0) 39 (γ 4 4) a1) 40 (γ 4 4) a2) 41 (γ 4 4) (-2)) 4 4 (γ 4 4 + 1)
theorem addS_v (γ : St) (a0 a1 a2 : Int) (j : Nat) (k : Int) : addS γ a0 a1 a2 j k = if j = 4 ∧ k = 4 then γ 4 4 + 1 else if j = 41 ∧ k = γ 4 4 then -2 else if j = 40 ∧ k = γ 4 4 then a2 else if j = 39 ∧ k = γ 4 4 then a1 else if j = 38 ∧ k = γ 4 4 then a0 else γ j k := by simp [addS, stA]
theorem add_eq {γ : St} {a0 a1 a2 : Int} (h : 0 ≤ γ 4 4 ∧ γ 4 4 < 65537) : f_Cd_add γ a0 a1 a2 = some (0, addS γ a0 a1 a2) := by
  unfold f_Cd_add
  exact some_wp (wp_chk (by omega) (wp_sub (wp_chk (by simp [stA]; omega) (wp_sub (wp_chk (by simp [stA]; omega) (wp_sub (wp_chk (by simp [stA]; omega) (wp_sub (wp_chk (by simp [stA]; omega) (wp_sub (wp_some (by simp [addS, stA]))))))))))))
theorem ErJ.m1 {γ : St} (h : ErJ γ) (hn : γ 6 12 = 0) : 1 ≤ γ 6 9 := by
  have ⟨hT, i1, i2, i3, i4, i5, i6, i7⟩ := h
  have := sumK_nn (f := ndK) (g := γ 48) (fun k => (ndK_b k).1) (n := (γ 6 8).toNat)
  omega
theorem ErJ.rm {γ : St} (h : ErJ γ) : γ 4 4 ≤ 10240 ∧ γ 1 6 ≤ 10240 := by
  have ⟨hT, i1, i2, i3, i4, i5, i6, i7⟩ := h
  have t1 := hT.1.2.1
  have t2 := hT.2.1
  omega
theorem ErS.nI {γ : St} (h : ErS γ) : 0 ≤ inS γ (γ 6 8) := inS_nn (fun i q1 q2 q3 => (h.2.2.2.1 i q1 q2 q3).2.1)
set_option maxHeartbeats 1000000 in
theorem w_readWhen {γ : St} (h : RS γ) (hn : γ 6 12 = 0) (hk : γ 14 (γ 1 6) ≠ 0) : wp (f_Er_readWhen γ) (RsP γ) := by
  have ⟨v1, v2, v3, v4, v5⟩ := h.2.2.1
  unfold f_Er_readWhen
  refine wp_chk (by omega) (wp_bnd (w_readClock h.1.1 h.2.2.1 hk (by omega)) (fun r γ7 hz => ?_))
  obtain ⟨z1, z2, z3⟩ := hz
  have z1 : TkR γ7 := z1
  have z2 : FrC γ γ7 := z2
  have z3 : r = -1 ∧ γ7 1 7 ≠ 0 ∧ γ 1 6 ≤ γ7 1 6 ∨ 0 ≤ r ∧ r < 2 * γ 28 (γ 3 9) ∧ γ7 1 7 = γ 1 7 ∧ γ 1 6 < γ7 1 6 := by
    rcases z3 with q | q
    · exact Or.inl q
    · exact Or.inr ⟨q.1, q.2.1, q.2.2.1, q.2.2.2.1⟩
  have h7 : RS γ7 := h.fr z1 z2 (by omega)
  refine wp_ite (fun c => ?_) (fun c => wp_some ⟨h7, z2.R, by show γ 1 6 ≤ γ7 1 6; omega, Or.inl (z2 6 14 (by omega)), Or.inl ⟨rfl, by show γ7 1 7 ≠ 0; omega⟩⟩)
  have ⟨hT, i1, i2, i3, i4, i5, i6, i7⟩ := h7.1
  have rm := h7.1.rm
  have n7 : γ7 6 12 = 0 := by rw [z2 6 12 (by omega)]; exact hn
  have m1 := h7.1.m1 n7
  have nI := h7.2.1.nI
  have e4 := z2 4 4 (by omega)
  have e8 := z2 6 8 (by omega)
  have j6 := h.1.2.2.2.2.2.2.1
  have hh := i7 (γ7 6 9 - 1) (by omega) (by omega)
  have a9 : addS γ7 27 r 1 6 9 = γ7 6 9 := by rw [addS_v]; simp
  have a52 : addS γ7 27 r 1 52 (γ7 6 9 - 1) = γ7 52 (γ7 6 9 - 1) := by rw [addS_v]; simp
  refine wp_bs (add_eq (by omega)) ?_
  refine wp_chk (by omega) (wp_chk (by omega) (wp_chk (by rw [a9, a52]; omega) (wp_chk (by omega) (wp_sub ?_))))
  rw [a9, a52]
  generalize hs : setA (addS γ7 27 r 1) 52 (γ7 6 9 - 1) (γ7 52 (γ7 6 9 - 1) + 1) = γs
  have s0 : ∀ j k, γs j k = if j = 52 ∧ k = γ7 6 9 - 1 then γ7 52 (γ7 6 9 - 1) + 1 else if j = 4 ∧ k = 4 then γ7 4 4 + 1 else if j = 41 ∧ k = γ7 4 4 then -2 else if j = 40 ∧ k = γ7 4 4 then 1 else if j = 39 ∧ k = γ7 4 4 then r else if j = 38 ∧ k = γ7 4 4 then 27 else γ7 j k := fun j k => by rw [← hs, stA, addS_v]
  have b8 : γs 6 8 = γ7 6 8 := by rw [s0]; simp
  have b9 : γs 6 9 = γ7 6 9 := by rw [s0]; simp
  have b4 : γs 4 4 = γ7 4 4 + 1 := by rw [s0]; simp
  have b16 : γs 1 6 = γ7 1 6 := by rw [s0]; simp
  have b17 : γs 1 7 = γ7 1 7 := by rw [s0]; simp
  have b48 : γs 48 = γ7 48 := funext fun k => by rw [s0]; simp
  have b14 : γs 6 14 = γ 6 14 := by rw [s0]; simpa using z2 6 14 (by omega)
  have hRS : RS γs := by
    refine ⟨⟨hT.ext (fun j k hj => by rw [s0]; repeat rw [if_neg (by omega)]), ?_, ?_, ?_, ?_, ?_, ?_, fun i h1 h2 => ?_⟩, ?_, ?_⟩
    · rw [b8]; exact i1
    · rw [b9]; exact i2
    · rw [s0]; simpa using i3
    · rw [b9, b8, b48, s0 6 12]; simpa using i4
    · rw [b8, b48, s0 6 10]; simpa using i5
    · rw [b4, b8, b16]; omega
    · rw [b9] at h2
      rw [b4, s0]
      have := i7 i h1 h2
      grind
    · refine h7.2.1.add b4 (fun j k hj => by rw [s0]; repeat rw [if_neg (by omega)]) ?_ ?_ ?_
      · rw [b8, b9, s0 40, inS_ext (γ := γ7) (fun i _ _ => ⟨by rw [s0]; simp, by rw [s0]; simp⟩)]; simp
      · intro i h1 h2 h3
        rw [b8] at h2
        rw [b48] at h3
        have := h7.2.1.2.2.2.1 i h1 h2 h3
        unfold ClI at this ⊢
        rw [b4, s0 49, s0 50, s0 51, s0 3 9]
        simp
        omega
      · rw [s0 38, s0 39, s0 40, z2 28 _ (by omega), z2 3 9 (by omega)]
        simp
        unfold sdK
        omega
    · exact ⟨h7.2.2.1.ext (fun j k hj => by rw [s0]; repeat rw [if_neg (by omega)]), h7.2.2.2.ext (by omega) (fun k => by rw [b48])⟩
  have hFR : FrR γ γs := z2.R.tr ⟨fun j k h1 h2 h3 h4 => by rw [s0]; repeat rw [if_neg (by omega)], by omega, fun j k h1 h2 h3 => by rw [s0]; repeat rw [if_neg (by omega)]⟩
  refine wp_chk (by omega) (wp_chk (by omega) (wp_ite (fun _ => wp_some ⟨hRS, hFR, by show γ 1 6 ≤ γs 1 6; omega, Or.inl b14, Or.inr ⟨rfl, by show γs 1 7 = _; omega, by show γ 1 6 < γs 1 6; omega⟩⟩) (fun _ => ?_)))
  have q := hRS.fail (a := 3) (by omega)
  refine wp_bs (fail_eq hRS.1.1) (wp_ite (fun _ => wp_some (q.pre hFR (by omega) (by omega) b14)) (fun c => absurd rfl c))
theorem w_readTwoSided_b91 {γ : St} {k x6 : Int} (h : RS γ) (hn : ndK k = 1 - γ 6 12) (hk : γ 14 (γ 1 6) ≠ 0) (h43 : k ≠ 43 ∧ k ≠ 0) : wp (f_Er_readTwoSided_b91 γ k x6) (RsP γ) := by
  unfold f_Er_readTwoSided_b91 f_Er_readTwoSided_b103
  exact wp_ite (fun _ => wp_id (w_push h hn hk (Or.inl rfl) h43)) (fun _ => wp_id (w_push h hn hk (Or.inr rfl) h43))
theorem FrR.c {γ γ' : St} (h : FrR γ γ') (j : Nat) (k : Int) (h1 : j = 2 ∨ j = 3 ∨ 14 ≤ j ∧ j < 38 ∨ j = 1 ∧ k < 6 ∨ j = 4 ∧ k ≠ 4 ∨ 42 ≤ j ∧ j < 48) : γ' j k = γ j k := h.1 j k (by omega) (by omega) (by omega) (by omega)
theorem RdP.N {γ : St} {z : Int × St} (h : RdP γ z) (hV : NdV γ ∧ NZ γ) : RS z.2 := ⟨h.1, h.2.2.2.2.2.2.1, hV.1.ext (fun j k hj => h.2.1.c j k (by omega)), hV.2.ext h.2.2.2.1 (fun k => h.2.2.2.2.2.1 48 k (by omega))⟩
theorem w_readTwoSided_b28 {γ : St} {k x8 x9 : Int} (h : RS γ) (hn : γ 6 12 = 0) (hk : γ 14 (γ 1 6) ≠ 0) (hd : ndK k = 1) (h43 : k ≠ 43 ∧ k ≠ 0) (h9 : 1 ≤ x9) : wp (f_Er_readTwoSided_b28 γ k x8 x9) (RsP γ) := by
  unfold f_Er_readTwoSided_b28
  refine wp_bnd (w_Er_reduce h.1 h.2.1 hn h9) (fun r γ1 hz => ?_)
  have hz : RdP γ (r, γ1) := hz
  have hR : RS γ1 := hz.N h.2.2
  have hF : FrR γ γ1 := hz.2.1
  have h14 : γ1 6 14 = γ 6 14 := hz.2.2.2.2.2.1 6 14 (by omega)
  have h12 : γ1 6 12 = 0 := hz.2.2.1
  have h16 : γ1 1 6 = γ 1 6 := hz.2.2.2.2.1
  have hk1 : γ1 14 (γ1 1 6) ≠ 0 := by rw [h16, hF.c 14 _ (by omega)]; exact hk
  have i1 := hR.1.2.1
  have h7 : r = 0 ∧ γ1 1 7 ≠ 0 ∨ r = 1 ∧ γ1 1 7 = γ 1 7 := hz.2.2.2.2.2.2.2
  refine wp_ite (fun c => ?_) (fun c => wp_some ⟨hR, hF, Int.le_of_eq h16.symm, Or.inl h14, Or.inl ⟨rfl, by show γ1 1 7 ≠ 0; omega⟩⟩)
  have h17 : γ1 1 7 = γ 1 7 := by omega
  have g : wp (f_Er_readTwoSided_b91 γ1 k x8) (RsP γ) := wp_mono (w_readTwoSided_b91 hR (by omega) hk1 h43) (fun z q => q.pre hF (by omega) h17 h14)
  refine wp_ite (fun _ => g) (fun _ => wp_ite (fun _ => g) (fun c2 => wp_chk (by omega) (wp_chk (by omega) (wp_bs (f_S_rank_eq _ _) (wp_ite (fun _ => g) (fun _ => ?_))))))
  refine wp_bnd (w_Er_reduce hR.1 hR.2.1 h12 (by omega)) (fun r2 γ2 hz2 => ?_)
  have hz2 : RdP γ1 (r2, γ2) := hz2
  have hR2 : RS γ2 := hz2.N hR.2.2
  have hF2 : FrR γ γ2 := hF.tr hz2.2.1
  have h162 : γ2 1 6 = γ1 1 6 := hz2.2.2.2.2.1
  have h142 : γ2 6 14 = γ1 6 14 := hz2.2.2.2.2.2.1 6 14 (by omega)
  have h72 : r2 = 0 ∧ γ2 1 7 ≠ 0 ∨ r2 = 1 ∧ γ2 1 7 = γ1 1 7 := hz2.2.2.2.2.2.2.2
  refine wp_ite (fun c3 => wp_some ⟨hR2, hF2, by show γ 1 6 ≤ γ2 1 6; omega, Or.inl (h142.trans h14), Or.inl ⟨rfl, by show γ2 1 7 ≠ 0; omega⟩⟩) (fun c3 => ?_)
  have q := hR2.fail (a := 1) (by omega)
  refine wp_bs (fail_eq hR2.1.1) (wp_ite (fun _ => wp_some (q.pre hF2 (by omega) (by omega) (by omega))) (fun c => absurd rfl c))
theorem w_readTwoSided {γ : St} {k x : Int} (h : RS γ) (hn : γ 6 12 = 0) (hk : γ 14 (γ 1 6) ≠ 0) (hd : ndK k = 1) (h43 : k ≠ 43 ∧ k ≠ 0) (hx : 1 ≤ x ∧ x ≤ 8) : wp (f_Er_readTwoSided γ k x) (RsP γ) := by
  have b : ∀ x9, 1 ≤ x9 → wp (f_Er_readTwoSided_b28 γ k x x9) (RsP γ) := fun x9 h9 => w_readTwoSided_b28 h hn hk hd h43 h9
  have b21 : wp (f_Er_readTwoSided_b21 γ k x) (RsP γ) := by
    unfold f_Er_readTwoSided_b21
    exact wp_chk (by omega) (b _ (by omega))
  unfold f_Er_readTwoSided f_Er_readTwoSided_b10
  exact wp_ite (fun _ => wp_ite (fun _ => b21) (fun _ => wp_ite (fun _ => b _ (by omega)) (fun _ => b21))) (fun _ => wp_ite (fun _ => b21) (fun _ => wp_ite (fun _ => b _ (by omega)) (fun _ => b21)))
