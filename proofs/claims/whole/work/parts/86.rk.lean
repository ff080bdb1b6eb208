/-! the class's expression reader: closers, the right side -/
theorem sumK_top {f g g' : Int → Int} {n : Int} (h0 : 0 < n) (e : ∀ k, 0 ≤ k → k < n - 1 → g' k = g k) : sumK f g' n.toNat = sumK f g (n - 1).toNat + f (g' (n - 1)) := by
  rw [sumK_pop h0, sumK_cong (g := g') (g' := g) (fun i h1 h2 => e i h1 (by omega))]
theorem ErS.bal {γ γ' : St} (h : ErS γ) (e : ∀ j k, (j = 3 ∧ k = 9 ∨ j = 4 ∨ j = 28 ∨ 38 ≤ j ∧ j ≤ 43 ∧ j ≠ 41) → γ' j k = γ j k) (hb : γ' 6 9 + inS γ' (γ' 6 8) = γ 6 9 + inS γ (γ 6 8)) (hs : ∀ i, 0 ≤ i → i < γ' 6 8 → γ' 48 i = 43 → ClI γ' i) : ErS γ' := by
  have ⟨⟨a1, a2⟩, a3, a4, a5, a6⟩ := h
  have b1 := e 3 9 (by omega)
  have b2 := e 4 10 (by omega)
  have b3 := e 4 4 (by omega)
  have b6 := e 43 (γ 4 10) (by omega)
  have b7 := e 28 (γ 3 9) (by omega)
  have b8 : ∀ k, Pf γ' k = Pf γ k := fun k => Pf_ext (fun i _ _ => e 40 i (by omega))
  refine ⟨?_, ?_, ?_, hs, ?_⟩
  · rw [b2, b6, b3]; exact ⟨a1, a2⟩
  · rw [b2, b6, b8]; exact a3
  · rw [b8, b3, b2]; omega
  · intro i h1 h2
    rw [b2, b6] at h1
    rw [b3] at h2
    rw [b1, b2, b7]
    exact (a6 i h1 h2).ext (by omega) (e 38 i (by omega)) (e 39 i (by omega)) (fun k _ _ => e 40 k (by omega))
theorem RS.ext {γ γ' : St} (h : RS γ) (e : ∀ j k, (j < 42 ∧ (j ≠ 6 ∨ k < 13) ∨ 42 ≤ j ∧ j ≤ 52) → γ' j k = γ j k) : RS γ' :=
  ⟨h.1.ext (fun j k hj => e j k (by omega)), h.2.1.ext (fun j k hj => e j k (by omega)), h.2.2.1.ext (fun j k hj => e j k (by omega)), h.2.2.2.ext (Int.le_of_eq (e 6 8 (by omega))) (fun k => e 48 k (by omega))⟩
/-- behind a comma, then, else -/
def goS (γ : St) (a0 : Int) : St := setA (setA (setA (setA γ 48 (γ 6 8 - 1) a0) 6 12 1) 6 13 1) 1 6 (γ 1 6 + 1)
theorem goS_v (γ : St) (a0 : Int) (j : Nat) (k : Int) : goS γ a0 j k = if j = 1 ∧ k = 6 then γ 1 6 + 1 else if j = 6 ∧ k = 13 then 1 else if j = 6 ∧ k = 12 then 1 else if j = 48 ∧ k = γ 6 8 - 1 then a0 else γ j k := by simp [goS, stA]
theorem go_eq {γ : St} {a0 : Int} (hT : TkR γ) (h8 : 1 ≤ γ 6 8 ∧ γ 6 8 ≤ 512) (hk : γ 14 (γ 1 6) ≠ 0) : f_Er_goOnBehind γ a0 = some (1, goS γ a0) := by
  unfold f_Er_goOnBehind
  refine some_wp (wp_chk (by omega) (wp_chk (by omega) (wp_sub (wp_sub (wp_sub ?_)))))
  refine wp_bs (step_eq (hT.ext (fun j k h1 => by simp [stA]; grind)) (by simpa [stA] using hk)) (wp_some ?_)
  simp [goS, stepS, stA]
theorem ErJ.go {γ γ' : St} {a0 : Int} (h : ErJ γ) (h8 : 1 ≤ γ 6 8) (hk : γ 14 (γ 1 6) ≠ 0) (e : ∀ j k, (j < 48 ∧ j ≠ 6 ∧ (j ≠ 1 ∨ k ≠ 6) ∨ j = 6 ∧ (k = 8 ∨ k = 10) ∨ j = 48 ∧ k ≠ γ 6 8 - 1 ∨ j = 52) → γ' j k = γ j k) (e16 : γ' 1 6 = γ 1 6 + 1) (e48 : γ' 48 (γ 6 8 - 1) = a0) (e12 : γ' 6 12 = 1) (e9 : γ' 6 9 = sumK ndK (γ 48) (γ 6 8 - 1).toNat + ndK a0) (l9 : γ' 6 9 ≤ γ 6 9) (hN : nestK a0 = nestK (γ 48 (γ 6 8 - 1))) : ErJ γ' := by
  have ⟨hT, i1, i2, i3, i4, i5, i6, i7⟩ := h
  have nn := sumK_nn (f := ndK) (g := γ 48) (fun k => (ndK_b k).1) (n := (γ 6 8 - 1).toNat)
  have nd := ndK_b a0
  have a8 := e 6 8 (by omega)
  have a10 := e 6 10 (by omega)
  have a4 := e 4 4 (by omega)
  have pn := sumK_pop (f := nestK) (g := γ 48) (show 0 < γ 6 8 by omega)
  refine ⟨(step_T hT hk).1.ext (fun j k hj => ?_), by omega, by omega, Or.inr e12, ?_, ?_, by omega, fun i h1 h2 => ?_⟩
  · rw [stepS_v]
    by_cases q : j = 1 ∧ k = 6
    · rw [if_pos q, q.1, q.2]; exact e16
    · rw [if_neg q]; exact e j k (by omega)
  · rw [a8, sumK_top (g := γ 48) (by omega) (fun k h1 h2 => e 48 k (by omega)), e48]; omega
  · rw [a8, a10, sumK_top (g := γ 48) (by omega) (fun k h1 h2 => e 48 k (by omega)), e48]; omega
  · rw [e 52 i (by omega), a4]
    exact i7 i h1 (by omega)
theorem w_go {γ : St} {a0 : Int} (h : RS γ) (h8 : 1 ≤ γ 6 8) (hn : γ 6 12 = 0) (hk : γ 14 (γ 1 6) ≠ 0) (ht : γ 48 (γ 6 8 - 1) = 32 ∧ a0 = 33 ∨ γ 48 (γ 6 8 - 1) = 33 ∧ a0 = 34) : wp (f_Er_goOnBehind γ a0) (RsP γ) := by
  have ⟨hT, i1, i2, i3, i4, i5, i6, i7⟩ := h.1
  have pp := sumK_pop (f := ndK) (g := γ 48) (show 0 < γ 6 8 by omega)
  have s0 := goS_v γ a0
  have hnd : ndK a0 = ndK (γ 48 (γ 6 8 - 1)) + 1 := by rcases ht with q | q <;> (rw [q.1, q.2]; decide)
  have hns : nestK a0 = nestK (γ 48 (γ 6 8 - 1)) := by rcases ht with q | q <;> (rw [q.1, q.2]; decide)
  refine wp_eq (go_eq hT (by omega) hk) ?_
  generalize goS γ a0 = γs at *
  have b8 : γs 6 8 = γ 6 8 := by rw [s0]; simp
  have b9 : γs 6 9 = γ 6 9 := by rw [s0]; simp
  refine RsP.ok ⟨?_, ?_, ?_, ?_⟩ ⟨?_, ?_, fun j k h1 h2 h3 => ?_⟩ ?_ ?_ ?_
  · exact h.1.go h8 hk (fun j k hj => by rw [s0]; repeat rw [if_neg (by omega)]) (by rw [s0]; simp) (by rw [s0]; simp) (by rw [s0]; simp) (by omega) (by omega) hns
  · refine h.2.1.bal (fun j k hj => by rw [s0]; repeat rw [if_neg (by omega)]) ?_ (fun i h1 h2 h3 => ?_)
    · show γs 6 9 + inS γs (γs 6 8) = _
      rw [b8, b9, inS_pop (γ := γs) (by omega), inS_pop (γ := γ) (by omega), inS_ext (γ := γ) (fun i h1 h2 => ⟨by rw [s0]; repeat rw [if_neg (by omega)], by rw [s0]; simp⟩), if_neg (by rw [s0]; simp; omega), if_neg (by omega)]
    · have h2 : i < γs 6 8 := h2
      have h3 : γs 48 i = 43 := h3
      rw [s0] at h3
      have h3 : γ 48 i = 43 := by grind
      have := h.2.1.2.2.2.1 i h1 (by omega) h3
      unfold ClI at this ⊢
      show (0 ≤ γs 49 i ∧ γs 49 i < γs 3 9) ∧ 0 ≤ γs 50 i ∧ 0 ≤ γs 51 i ∧ γs 51 i ≤ γs 4 4
      rw [s0 49, s0 50, s0 51, s0 3 9, s0 4 4]
      simp
      omega
  · exact h.2.2.1.ext (fun j k hj => by rw [s0]; repeat rw [if_neg (by omega)])
  · intro i h1 h2
    have := h.2.2.2 i h1
    rw [s0] at h2 ⊢
    simp at h2 ⊢
    grind
  · intro j k h1 h2 h3 h4; rw [s0]; repeat rw [if_neg (by omega)]
  · rw [s0]; simp
  · rw [s0]; repeat rw [if_neg (by omega)]
  · rw [s0]; simp
  · rw [s0]; simp
  · rw [s0]; simp; omega
theorem Pf_le {γ : St} {a b : Int} (h0 : 0 ≤ a) (hab : a ≤ b) (h : ∀ i, a ≤ i → i < b → 0 ≤ γ 40 i) : Pf γ b ≤ Pf γ a + (b - a) := by
  have x : ∀ m : Nat, a + m ≤ b → Pf γ (a + m) ≤ Pf γ a + m := by
    intro m
    induction m with
    | zero => intro _; rw [show a + ((0 : Nat) : Int) = a by omega]; omega
    | succ m ih =>
      intro hm
      have i1 := ih (by omega)
      have i2 := h (a + m) (by omega) (by omega)
      rw [show a + ((m + 1 : Nat) : Int) = a + m + 1 by omega, Pf_succ (by omega)]
      omega
  have := x (b - a).toNat (by omega)
  rw [show a + (((b - a).toNat : Nat) : Int) = b by omega] at this
  omega
/-- the open call's inputs are few -/
theorem RS.inb {γ : St} (h : RS γ) (h8 : 1 ≤ γ 6 8) (ht : γ 48 (γ 6 8 - 1) = 43) : 0 ≤ γ 50 (γ 6 8 - 1) ∧ γ 50 (γ 6 8 - 1) ≤ 10240 ∧ γ 50 (γ 6 8 - 1) ≤ inS γ (γ 6 8) := by
  have ⟨⟨a1, a2⟩, a3, a4, a5, a6⟩ := h.2.1
  have i2 := h.1.2.2.1
  have rm := h.1.rm
  have c := a5 (γ 6 8 - 1) (by omega) (by omega) ht
  have p := Pf_le (γ := γ) a1 a2 (fun i h1 h2 => sdK_nn (a6 i h1 h2).1)
  have q := inS_pop (γ := γ) (n := γ 6 8) (by omega)
  rw [if_pos ht] at q
  have n0 : 0 ≤ inS γ (γ 6 8 - 1) := inS_nn (fun i q1 q2 q3 => (a5 i q1 (by omega) q3).2.1)
  have := c.2.1
  omega
/-- a call's input is complete -/
def inpS (γ : St) : St := setA (setA (setA γ 6 9 (γ 6 9 - 1)) 50 (γ 6 8 - 1) (γ 50 (γ 6 8 - 1) + 1)) 51 (γ 6 8 - 1) (max (γ 51 (γ 6 8 - 1)) (γ 52 (γ 6 9 - 1)))
theorem inpS_v (γ : St) (j : Nat) (k : Int) : inpS γ j k = if j = 51 ∧ k = γ 6 8 - 1 then max (γ 51 (γ 6 8 - 1)) (γ 52 (γ 6 9 - 1)) else if j = 50 ∧ k = γ 6 8 - 1 then γ 50 (γ 6 8 - 1) + 1 else if j = 6 ∧ k = 9 then γ 6 9 - 1 else γ j k := by simp [inpS, stA]
theorem inp_eq {γ : St} (h8 : 1 ≤ γ 6 8 ∧ γ 6 8 ≤ 512) (h9 : 1 ≤ γ 6 9 ∧ γ 6 9 ≤ 512) (h50 : 0 ≤ γ 50 (γ 6 8 - 1) ∧ γ 50 (γ 6 8 - 1) ≤ 10240) : f_Er_takeInput γ = some (0, inpS γ) := by
  unfold f_Er_takeInput
  exact some_wp (wp_chk (by omega) (wp_sub (wp_chk (by simp [stA]; omega) (wp_sub (wp_chk (by simp [stA]; omega) (wp_chk (by simp [stA]; omega) (wp_chk (by simp [stA]; omega) (wp_sub (wp_chk (by simp [stA]; omega) (wp_chk (by simp [stA]; omega) (wp_chk (by simp [stA]; omega) (wp_sub (wp_some (by simp [inpS, stA]))))))))))))))
set_option maxHeartbeats 1000000 in
theorem w_comma {γ : St} (h : RS γ) (h8 : 1 ≤ γ 6 8) (hn : γ 6 12 = 0) (hk : γ 14 (γ 1 6) ≠ 0) (ht : γ 48 (γ 6 8 - 1) = 43) : RsP γ (1, goS (inpS γ) 43) := by
  have ⟨hT, i1, i2, i3, i4, i5, i6, i7⟩ := h.1
  have pp := sumK_pop (f := ndK) (g := γ 48) (show 0 < γ 6 8 by omega)
  rw [ht, show ndK 43 = 0 by decide] at pp
  have m1 := h.1.m1 hn
  have ib := h.inb h8 ht
  have ct := h.2.1.2.2.2.1 (γ 6 8 - 1) (by omega) (by omega) ht
  have ht52 := i7 (γ 6 9 - 1) (by omega) (by omega)
  have s0 : ∀ j k, goS (inpS γ) 43 j k = if j = 1 ∧ k = 6 then γ 1 6 + 1 else if j = 6 ∧ k = 13 then 1 else if j = 6 ∧ k = 12 then 1 else if j = 48 ∧ k = γ 6 8 - 1 then 43 else if j = 51 ∧ k = γ 6 8 - 1 then max (γ 51 (γ 6 8 - 1)) (γ 52 (γ 6 9 - 1)) else if j = 50 ∧ k = γ 6 8 - 1 then γ 50 (γ 6 8 - 1) + 1 else if j = 6 ∧ k = 9 then γ 6 9 - 1 else γ j k := fun j k => by
    rw [goS_v, inpS_v γ 1 6, inpS_v γ 6 8, inpS_v γ j k]; simp
  generalize goS (inpS γ) 43 = γs at *
  have b8 : γs 6 8 = γ 6 8 := by rw [s0]; simp
  have b9 : γs 6 9 = γ 6 9 - 1 := by rw [s0]; simp
  have b48 : γs 48 = γ 48 := funext fun k => by rw [s0]; simp; intro q; rw [q]; exact ht.symm
  refine RsP.ok ⟨?_, ?_, ?_, ?_⟩ ⟨?_, ?_, fun j k h1 h2 h3 => ?_⟩ ?_ ?_ ?_
  · exact h.1.go (a0 := 43) h8 hk (fun j k hj => by rw [s0]; repeat rw [if_neg (by omega)]) (by rw [s0]; simp) (by rw [s0]; simp) (by rw [s0]; simp) (by rw [b9, show ndK 43 = 0 by decide]; omega) (by omega) (by rw [ht])
  · refine h.2.1.bal (fun j k hj => by rw [s0]; repeat rw [if_neg (by omega)]) ?_ (fun i h1 h2 h3 => ?_)
    · show γs 6 9 + inS γs (γs 6 8) = _
      rw [b8, b9, inS_pop (γ := γs) (by omega), inS_pop (γ := γ) (by omega), inS_ext (γ := γ) (fun i h1 h2 => ⟨by rw [b48], by rw [s0]; repeat rw [if_neg (by omega)]⟩), b48, if_pos ht, if_pos ht, s0 50]
      simp
      omega
    · have h2 : i < γs 6 8 := h2
      have h3 : γs 48 i = 43 := h3
      rw [b48] at h3
      have := h.2.1.2.2.2.1 i h1 (by omega) h3
      unfold ClI at this ct ⊢
      show (0 ≤ γs 49 i ∧ γs 49 i < γs 3 9) ∧ 0 ≤ γs 50 i ∧ 0 ≤ γs 51 i ∧ γs 51 i ≤ γs 4 4
      have e49 : γs 49 i = γ 49 i := by rw [s0]; simp
      have e39 : γs 3 9 = γ 3 9 := by rw [s0]; simp
      have e44 : γs 4 4 = γ 4 4 := by rw [s0]; simp
      by_cases q : i = γ 6 8 - 1
      · have e50 : γs 50 i = γ 50 (γ 6 8 - 1) + 1 := by rw [s0, q]; simp
        have e51 : γs 51 i = max (γ 51 (γ 6 8 - 1)) (γ 52 (γ 6 9 - 1)) := by rw [s0, q]; simp
        omega
      · have e50 : γs 50 i = γ 50 i := by rw [s0]; simp [q]
        have e51 : γs 51 i = γ 51 i := by rw [s0]; simp [q]
        omega
  · exact h.2.2.1.ext (fun j k hj => by rw [s0]; repeat rw [if_neg (by omega)])
  · intro i h1 h2
    have := h.2.2.2 i h1
    rw [s0] at h2 ⊢
    simp at h2 ⊢
    grind
  · intro j k h1 h2 h3 h4; rw [s0]; repeat rw [if_neg (by omega)]
  · rw [s0]; simp
  · rw [s0]; repeat rw [if_neg (by omega)]
  · rw [s0]; simp
  · rw [s0]; simp
  · rw [s0]; simp; omega
/-- a call is complete -/
def closS (γ : St) : St := setA (setA (setA (addS (setA (setA γ 6 8 (γ 6 8 - 1)) 6 10 (γ 6 10 - 1)) 43 (γ 49 (γ 6 8 - 1)) (γ 50 (γ 6 8 - 1))) 52 (γ 6 9) (γ 51 (γ 6 8 - 1) + 1)) 6 9 (γ 6 9 + 1)) 1 6 (γ 1 6 + 1)
theorem closS_v (γ : St) (j : Nat) (k : Int) : closS γ j k = if j = 1 ∧ k = 6 then γ 1 6 + 1 else if j = 6 ∧ k = 9 then γ 6 9 + 1 else if j = 52 ∧ k = γ 6 9 then γ 51 (γ 6 8 - 1) + 1 else if j = 4 ∧ k = 4 then γ 4 4 + 1 else if j = 41 ∧ k = γ 4 4 then -2 else if j = 40 ∧ k = γ 4 4 then γ 50 (γ 6 8 - 1) else if j = 39 ∧ k = γ 4 4 then γ 49 (γ 6 8 - 1) else if j = 38 ∧ k = γ 4 4 then 43 else if j = 6 ∧ k = 10 then γ 6 10 - 1 else if j = 6 ∧ k = 8 then γ 6 8 - 1 else γ j k := by simp [closS, stA, addS_v]
set_option maxHeartbeats 1000000 in
theorem w_clos {γ : St} (hT : TkR γ) (hk : γ 14 (γ 1 6) ≠ 0) (h8 : 1 ≤ γ 6 8 ∧ γ 6 8 ≤ 512) (h9 : 0 ≤ γ 6 9 ∧ γ 6 9 < 512) (h10 : 0 ≤ γ 6 10 ∧ γ 6 10 ≤ 512) (h4 : 0 ≤ γ 4 4 ∧ γ 4 4 ≤ 10240) (h51 : 0 ≤ γ 51 (γ 6 8 - 1) ∧ γ 51 (γ 6 8 - 1) ≤ 10240) : wp (f_Er_closeCall γ) (fun z => γ 51 (γ 6 8 - 1) < 200 ∧ z = (1, closS γ) ∨ 200 ≤ γ 51 (γ 6 8 - 1) ∧ z = (0, failS (closS γ) 3)) := by
  have c0 := closS_v γ
  unfold f_Er_closeCall
  refine wp_chk (by omega) (wp_sub (wp_chk (by simp [stA]; omega) (wp_sub (wp_chk (by simp [stA]; omega) (wp_chk (by simp [stA]; omega) (wp_bs (add_eq (by simp [stA]; omega)) ?_))))))
  refine wp_chk (by simp [stA, addS_v]; omega) (wp_chk (by simp [stA, addS_v]; omega) (wp_chk (by simp [stA, addS_v]; omega) (wp_sub (wp_chk (by simp [stA, addS_v]; omega) (wp_sub ?_)))))
  refine wp_bs (step_eq (hT.ext (fun j k h1 => by simp [stA, addS_v]; grind)) (by simp [stA, addS_v]; exact hk)) ?_
  generalize hs : stepS _ = γs
  have e : γs = closS γ := by
    rw [← hs]
    simp [closS, stepS, stA, addS_v]
  subst e
  have hTc : TkR (closS γ) := (step_T hT hk).1.ext (fun j k hj => by
    by_cases q : j = 1 ∧ k = 6
    · rw [c0, stepS_v, if_pos q, if_pos q]
    · rw [c0, stepS_v, if_neg q, if_neg q]; repeat rw [if_neg (by omega)])
  have e8 : closS γ 6 8 = γ 6 8 - 1 := by rw [c0]; simp
  have e51 : closS γ 51 (γ 6 8 - 1) = γ 51 (γ 6 8 - 1) := by rw [c0]; simp
  refine wp_chk (by omega) (wp_ite (fun c => wp_some (Or.inl ⟨?_, rfl⟩)) (fun c => wp_bs (fail_eq hTc) (wp_ite (fun _ => wp_some (Or.inr ⟨?_, rfl⟩)) (fun c => absurd rfl c))))
  · rw [e8, e51] at c; exact c
  · rw [e8, e51] at c; omega
set_option maxHeartbeats 2000000 in
theorem w_closed {γ : St} (h : RS γ) (h8 : 1 ≤ γ 6 8) (hn : γ 6 12 = 0) (hk : γ 14 (γ 1 6) ≠ 0) (ht : γ 48 (γ 6 8 - 1) = 43) : RsP γ (1, closS (inpS γ)) := by
  have ⟨hT, i1, i2, i3, i4, i5, i6, i7⟩ := h.1
  have pp := sumK_pop (f := ndK) (g := γ 48) (show 0 < γ 6 8 by omega)
  rw [ht, show ndK 43 = 0 by decide] at pp
  have pn := sumK_pop (f := nestK) (g := γ 48) (show 0 < γ 6 8 by omega)
  rw [ht, show nestK 43 = 1 by decide] at pn
  have m1 := h.1.m1 hn
  have ib := h.inb h8 ht
  have ct := h.2.1.2.2.2.1 (γ 6 8 - 1) (by omega) (by omega) ht
  unfold ClI at ct
  have rm := h.1.rm
  have ht52 := i7 (γ 6 9 - 1) (by omega) (by omega)
  have s0 : ∀ j k, closS (inpS γ) j k = if j = 1 ∧ k = 6 then γ 1 6 + 1 else if j = 6 ∧ k = 9 then γ 6 9 - 1 + 1 else if j = 52 ∧ k = γ 6 9 - 1 then max (γ 51 (γ 6 8 - 1)) (γ 52 (γ 6 9 - 1)) + 1 else if j = 4 ∧ k = 4 then γ 4 4 + 1 else if j = 41 ∧ k = γ 4 4 then -2 else if j = 40 ∧ k = γ 4 4 then γ 50 (γ 6 8 - 1) + 1 else if j = 39 ∧ k = γ 4 4 then γ 49 (γ 6 8 - 1) else if j = 38 ∧ k = γ 4 4 then 43 else if j = 6 ∧ k = 10 then γ 6 10 - 1 else if j = 6 ∧ k = 8 then γ 6 8 - 1 else if j = 51 ∧ k = γ 6 8 - 1 then max (γ 51 (γ 6 8 - 1)) (γ 52 (γ 6 9 - 1)) else if j = 50 ∧ k = γ 6 8 - 1 then γ 50 (γ 6 8 - 1) + 1 else γ j k := fun j k => by
    have v := inpS_v γ
    have v16 : inpS γ 1 6 = γ 1 6 := by rw [v]; simp
    have v68 : inpS γ 6 8 = γ 6 8 := by rw [v]; simp
    have v69 : inpS γ 6 9 = γ 6 9 - 1 := by rw [v]; simp
    have v610 : inpS γ 6 10 = γ 6 10 := by rw [v]; simp
    have v44 : inpS γ 4 4 = γ 4 4 := by rw [v]; simp
    have v49 : inpS γ 49 (γ 6 8 - 1) = γ 49 (γ 6 8 - 1) := by rw [v]; simp
    have v50 : inpS γ 50 (γ 6 8 - 1) = γ 50 (γ 6 8 - 1) + 1 := by rw [v]; simp
    have v51 : inpS γ 51 (γ 6 8 - 1) = max (γ 51 (γ 6 8 - 1)) (γ 52 (γ 6 9 - 1)) := by rw [v]; simp
    rw [closS_v, v16, v68, v69, v610, v44, v49, v50, v51, v j k]
    by_cases q : j = 6 ∧ k = 9
    · obtain ⟨q1, q2⟩ := q
      subst q1 q2
      simp
    · simp only [if_neg q]
  generalize closS (inpS γ) = γs at *
  have b8 : γs 6 8 = γ 6 8 - 1 := by rw [s0]; simp
  have b9 : γs 6 9 = γ 6 9 := by rw [s0]; simp
  have b10 : γs 6 10 = γ 6 10 - 1 := by rw [s0]; simp
  have b12 : γs 6 12 = γ 6 12 := by rw [s0]; simp
  have b4 : γs 4 4 = γ 4 4 + 1 := by rw [s0]; simp
  have b16 : γs 1 6 = γ 1 6 + 1 := by rw [s0]; simp
  have b48 : γs 48 = γ 48 := funext fun k => by rw [s0]; simp
  have b38 : γs 38 (γ 4 4) = 43 := by rw [s0]; simp
  have b39 : γs 39 (γ 4 4) = γ 49 (γ 6 8 - 1) := by rw [s0]; simp
  have b40 : γs 40 (γ 4 4) = γ 50 (γ 6 8 - 1) + 1 := by rw [s0]; simp
  refine RsP.ok ⟨⟨?_, ?_, ?_, ?_, ?_, ?_, ?_, fun i h1 h2 => ?_⟩, ?_, ?_, ?_⟩ ⟨?_, ?_, fun j k h1 h2 h3 => ?_⟩ ?_ ?_ ?_
  · exact (step_T hT hk).1.ext (fun j k hj => by
    by_cases q : j = 1 ∧ k = 6
    · rw [s0, stepS_v, if_pos q, if_pos q]
    · rw [s0, stepS_v, if_neg q, if_neg q]; repeat rw [if_neg (by omega)])
  · show 0 ≤ γs 6 8 ∧ γs 6 8 ≤ 512; omega
  · show 0 ≤ γs 6 9 ∧ γs 6 9 ≤ 512; omega
  · show γs 6 12 = 0 ∨ γs 6 12 = 1; omega
  · show γs 6 9 = sumK ndK (γs 48) (γs 6 8).toNat + (1 - γs 6 12)
    rw [b48, b8]; omega
  · show γs 6 10 = sumK nestK (γs 48) (γs 6 8).toNat
    rw [b48, b8]; omega
  · show 0 ≤ γs 4 4 ∧ γs 4 4 + γs 6 8 ≤ γs 1 6; omega
  · have h2 : i < γs 6 9 := h2
    show 0 ≤ γs 52 i ∧ γs 52 i ≤ γs 4 4
    by_cases q : i = γ 6 9 - 1
    · have e52 : γs 52 i = max (γ 51 (γ 6 8 - 1)) (γ 52 (γ 6 9 - 1)) + 1 := by rw [s0, q]; simp
      omega
    · have e52 : γs 52 i = γ 52 i := by rw [s0]; simp [q]
      have := i7 i h1 (by omega)
      omega
  · refine h.2.1.add b4 (fun j k hj => by rw [s0]; repeat rw [if_neg (by omega)]) ?_ (fun i h1 h2 h3 => ?_) ?_
    · show γs 6 9 + inS γs (γs 6 8) = _ + 1 - γs 40 (γ 4 4)
      rw [b8, b9, b40, inS_pop (γ := γ) (n := γ 6 8) (by omega), if_pos ht, inS_ext (γ := γ) (fun i h1 h2 => ⟨by rw [b48], by rw [s0]; repeat rw [if_neg (by omega)]⟩)]
      omega
    · have h2 : i < γs 6 8 := h2
      have h3 : γs 48 i = 43 := h3
      rw [b48] at h3
      have := h.2.1.2.2.2.1 i h1 (by omega) h3
      unfold ClI at this ⊢
      show (0 ≤ γs 49 i ∧ γs 49 i < γs 3 9) ∧ 0 ≤ γs 50 i ∧ 0 ≤ γs 51 i ∧ γs 51 i ≤ γs 4 4
      have q : i ≠ γ 6 8 - 1 := by omega
      have e49 : γs 49 i = γ 49 i := by rw [s0]; simp
      have e39 : γs 3 9 = γ 3 9 := by rw [s0]; simp
      have e50 : γs 50 i = γ 50 i := by rw [s0]; simp [q]
      have e51 : γs 51 i = γ 51 i := by rw [s0]; simp [q]
      omega
    · show sdK (γs 38 (γ 4 4)) (γs 40 (γ 4 4)) ∧ (γs 38 (γ 4 4) = 43 → 0 ≤ γs 39 (γ 4 4) ∧ γs 39 (γ 4 4) < γ 3 9) ∧ (γs 38 (γ 4 4) = 2 → 0 ≤ γs 39 (γ 4 4) ∧ γs 39 (γ 4 4) < γ 28 (γ 3 9)) ∧ (γs 38 (γ 4 4) = 27 → 0 ≤ γs 39 (γ 4 4) ∧ γs 39 (γ 4 4) < 2 * γ 28 (γ 3 9)) ∧ γs 40 (γ 4 4) ≤ _
      rw [b38, b39, b40]
      unfold sdK
      omega
  · exact h.2.2.1.ext (fun j k hj => by rw [s0]; repeat rw [if_neg (by omega)])
  · intro i h1 h2
    have := h.2.2.2 i h1
    rw [s0] at h2 ⊢
    simp at h2 ⊢
    grind
  · intro j k h1 h2 h3 h4; rw [s0]; repeat rw [if_neg (by omega)]
  · omega
  · rw [s0]; repeat rw [if_neg (by omega)]
  · rw [s0]; simp
  · rw [s0]; simp
  · omega
theorem w_closer_b133 {γ : St} {a0 : Int} (h : RS γ) (h8 : 1 ≤ γ 6 8) (hn : γ 6 12 = 0) (hk : γ 14 (γ 1 6) ≠ 0) (ht : γ 48 (γ 6 8 - 1) = 43) : wp (f_Er_readCloser_b133 γ a0) (RsP γ) := by
  have ⟨hT, i1, i2, i3, i4, i5, i6, i7⟩ := h.1
  have m1 := h.1.m1 hn
  have nb := h.1.nb
  have rm := h.1.rm
  have ib := h.inb h8 ht
  have ct := h.2.1.2.2.2.1 (γ 6 8 - 1) (by omega) (by omega) ht
  unfold ClI at ct
  have ht52 := i7 (γ 6 9 - 1) (by omega) (by omega)
  have v := inpS_v γ
  have hTi : TkR (inpS γ) := hT.ext (fun j k hj => by rw [v]; grind)
  have hki : inpS γ 14 (inpS γ 1 6) ≠ 0 := by rw [v 1 6, v]; simpa using hk
  have v8 : inpS γ 6 8 = γ 6 8 := by rw [v]; simp
  have v9 : inpS γ 6 9 = γ 6 9 - 1 := by rw [v]; simp
  have v10 : inpS γ 6 10 = γ 6 10 := by rw [v]; simp
  have v4 : inpS γ 4 4 = γ 4 4 := by rw [v]; simp
  have v51 : inpS γ 51 (γ 6 8 - 1) = max (γ 51 (γ 6 8 - 1)) (γ 52 (γ 6 9 - 1)) := by rw [v]; simp
  unfold f_Er_readCloser_b133
  refine wp_bs (inp_eq (by omega) (by omega) (by omega)) (wp_ite (fun _ => ?_) (fun _ => ?_))
  · refine wp_id (wp_mono (w_clos hTi hki (by omega) (by omega) (by omega) (by omega) (by rw [v8, v51]; omega)) (fun z hz => ?_))
    have w := w_closed h h8 hn hk ht
    rcases hz with ⟨_, e⟩ | ⟨_, e⟩
    · rw [e]; exact w
    · rw [e]
      have wr : RS (closS (inpS γ)) := w.1
      have q := wr.fail (a := 3) (by omega)
      have w7 : closS (inpS γ) 1 7 = γ 1 7 := by rcases w.2.2.2.2 with a | a; exact absurd a.1 (show ¬ (1 : Int) = 0 by decide); exact a.2.1
      have w14 : closS (inpS γ) 6 14 = γ 6 14 := by rw [closS_v]; simp; rw [v]; simp
      exact q.pre w.2.1 w.2.2.1 w7 w14
  · exact wp_id (wp_eq (go_eq hTi (by omega) hki) (w_comma h h8 hn hk ht))
/-- brackets, and the end -/
theorem w_paren {γ : St} (h : RS γ) (h8 : 1 ≤ γ 6 8) (hn : γ 6 12 = 0) (hk : γ 14 (γ 1 6) ≠ 0) (ht : γ 48 (γ 6 8 - 1) = 4) : RsP γ (1, stepS (setA (setA γ 6 8 (γ 6 8 - 1)) 6 10 (γ 6 10 - 1))) := by
  have ⟨hT, i1, i2, i3, i4, i5, i6, i7⟩ := h.1
  have pp := sumK_pop (f := ndK) (g := γ 48) (show 0 < γ 6 8 by omega)
  rw [ht, show ndK 4 = 0 by decide] at pp
  have pn := sumK_pop (f := nestK) (g := γ 48) (show 0 < γ 6 8 by omega)
  rw [ht, show nestK 4 = 1 by decide] at pn
  have s0 : ∀ j k, stepS (setA (setA γ 6 8 (γ 6 8 - 1)) 6 10 (γ 6 10 - 1)) j k = if j = 1 ∧ k = 6 then γ 1 6 + 1 else if j = 6 ∧ k = 10 then γ 6 10 - 1 else if j = 6 ∧ k = 8 then γ 6 8 - 1 else γ j k := fun j k => by rw [stepS_v]; simp [stA]
  generalize stepS (setA (setA γ 6 8 (γ 6 8 - 1)) 6 10 (γ 6 10 - 1)) = γs at *
  have b8 : γs 6 8 = γ 6 8 - 1 := by rw [s0]; simp
  have b9 : γs 6 9 = γ 6 9 := by rw [s0]; simp
  have b10 : γs 6 10 = γ 6 10 - 1 := by rw [s0]; simp
  have b12 : γs 6 12 = γ 6 12 := by rw [s0]; simp
  have b4 : γs 4 4 = γ 4 4 := by rw [s0]; simp
  have b16 : γs 1 6 = γ 1 6 + 1 := by rw [s0]; simp
  have b48 : γs 48 = γ 48 := funext fun k => by rw [s0]; simp
  refine RsP.ok ⟨⟨?_, ?_, ?_, ?_, ?_, ?_, ?_, fun i h1 h2 => ?_⟩, ?_, ?_, ?_⟩ ⟨?_, ?_, fun j k h1 h2 h3 => ?_⟩ ?_ ?_ ?_
  · exact (step_T hT hk).1.ext (fun j k hj => by
    by_cases q : j = 1 ∧ k = 6
    · rw [s0, stepS_v, if_pos q, if_pos q]
    · rw [s0, stepS_v, if_neg q, if_neg q]; repeat rw [if_neg (by omega)])
  · show 0 ≤ γs 6 8 ∧ γs 6 8 ≤ 512; omega
  · show 0 ≤ γs 6 9 ∧ γs 6 9 ≤ 512; omega
  · show γs 6 12 = 0 ∨ γs 6 12 = 1; omega
  · show γs 6 9 = sumK ndK (γs 48) (γs 6 8).toNat + (1 - γs 6 12)
    rw [b48, b8]; omega
  · show γs 6 10 = sumK nestK (γs 48) (γs 6 8).toNat
    rw [b48, b8]; omega
  · show 0 ≤ γs 4 4 ∧ γs 4 4 + γs 6 8 ≤ γs 1 6; omega
  · have h2 : i < γs 6 9 := h2
    show 0 ≤ γs 52 i ∧ γs 52 i ≤ γs 4 4
    have e52 : γs 52 i = γ 52 i := by rw [s0]; simp
    have := i7 i h1 (by omega)
    omega
  · refine h.2.1.bal (fun j k hj => by rw [s0]; repeat rw [if_neg (by omega)]) ?_ (fun i h1 h2 h3 => ?_)
    · show γs 6 9 + inS γs (γs 6 8) = _
      rw [b8, b9, inS_pop (γ := γ) (n := γ 6 8) (by omega), if_neg (by omega), inS_ext (γ := γ) (fun i h1 h2 => ⟨by rw [b48], by rw [s0]; simp⟩)]
      omega
    · have h2 : i < γs 6 8 := h2
      have h3 : γs 48 i = 43 := h3
      rw [b48] at h3
      have := h.2.1.2.2.2.1 i h1 (by omega) h3
      unfold ClI at this ⊢
      show (0 ≤ γs 49 i ∧ γs 49 i < γs 3 9) ∧ 0 ≤ γs 50 i ∧ 0 ≤ γs 51 i ∧ γs 51 i ≤ γs 4 4
      rw [s0 49, s0 50, s0 51, s0 3 9, s0 4 4]
      simp
      omega
  · exact h.2.2.1.ext (fun j k hj => by rw [s0]; repeat rw [if_neg (by omega)])
  · intro i h1 h2
    have := h.2.2.2 i h1
    rw [s0] at h2 ⊢
    simp at h2 ⊢
    grind
  · intro j k h1 h2 h3 h4; rw [s0]; repeat rw [if_neg (by omega)]
  · omega
  · rw [s0]; repeat rw [if_neg (by omega)]
  · rw [s0]; simp
  · rw [s0]; simp
  · omega
