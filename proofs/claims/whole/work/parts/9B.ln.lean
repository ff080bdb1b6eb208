/-! the class's linker: a node opens -/
def OkS (V : Int) (γ : St) (k : Int) : Prop := γ 54 k = 2 ∧ γ 55 k = -1 ∧ γ 57 k = -1 ∧ (-1 ≤ γ 56 k ∧ γ 56 k < V) ∧ 0 ≤ γ 59 k ∧ γ 59 k ≤ 2 * V
def OpP (γ0 : St) (m : Int) (γ : St) (c oc : Int) (γ' : St) : Prop := FrLk γ0 γ' ∧ γ' 9 8 = γ 9 8 + 1 ∧ γ' 9 11 = γ 9 11 + γ0 28 c ∧ (γ' 63 (γ 9 8) = c ∧ γ' 64 (γ 9 8) = γ 9 11 ∧ γ' 65 (γ 9 8) = oc ∧ γ' 66 (γ 9 8) = γ0 29 c ∧ γ' 67 (γ 9 8) = γ0 43 (γ0 29 c)) ∧ (∀ j k, (j ≠ 9 ∨ k ≠ 8 ∧ k ≠ 11) → (j < 54 ∨ 60 < j ∨ k < γ 9 11 ∨ γ 9 11 + γ0 28 c ≤ k) → (j < 63 ∨ 67 < j ∨ k ≠ γ 9 8) → γ' j k = γ j k) ∧ ∀ k, γ 9 11 ≤ k → k < γ 9 11 + γ0 28 c → OkS (γ0 32 m) γ' k
set_option maxHeartbeats 1000000 in
theorem w_open_L91 {γ0 γb : St} {m c pl : Int} {Q : Int × St → Prop} (hx : LkX γ0 m) (hc : 0 ≤ c ∧ c ≤ m) (hf : 0 ≤ γb 9 8 ∧ γb 9 8 < 59) (hv : 0 ≤ γb 9 11 ∧ γb 9 11 + γ0 28 c ≤ γ0 32 m) (h64 : γb 64 (γb 9 8) = γb 9 11) (h65 : 0 ≤ γb 65 (γb 9 8) ∧ γb 65 (γb 9 8) ≤ 2 * γb 9 11) (hQ : ∀ γ, FrLk γ0 γ → (∀ j k, (j < 54 ∨ 60 < j ∨ k < γb 9 11 ∨ γb 9 11 + γ0 28 c ≤ k) → γ j k = γb j k) → (∀ k, γb 9 11 ≤ k → k < γb 9 11 + γ0 28 c → OkS (γ0 32 m) γ k) → wp (f_Lk_openNode_b226 γ c) Q) : ∀ (n : Nat) (γ : St) (i : Int), FrLk γ0 γ → 0 ≤ i → i ≤ γ0 28 c → (∀ j k, (j < 54 ∨ 60 < j ∨ k < γb 9 11 ∨ γb 9 11 + i ≤ k) → γ j k = γb j k) → (∀ k, γb 9 11 ≤ k → k < γb 9 11 + i → OkS (γ0 32 m) γ k) → γ0 28 c - i < n → wp (f_Lk_openNode_L91 f_Lk_openNode_b226 n γ c pl (γ0 25 c) i) Q := by
  have pn := hx.pn hc.1 hc.2
  have hm := hx.1
  have hV := hx.2.2.1
  intro n
  induction n with
  | zero => intro γ i hF h1 h2 h3 h4 h5; exfalso; omega
  | succ n ih =>
    intro γ i hF h1 h2 h3 h4 h5
    unfold f_Lk_openNode_L91
    rw [hF 28 c (by omega)]
    refine wp_chk (by omega) (wp_ite (fun q => ?_) (fun q => ?_))
    · have ei : i = γ0 28 c := by omega
      subst ei
      exact hQ γ hF h3 h4
    · have e11 : γ 9 11 = γb 9 11 := h3 9 11 (by omega)
      have e98 : γ 9 8 = γb 9 8 := h3 9 8 (by omega)
      rw [e11]
      refine wp_chk (by omega) (wp_sub (wp_bs (set_eq (by omega)) ?_))
      have s0 := setS_v γ (γb 9 11 + i) 2 0
      have hF1 : FrLk γ0 (setS γ (γb 9 11 + i) 2 0) := fun j k r => by rw [s0]; (repeat rw [if_neg (by omega)]); exact hF j k r
      have p98 : setS γ (γb 9 11 + i) 2 0 9 8 = γb 9 8 := by rw [s0]; simp; exact e98
      have p64 : setS γ (γb 9 11 + i) 2 0 64 (γb 9 8) = γb 9 11 := by rw [s0]; simp; rw [h3 64 _ (by omega)]; exact h64
      have p65 : setS γ (γb 9 11 + i) 2 0 65 (γb 9 8) = γb 65 (γb 9 8) := by rw [s0]; simp; exact h3 65 _ (by omega)
      have vr := ((hx.2.1 c hc.1 hc.2).1.2.2.1 i h1 (by omega)).1
      generalize setS γ (γb 9 11 + i) 2 0 = γ1 at *
      rw [p98, hF1 34 _ (by omega)]
      refine wp_chk (by omega) (wp_chk (by omega) (wp_bnd (w_putIn hx (by omega) (by omega) (by omega) (by omega)) (fun r γ2 y => ?_)))
      obtain ⟨y0, y1, y2⟩ := y
      have y0 : γ2 = γ1 := y0
      have y1 : 0 ≤ r := y1
      have y2 : r = γ1 65 (γb 9 8) ∨ 0 ≤ γ0 34 (γ0 25 c + i) ∧ r = 1 + 2 * γ1 64 (γb 9 8) + γ0 34 (γ0 25 c + i) := y2
      subst y0
      refine wp_chk (by omega) (wp_sub (wp_chk (by omega) ?_))
      have t59 : setA γ2 59 (γb 9 11 + i) r 59 (γb 9 11 + i) = r := by rw [stA, if_pos ⟨rfl, rfl⟩]
      rw [t59]
      refine wp_bnd (w_slotOfC (V := γ0 32 m) (by omega) (by omega)) (fun r2 γ3 y => ?_)
      obtain ⟨y3, y4, y5⟩ := y
      have y3 : γ3 = setA γ2 59 (γb 9 11 + i) r := y3
      have y4 : -1 ≤ r2 := y4
      have y5 : r2 < γ0 32 m ∨ r2 = -1 := y5
      subst y3
      refine wp_chk (by omega) (wp_sub ?_)
      have fin : ∀ x, wp (f_Lk_openNode_b219 (f_Lk_openNode_L91 f_Lk_openNode_b226 n) f_Lk_openNode_b226 (setA (setA γ2 59 (γb 9 11 + i) r) 56 (γb 9 11 + i) r2) c pl (γ0 25 c) i x (γb 9 11 + i)) Q := by
        intro x
        unfold f_Lk_openNode_b219
        refine wp_chk (by omega) (wp_sub (wp_chk (by omega) ?_))
        generalize hh : setA (setA (setA γ2 59 (γb 9 11 + i) r) 56 (γb 9 11 + i) r2) 60 (γb 9 11 + i) x = γ4
        have u0 : ∀ j k, γ4 j k = if j = 60 ∧ k = γb 9 11 + i then x else if j = 56 ∧ k = γb 9 11 + i then r2 else if j = 59 ∧ k = γb 9 11 + i then r else if j = 57 ∧ k = γb 9 11 + i then -1 else if j = 55 ∧ k = γb 9 11 + i then -1 else if j = 58 ∧ k = γb 9 11 + i then 0 else if j = 54 ∧ k = γb 9 11 + i then 2 else γ j k := fun j k => by
          rw [← hh, stA, stA, stA, s0]
          grind
        have uo : ∀ j k, (j < 54 ∨ 60 < j ∨ k ≠ γb 9 11 + i) → γ4 j k = γ j k := fun j k y => by rw [u0]; repeat rw [if_neg (by omega)]
        refine ih γ4 (i + 1) (fun j k y => by rw [uo j k (by omega)]; exact hF j k y) (by omega) (by omega) (fun j k y => by rw [uo j k (by omega)]; exact h3 j k (by omega)) (fun k y1 y2 => ?_) (by omega)
        by_cases y : k = γb 9 11 + i
        · subst y
          refine ⟨?_, ?_, ?_, ⟨?_, ?_⟩, ?_, ?_⟩
          · rw [u0]; simp
          · rw [u0]; simp
          · rw [u0]; simp
          · rw [u0]; simp; omega
          · rw [u0]; simp; omega
          · rw [u0]; simp; omega
          · rw [u0]; simp; omega
        · have o := h4 k y1 (by omega)
          unfold OkS at o ⊢
          rw [uo 54 k (by omega), uo 55 k (by omega), uo 56 k (by omega), uo 57 k (by omega), uo 59 k (by omega)]
          exact o
      refine wp_chk (by omega) (wp_ite (fun _ => wp_chk (by omega) (wp_chk (by omega) (fin _))) (fun _ => fin _))
theorem w_openNode {γ0 γ : St} {m c oc pl : Int} (hx : LkX γ0 m) (hF : FrLk γ0 γ) (hc : 0 ≤ c ∧ c ≤ m) (hf : 0 ≤ γ 9 8 ∧ γ 9 8 < 59) (hv : 0 ≤ γ 9 11 ∧ γ 9 11 + γ0 28 c ≤ γ0 32 m) (hoc : 0 ≤ oc ∧ oc ≤ 2 * γ 9 11) : wp (f_Lk_openNode γ c oc pl) (fun z => OpP γ0 m γ c oc z.2) := by
  have pn := hx.pn hc.1 hc.2
  have hm := hx.1
  have hV := hx.2.2.1
  have := FU_v
  have e29 := hF 29 c (by omega)
  have e25 := hF 25 c (by omega)
  have e43 := hF 43 (γ0 29 c) (by omega)
  unfold f_Lk_openNode
  rw [e25]
  refine wp_chk (by omega) (wp_sub (wp_chk (by omega) (wp_sub (wp_chk (by simp [stA]; omega) (wp_sub (wp_chk (by simp [stA]; omega) (wp_sub (wp_chk (by omega) (wp_chk (by simp [stA]; omega) (wp_sub (wp_chk (by omega) (wp_chk (by simp [stA]; omega) (wp_chk (by simp [stA]; omega) (wp_sub ?_))))))))))))))
  generalize hh : setA _ 67 _ _ = γb
  have s0 : ∀ j k, γb j k = if j = 67 ∧ k = γ 9 8 then γ0 43 (γ0 29 c) else if j = 66 ∧ k = γ 9 8 then γ0 29 c else if j = 65 ∧ k = γ 9 8 then oc else if j = 64 ∧ k = γ 9 8 then γ 9 11 else if j = 63 ∧ k = γ 9 8 then c else γ j k := fun j k => by
    rw [← hh]; simp [stA, e29, e43]
  have b98 : γb 9 8 = γ 9 8 := by rw [s0]; simp
  have b11 : γb 9 11 = γ 9 11 := by rw [s0]; simp
  have b64 : γb 64 (γ 9 8) = γ 9 11 := by rw [s0]; simp
  have b65 : γb 65 (γ 9 8) = oc := by rw [s0]; simp
  have hFb : FrLk γ0 γb := fun j k y => by rw [s0]; (repeat rw [if_neg (by omega)]); exact hF j k y
  refine w_open_L91 (γb := γb) hx hc (by omega) (by omega) (by rw [b98, b64, b11]) (by rw [b98, b65, b11]; exact hoc) (fun γ1 g1 g2 g3 => ?_) FU γb 0 hFb (by omega) (by omega) (fun _ _ _ => rfl) (fun k y1 y2 => by omega) (by omega)
  unfold f_Lk_openNode_b226
  have k11 : γ1 9 11 = γ 9 11 := (g2 9 11 (by omega)).trans b11
  have k98 : γ1 9 8 = γ 9 8 := (g2 9 8 (by omega)).trans b98
  rw [g1 28 c (by omega), k11]
  refine wp_chk (by omega) (wp_chk (by omega) (wp_sub (wp_chk (by simp [stA]; omega) (wp_sub (wp_some ?_)))))
  generalize hh2 : setA _ 9 8 _ = γ2
  have u0 : ∀ j k, γ2 j k = if j = 9 ∧ k = 8 then γ 9 8 + 1 else if j = 9 ∧ k = 11 then γ 9 11 + γ0 28 c else γ1 j k := fun j k => by rw [← hh2]; simp [stA, k98]
  rw [b11] at g2 g3
  have uu : ∀ j k, (j ≠ 9 ∨ k ≠ 8 ∧ k ≠ 11) → γ2 j k = γ1 j k := fun j k y => by rw [u0]; repeat rw [if_neg (by omega)]
  have fr : ∀ j, 63 ≤ j → j ≤ 67 → γ2 j (γ 9 8) = γb j (γ 9 8) := fun j y1 y2 => by rw [uu j _ (by omega)]; exact g2 j _ (by omega)
  refine ⟨fun j k y => by show γ2 j k = _; rw [uu j k (by omega)]; exact g1 j k y, ?_, ?_, ⟨?_, ?_, ?_, ?_, ?_⟩, fun j k y1 y2 y3 => ?_, fun k y1 y2 => ?_⟩
  · show γ2 9 8 = _; rw [u0]; simp
  · show γ2 9 11 = _; rw [u0]; simp
  · show γ2 63 _ = _; rw [fr 63 (by omega) (by omega), s0]; simp
  · show γ2 64 _ = _; rw [fr 64 (by omega) (by omega), s0]; simp
  · show γ2 65 _ = _; rw [fr 65 (by omega) (by omega), s0]; simp
  · show γ2 66 _ = _; rw [fr 66 (by omega) (by omega), s0]; simp
  · show γ2 67 _ = _; rw [fr 67 (by omega) (by omega), s0]; simp
  · show γ2 j k = _
    rw [uu j k y1, g2 j k y2, s0]; repeat rw [if_neg (by omega)]
  · have o := g3 k y1 y2
    show OkS _ γ2 k
    unfold OkS at o ⊢
    rw [uu 54 k (by omega), uu 55 k (by omega), uu 56 k (by omega), uu 57 k (by omega), uu 59 k (by omega)]
    exact o
