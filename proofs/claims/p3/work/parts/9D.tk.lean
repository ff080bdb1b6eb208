/-! the class's linker: parts are taken -/
theorem LkX.lo {γ0 : St} {m : Int} (hx : LkX γ0 m) {n e : Int} (h1 : 0 ≤ n) (h2 : n ≤ m) (h3 : γ0 29 n ≤ e) (h4 : e < γ0 29 n + γ0 30 n) : γ0 43 (γ0 29 n) ≤ γ0 43 e := by
  have wn := (hx.2.1 n h1 h2).1
  have x : ∀ k : Nat, γ0 29 n + k < γ0 29 n + γ0 30 n → γ0 43 (γ0 29 n) ≤ γ0 43 (γ0 29 n + k) := by
    intro k
    induction k with
    | zero => intro _; rw [show γ0 29 n + ((0 : Nat) : Int) = γ0 29 n by omega]; omega
    | succ k ih =>
      intro hk
      have i1 := ih (by omega)
      have i2 := wn.2.2.2.2.1 (γ0 29 n + k) (by omega) (by omega)
      have i3 := (wn.2.2.2.1 (γ0 29 n + k) (by omega) (by omega)).1.1
      rw [show γ0 29 n + ((k + 1 : Nat) : Int) = γ0 29 n + k + 1 by omega]
      omega
  have := x (e - γ0 29 n).toNat (by omega)
  rw [show γ0 29 n + (((e - γ0 29 n).toNat : Nat) : Int) = e by omega] at this
  exact this
theorem LkI.nn {γ0 γ : St} {m : Int} (hx : LkX γ0 m) (h : LkI γ0 m γ) : ∀ f, 0 ≤ f → f < γ 9 8 → 0 ≤ dF γ0 γ f ∧ 0 ≤ rF γ0 γ f ∧ 0 ≤ wF γ0 γ f := by
  intro f h1 h2
  have ⟨g1, g2, g3, g4, g5, g6, g7⟩ := h.2.1 f h1 h2
  have hm := hx.1
  have hn : 0 ≤ γ 63 f ∧ γ 63 f ≤ m := by omega
  have hnn := hx.nn hn.1 hn.2
  have wn := (hx.2.1 _ hn.1 hn.2).1
  have eP : enF γ0 γ f = γ0 29 (γ 63 f) + γ0 30 (γ 63 f) := rfl
  have lo : γ0 43 (γ0 29 (γ 63 f)) ≤ γ 67 f := by
    by_cases q : γ 66 f < enF γ0 γ f
    · have y := hx.lo hn.1 hn.2 g4.1 (by omega)
      have := g5 q
      omega
    · rw [g6 (by omega), eP]
      have y := hx.eq hn.1 hn.2 (Int.le_refl _) (by have := wn.2.1; omega)
      omega
  refine ⟨?_, ?_, ?_⟩
  · unfold dF
    by_cases q : γ 66 f < enF γ0 γ f
    · rw [if_pos q]
      have w := (wn.2.2.2.1 (γ 66 f) g4.1 (by omega)).1
      by_cases q2 : γ 67 f = γ0 44 (γ 66 f)
      · rw [if_pos q2]; have := w.2.2.2.1; omega
      · rw [if_neg q2]
        have y := g5 q
        have p := w.2.2.2.2.2 (γ 67 f) y.1 (by omega)
        have := sdK_nn p.1
        have := p.2.2.2.2
        omega
    · rw [if_neg q]; omega
  · unfold rF
    have := sm_nn (f := cpF γ0) (a := γ 67 f) (b := γ0 44 (enF γ0 γ f - 1)) (fun i q1 q2 => by have := (hnn i (by omega) (by rw [← eP]; exact q2)).1; omega)
    omega
  · unfold wF
    exact sm_nn (fun i q1 q2 => (hnn i (by omega) (by rw [← eP]; exact q2)).2)
/-- the top frame at a part: what there is room for -/
theorem LkI.tp {γ0 γ : St} {m f : Int} (hx : LkX γ0 m) (h : LkI γ0 m γ) (hf : f = γ 9 8 - 1) (h0 : 0 ≤ f) (hq : γ 66 f < enF γ0 γ f) : (γ 67 f < γ0 44 (γ 66 f) → Pf γ0 (γ 67 f) - γ 66 f ≤ γ 9 10 ∧ γ0 40 (γ 67 f) ≤ Pf γ0 (γ 67 f) - γ 66 f ∧ 1 ≤ sm (rF γ0 γ) 0 (γ 9 8)) ∧ (γ 67 f = γ0 44 (γ 66 f) → γ0 46 (γ 66 f) ≤ γ 9 10) ∧ (0 ≤ γ 9 10 ∧ γ 9 10 ≤ 9000) ∧ (γ 8 5 + sm (rF γ0 γ) 0 (γ 9 8) ≤ 9001) ∧ (γ 8 11 + 2 * sm (rF γ0 γ) 0 (γ 9 8) ≤ 6000) ∧ (γ 9 10 + sm (rF γ0 γ) 0 (γ 9 8) ≤ 9000) ∧ 0 ≤ sm (rF γ0 γ) 0 (γ 9 8) ∧ (γ 9 11 ≤ γ0 32 m ∧ γ0 32 m ≤ 6000) := by
  have nn := h.nn hx
  have ⟨b1, b2, b3, b4, b5, b6, b7⟩ := h.2.2.1
  have ⟨w1, w2, hn, w3, w4⟩ := h.top hx hf h0 hq
  have ⟨g1, g2, g3, g4, g5, g6, g7⟩ := h.2.1 f h0 (by omega)
  have hV := hx.2.2.1
  have sd := sm_ge (f := dF γ0 γ) (a := 0) (b := γ 9 8) (i := f) h0 (by omega) (fun k q1 q2 => (nn k q1 q2).1)
  have sr := sm_ge (f := rF γ0 γ) (a := 0) (b := γ 9 8) (i := f) h0 (by omega) (fun k q1 q2 => (nn k q1 q2).2.1)
  have nw := sm_nn (f := wF γ0 γ) (a := 0) (b := γ 9 8) (fun k q1 q2 => (nn k q1 q2).2.2)
  have nd := sm_nn (f := dF γ0 γ) (a := 0) (b := γ 9 8) (fun k q1 q2 => (nn k q1 q2).1)
  have nr := sm_nn (f := rF γ0 γ) (a := 0) (b := γ 9 8) (fun k q1 q2 => (nn k q1 q2).2.1)
  refine ⟨fun q => ?_, fun q => ?_, by omega, by omega, by omega, by omega, nr, by omega⟩
  · have d0 : dF γ0 γ f = Pf γ0 (γ 67 f) - γ 66 f := by unfold dF; rw [if_pos hq, if_neg (by omega)]
    have y := g5 hq
    have p := w1.2.2.2.2.2 (γ 67 f) y.1 q
    have p5 := p.2.2.2.2
    have r0 := (nn f h0 (by omega)).2.1
    have r1 : 1 ≤ rF γ0 γ f := by
      have z := nn f h0 (by omega)
      unfold rF at z ⊢
      have hnn := hx.nn hn.1 hn.2
      have lo := hx.lo hn.1 hn.2 g4.1 (by unfold enF at hq; exact hq)
      have := sm_nn (f := cpF γ0) (a := γ 67 f) (b := γ0 44 (enF γ0 γ f - 1)) (fun i q1 q2 => by have := (hnn i (by omega) (by unfold enF at q2; exact q2)).1; omega)
      omega
    omega
  · have d0 : dF γ0 γ f = γ0 46 (γ 66 f) := by unfold dF; rw [if_pos hq, if_pos q]
    omega
/-- a step is made -/
def LkQ (γ0 : St) (m : Int) (γ γ' : St) : Prop := LkI γ0 m γ' ∧ 2 * sm (rF γ0 γ') 0 (γ' 9 8) + γ' 9 8 + 1 ≤ 2 * sm (rF γ0 γ) 0 (γ 9 8) + γ 9 8
theorem lpush_eq {γ : St} {a : Int} (h : 0 ≤ γ 9 10 ∧ γ 9 10 < 9000) : f_Lk_push γ a = some (0, setA (setA γ 68 (γ 9 10) a) 9 10 (γ 9 10 + 1)) := by
  unfold f_Lk_push
  exact some_wp (wp_chk (by omega) (wp_sub (wp_chk (by simp [stA]; omega) (wp_sub (wp_some (by simp [stA]))))))
/-- one value more, and one slot more at most -/
theorem one_fin {γ0 γ γ' : St} {m f : Int} (hx : LkX γ0 m) (h : LkI γ0 m γ) (hf : f = γ 9 8 - 1) (h0 : 0 ≤ f) (hq : γ 66 f < enF γ0 γ f) (hp : γ 67 f < γ0 44 (γ 66 f)) (hk : γ0 38 (γ 67 f) ≠ 43) {s T C : Int} (hs : s = γ 8 5) (hT : T = γ 9 10 - γ0 40 (γ 67 f)) (hC : C = γ 8 11)
    (eo : ∀ j k, (j ≠ 9 ∨ k ≠ 10) → (j ≠ 8 ∨ k ≠ 5 ∧ k ≠ 11) → (j < 54 ∨ 58 < j ∨ k ≠ s) → (j ≠ 61 ∧ j ≠ 62 ∨ k < C) → (j ≠ 68 ∨ k ≠ T) → (j ≠ 67 ∨ k ≠ f) → γ' j k = γ j k) (e67 : γ' 67 f = γ 67 f + 1) (t10 : γ' 9 10 = T + 1) (s5 : γ' 8 5 = s ∨ γ' 8 5 = s + 1 ∧ SlI (γ0 32 m) γ' s) (c11 : C ≤ γ' 8 11 ∧ γ' 8 11 ≤ C + 2) (eT : 0 ≤ γ' 68 T ∧ γ' 68 T < γ' 8 5) (ec : ∀ i, C ≤ i → i < γ' 8 11 → (0 ≤ γ' 61 i ∧ γ' 61 i < γ' 8 5) ∧ 0 ≤ γ' 62 i ∧ γ' 62 i ≤ 2 * γ0 32 m) : LkQ γ0 m γ γ' := by
  have tp := h.tp hx hf h0 hq
  have tp1 := tp.1 hp
  have hS := h.2.2.1
  have ⟨b1, b2, b3, b4, b5, b6, b7⟩ := hS
  have e98 : γ' 9 8 = γ 9 8 := eo 9 8 (by omega) (by omega) (by omega) (by omega) (by omega) (by omega)
  have e11 : γ' 9 11 = γ 9 11 := eo 9 11 (by omega) (by omega) (by omega) (by omega) (by omega) (by omega)
  have e12 : γ' 9 12 = γ 9 12 := eo 9 12 (by omega) (by omega) (by omega) (by omega) (by omega) (by omega)
  have e88 : γ' 8 8 = γ 8 8 := eo 8 8 (by omega) (by omega) (by omega) (by omega) (by omega) (by omega)
  have s5' : γ 8 5 ≤ γ' 8 5 ∧ γ' 8 5 ≤ γ 8 5 + 1 := by rcases s5 with q | q <;> omega
  have pn : 0 ≤ γ0 40 (γ 67 f) := by
    have ⟨w1, w2, hn, w3, w4⟩ := h.top hx hf h0 hq
    have ⟨g1, g2, g3, g4, g5, g6, g7⟩ := h.2.1 f h0 (by omega)
    exact sdK_nn (w1.2.2.2.2.2 (γ 67 f) (g5 hq).1 hp).1
  have g := h.go (γ' := γ') hx hf h0 hq hp hk (fun j k q => by rw [eo j k (by omega) (by omega) (by omega) (by omega) (by omega) (by omega)]; exact h.1 j k q) (fun j k q1 q2 q3 => eo j k (by omega) (by omega) (by omega) (by omega) (by omega) (by omega)) e67 e98 e11 e12 e88 (by omega) s5' (by omega) ?_
  · exact ⟨g.1, by rw [g.2, e98]; omega⟩
  · refine h.2.2.2.up s5'.1 (by omega) (fun i q1 q2 => ?_) (fun x q => ?_) (fun i q1 q2 => ?_)
    · by_cases y : i = T
      · subst y; exact Or.inr eT
      · exact Or.inl ⟨by omega, eo 68 i (by omega) (by omega) (by omega) (by omega) (by omega) (by omega)⟩
    · by_cases y : x = s
      · rcases s5 with z | z
        · exfalso; omega
        · subst y; exact Or.inr z.2
      · exact Or.inl ⟨by omega, fun j y1 y2 => by
          by_cases z : j = 59
          · exact eo j x (by omega) (by omega) (by omega) (by omega) (by omega) (by omega)
          · exact eo j x (by omega) (by omega) (by omega) (by omega) (by omega) (by omega)⟩
    · by_cases y : i < C
      · exact Or.inl ⟨by omega, eo 61 i (by omega) (by omega) (by omega) (by omega) (by omega) (by omega), eo 62 i (by omega) (by omega) (by omega) (by omega) (by omega) (by omega)⟩
      · exact Or.inr (ec i (by omega) q2)
theorem acell_eq {γ : St} {a c : Int} (h : 0 ≤ γ 8 11 ∧ γ 8 11 < 6000) : f_Sl_addCell γ a c = some (0, setA (setA (setA γ 61 (γ 8 11) a) 62 (γ 8 11) c) 8 11 (γ 8 11 + 1)) := by
  unfold f_Sl_addCell
  exact some_wp (wp_chk (by omega) (wp_sub (wp_chk (by simp [stA]; omega) (wp_sub (wp_chk (by simp [stA]; omega) (wp_sub (wp_some (by simp [stA]))))))))
