/-! the class's expression reader: its stacks -/
/-- operators and operands -/
def ErJ (γ : St) : Prop := TkR γ ∧ (0 ≤ γ 6 8 ∧ γ 6 8 ≤ 512) ∧ (0 ≤ γ 6 9 ∧ γ 6 9 ≤ 512) ∧ (γ 6 12 = 0 ∨ γ 6 12 = 1) ∧ γ 6 9 = sumK ndK (γ 48) (γ 6 8).toNat + (1 - γ 6 12) ∧ γ 6 10 = sumK nestK (γ 48) (γ 6 8).toNat ∧ (0 ≤ γ 4 4 ∧ γ 4 4 + γ 6 8 ≤ γ 1 6) ∧ ∀ i, 0 ≤ i → i < γ 6 9 → 0 ≤ γ 52 i ∧ γ 52 i ≤ γ 4 4
theorem sumK_push {f g g' : Int → Int} {n : Int} {v : Int} (h : 0 ≤ n) (e : g' = fun k => if k = n then v else g k) : sumK f g' (n + 1).toNat = sumK f g n.toNat + f v := by
  have e1 : (n + 1).toNat = n.toNat + 1 := by omega
  have e2 : ((n.toNat : Nat) : Int) = n := by omega
  rw [e1]
  show sumK f g' n.toNat + f (g' (n.toNat : Nat)) = _
  rw [e2, sumK_cong (g := g') (g' := g) (fun i h1 h2 => by rw [e]; show (if i = n then v else g i) = g i; rw [if_neg (by omega)]), e]
  show _ + f (if n = n then v else g n) = _
  rw [if_pos rfl]
theorem nestK_b (k : Int) : 0 ≤ nestK k ∧ nestK k ≤ 1 := by
  unfold nestK
  split <;> omega
theorem sumK_le {f g : Int → Int} {c : Int} (hf : ∀ k, f k ≤ c) : ∀ {n : Nat}, sumK f g n ≤ c * n := by
  intro n
  induction n with
  | zero => show (0 : Int) ≤ c * 0; omega
  | succ n ih =>
    have := hf (g n)
    show sumK f g n + f (g n) ≤ c * ((n + 1 : Nat) : Int)
    rw [show ((n + 1 : Nat) : Int) = (n : Int) + 1 by omega, Int.mul_add, Int.mul_one]
    omega
/-- the reader's own cells, the cursor and the fault change alone -/
def FrE (γ γ' : St) : Prop := ∀ j k, (j ≠ 6 ∧ j < 38 ∨ 41 < j ∧ j < 48 ∨ 52 < j) → (j ≠ 4 ∨ k ≠ 4) → (j ≠ 1 ∨ k < 6 ∨ 8 < k) → j ≠ 6 → γ' j k = γ j k
theorem FrE.rf {γ : St} : FrE γ γ := fun _ _ _ _ _ _ => rfl
theorem FrE.tr {a b c : St} (h : FrE a b) (k : FrE b c) : FrE a c := fun j i h1 h2 h3 h4 => (k j i h1 h2 h3 h4).trans (h j i h1 h2 h3 h4)
theorem FrC.E {a b : St} (h : FrC a b) : FrE a b := fun j k _ _ h3 _ => h j k h3
theorem ErJ.fr {γ γ' : St} (h : ErJ γ) (hT : TkR γ') (hF : FrC γ γ') (h6 : γ 1 6 ≤ γ' 1 6) : ErJ γ' := by
  have ⟨_, i1, i2, i3, i4, i5, i6, i7⟩ := h
  have e : ∀ j k, (j ≠ 1 ∨ k < 6 ∨ 8 < k) → γ' j k = γ j k := hF
  have e48 : γ' 48 = γ 48 := funext fun k => e 48 k (by omega)
  have a8 := e 6 8 (by omega)
  have a9 := e 6 9 (by omega)
  have a10 := e 6 10 (by omega)
  have a12 := e 6 12 (by omega)
  have a4 := e 4 4 (by omega)
  refine ⟨hT, by rw [a8]; exact i1, by rw [a9]; exact i2, by rw [a12]; exact i3, by rw [a9, e48, a8, a12]; exact i4, by rw [a10, e48, a8]; exact i5, by rw [a4, a8]; omega, fun i h1 h2 => ?_⟩
  rw [a9] at h2
  rw [e 52 i (by omega), a4]
  exact i7 i h1 h2
theorem wp_bs {ζ : Type} {o : Option (Int × St)} {r : Int} {γ : St} {k : Int → St → Option ζ} {Q : ζ → Prop} (e : o = some (r, γ)) (h : wp (k r γ) Q) : wp (bndN o k) Q := by rw [e]; exact h
theorem TkR.ext {γ γ' : St} (h : TkR γ) (e : ∀ j k, (j = 1 ∨ j = 2 ∨ 14 ≤ j ∧ j < 21) → γ' j k = γ j k) : TkR γ' := by
  have ⟨⟨⟨j1, j2, j3⟩, i1, i2⟩, i3, i4⟩ := h
  have e5 := e 1 5 (by omega)
  have e6 := e 1 6 (by omega)
  have e8 := e 2 8 (by omega)
  refine ⟨⟨⟨?_, ?_, ?_⟩, ?_, ?_⟩, by rw [e5, e6]; exact i3, by rw [e5, e 14 _ (by omega)]; exact i4⟩
  · rw [e8]; exact j1
  · intro h h1 h2; rw [e 17 h (by omega), e8]; exact j2 h h1 h2
  · intro w h1 h2; rw [e8] at h2; rw [e8, e 20 w (by omega), e 18 w (by omega), e 19 w (by omega)]; exact ⟨(j3 w h1 h2).1, (j3 w h1 h2).2.1, (j3 w h1 h2).2.2.1, (j3 w h1 h2).2.2.2.1, fun f => f.elim⟩
  · rw [e5]; exact i1
  · intro t h1 h2; rw [e5] at h2; rw [e8, e 14 t (by omega), e 15 t (by omega), e 16 t (by omega)]; exact i2 t h1 h2
set_option maxHeartbeats 1000000 in
theorem w_Er_push {γ : St} {a0 a1 : Int} (h : ErJ γ) (hn : ndK a0 = 1 - γ 6 12) (hk : γ 14 (γ 1 6) ≠ 0) (ha : a1 = 0 ∨ a1 = 1) : wp (f_Er_push γ a0 a1) (fun z => ErJ z.2 ∧ FrE γ z.2 ∧ (z.1 = 0 ∧ z.2 1 7 ≠ 0 ∨ z.1 = 1 ∧ z.2 1 7 = γ 1 7 ∧ z.2 6 8 = γ 6 8 + 1 ∧ z.2 48 (γ 6 8) = a0 ∧ z.2 6 12 = 1 ∧ ∀ j k, 49 ≤ j → z.2 j k = γ j k)) := by
  have ⟨hT, i1, i2, i3, i4, i5, i6, i7⟩ := h
  have b1 := nestK_b a0
  have b2 : 0 ≤ γ 6 10 := by rw [i5]; exact sumK_nn (fun k => (nestK_b k).1)
  have b3 : γ 6 10 ≤ 512 := by
    have := sumK_le (f := nestK) (g := γ 48) (c := 1) (fun k => (nestK_b k).2) (n := (γ 6 8).toNat)
    omega
  unfold f_Er_push
  refine wp_ite (fun c => wp_chk (by omega) (wp_sub (wp_chk (by simp [stA]; omega) (wp_sub (wp_bs (f_S_nesting_eq _ _) ?_))))) (fun c => ?_)
  · refine wp_chk (by simp [stA]; omega) (wp_sub (wp_sub (wp_chk ha (wp_sub ?_))))
    generalize hs : setA _ 6 13 a1 = γs
    have s0 : ∀ j k, γs j k = if j = 6 ∧ k = 13 then a1 else if j = 6 ∧ k = 12 then 1 else if j = 6 ∧ k = 10 then γ 6 10 + nestK a0 else if j = 6 ∧ k = 8 then γ 6 8 + 1 else if j = 48 ∧ k = γ 6 8 then a0 else γ j k := fun j k => by rw [← hs]; simp [stA]
    have hTs : TkR γs := hT.ext (fun j k h1 => by rw [s0]; grind)
    have s16 : γs 1 6 = γ 1 6 := by rw [s0]; simp
    refine wp_bnd (w_Tk_step hTs) (fun r γ2 hz => wp_some ?_)
    obtain ⟨hT2, hF, z7, z6, z8⟩ := hz
    have hT2 : TkR γ2 := hT2
    have e : ∀ j k, (j ≠ 1 ∨ k < 6 ∨ 8 < k) → γ2 j k = γs j k := hF
    have z6 : γ2 1 6 = γs 1 6 + 1 := z8 (by rw [s16, s0]; simpa using hk)
    have a8 : γ2 6 8 = γ 6 8 + 1 := by rw [e 6 8 (by omega), s0]; simp
    have a9 : γ2 6 9 = γ 6 9 := by rw [e 6 9 (by omega), s0]; simp
    have a10 : γ2 6 10 = γ 6 10 + nestK a0 := by rw [e 6 10 (by omega), s0]; simp
    have a12 : γ2 6 12 = 1 := by rw [e 6 12 (by omega), s0]; simp
    have a4 : γ2 4 4 = γ 4 4 := by rw [e 4 4 (by omega), s0]; simp
    have a48 : γ2 48 = fun k => if k = γ 6 8 then a0 else γ 48 k := funext fun k => by rw [e 48 k (by omega), s0]; simp
    refine ⟨⟨hT2, ?_, ?_, ?_, ?_, ?_, ?_, ?_⟩, ?_, Or.inr ⟨rfl, ?_, a8, ?_, a12, ?_⟩⟩
    · show 0 ≤ γ2 6 8 ∧ γ2 6 8 ≤ 512; omega
    · show 0 ≤ γ2 6 9 ∧ γ2 6 9 ≤ 512; omega
    · exact Or.inr a12
    · show γ2 6 9 = sumK ndK (γ2 48) (γ2 6 8).toNat + (1 - γ2 6 12)
      rw [a8, sumK_push i1.1 a48, a9, a12]; omega
    · show γ2 6 10 = sumK nestK (γ2 48) (γ2 6 8).toNat
      rw [a8, sumK_push i1.1 a48, a10]; omega
    · show 0 ≤ γ2 4 4 ∧ γ2 4 4 + γ2 6 8 ≤ γ2 1 6; omega
    · intro i h1 h2
      have h2 : i < γ2 6 9 := h2
      show 0 ≤ γ2 52 i ∧ γ2 52 i ≤ γ2 4 4
      have e52 : γ2 52 i = γ 52 i := by rw [e 52 i (by omega), s0]; simp
      rw [e52, a4]
      exact i7 i h1 (by omega)
    · intro j k h1 h2 h3 h4
      show γ2 j k = γ j k
      rw [e j k h3, s0]; grind
    · show γ2 1 7 = γ 1 7
      have z7 : γ2 1 7 = γs 1 7 := z7
      rw [z7, s0]; simp
    · show γ2 48 (γ 6 8) = a0
      rw [a48]; simp
    · intro j k h1
      show γ2 j k = γ j k
      rw [e j k (by omega), s0]; grind
  · refine wp_bnd (w_Tk_fail hT (by omega)) (fun r γ1 hz => wp_some ⟨h.fr hz.1 hz.2.1 (Int.le_of_eq hz.2.2.2.1.symm), hz.2.1.E, Or.inl ⟨hz.2.2.1, hz.2.2.2.2⟩⟩)
