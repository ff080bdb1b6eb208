/-! the class's words: safe -/
theorem stA {γ : St} {j : Nat} {i v : Int} {g : Nat} {k : Int} : setA γ j i v g k = if g = j ∧ k = i then v else γ g k := rfl
/-- the words -/
def WdX (zz : Prop) (γ : St) : Prop := (0 ≤ γ 2 8 ∧ γ 2 8 ≤ 5923) ∧ (∀ h, 0 ≤ h → h < 512 → -1 ≤ γ 17 h ∧ γ 17 h < γ 2 8) ∧ ∀ w, 0 ≤ w → w < γ 2 8 → (-1 ≤ γ 20 w ∧ γ 20 w < γ 2 8) ∧ 0 ≤ γ 18 w ∧ 0 ≤ γ 19 w ∧ γ 18 w + γ 19 w ≤ 65638 ∧ (zz → γ 22 w = 0 ∧ γ 23 w = 0)
section WZ
variable {zz : Prop}
theorem w_Wd_isAt_L10 {γ : St} {x1 x2 x3 : Int} (h1 : inb x1 5923) (h2 : 0 ≤ x2 ∧ x2 + γ 19 x1 ≤ 65638) (h3 : 0 ≤ x3 ∧ x3 + γ 19 x1 ≤ 65638) : ∀ (n : Nat) (x4 : Int), 0 ≤ x4 → x4 ≤ γ 19 x1 → γ 19 x1 < x4 + n → wp (f_Wd_isAt_L10 n γ x1 x2 x3 x4) (fun z => z.2 = γ ∧ (z.1 = 0 ∨ z.1 = 1)) := by
  intro n
  induction n with
  | zero => intro x4 h4 h5 h6; exfalso; omega
  | succ n ih =>
    intro x4 h4 h5 h6
    unfold f_Wd_isAt_L10
    refine wp_chk h1 (wp_ite (fun c1 => wp_some ⟨rfl, Or.inr rfl⟩) (fun c1 => ?_))
    refine wp_chk (by omega) (wp_chk (by omega) (wp_chk (by omega) (wp_chk (by omega) (wp_ite (fun c2 => ?_) (fun c2 => wp_some ⟨rfl, Or.inl rfl⟩)))))
    exact wp_chk (by omega) (ih _ (by omega) (by omega) (by omega))
theorem FU_v : FU = 1000000 := rfl
theorem w_Wd_isAt {γ : St} {a0 a1 : Int} (hI : WdX zz γ) (h0 : 0 ≤ a0 ∧ a0 < γ 2 8) (h1 : 0 ≤ a1 ∧ a1 + γ 19 a0 ≤ 65638) : wp (f_Wd_isAt γ a0 a1) (fun z => z.2 = γ ∧ (z.1 = 0 ∨ z.1 = 1)) := by
  unfold f_Wd_isAt
  have := hI.2.2 a0 h0.1 h0.2
  have := hI.1
  have := FU_v
  refine wp_chk (by omega) (wp_ap (fun x16 e => ?_))
  exact w_Wd_isAt_L10 (by omega) (by omega) (by omega) FU 0 (by omega) (by omega) (by omega)
/-- only words change -/
def FrW (γ γ' : St) : Prop := ∀ j k, (j < 17 ∨ 24 ≤ j) → (j ≠ 2 ∨ k ≠ 8) → γ' j k = γ j k
theorem FrW.rf {γ : St} : FrW γ γ := fun _ _ _ _ => rfl
theorem FrW.tr {a b c : St} (h : FrW a b) (k : FrW b c) : FrW a c := fun j i h1 h2 => (k j i h1 h2).trans (h j i h1 h2)
def FrM (γ γ' : St) : Prop := FrW γ γ' ∧ γ 2 8 ≤ γ' 2 8
theorem FrM.rf {γ : St} : FrM γ γ := ⟨FrW.rf, Int.le_refl _⟩
theorem wp_sub {β : Type} {x : β} {ζ : Type} {k : β → Option ζ} {Q : ζ → Prop} (h : wp (k x) Q) : wp (ap x k) Q := h
set_option maxHeartbeats 1000000 in
theorem w_Wd_add {γ : St} {a0 a1 a2 : Int} (hI : WdX zz γ) (h0 : γ 2 8 < 5923) (h1 : 0 ≤ a0 ∧ 0 ≤ a1 ∧ a0 + a1 ≤ 65638) (h2 : inb a2 512) : wp (f_Wd_add γ a0 a1 a2) (fun z => WdX zz z.2 ∧ 0 ≤ z.1 ∧ z.1 < z.2 2 8 ∧ FrM γ z.2) := by
  have ⟨i1, i2, i3⟩ := hI
  unfold f_Wd_add
  refine wp_chk (by omega) (wp_sub (wp_sub (wp_chk (by omega) (wp_sub (wp_chk (by omega) (wp_sub (wp_chk (by omega) (wp_chk (by omega) (wp_sub (wp_chk (by omega) (wp_sub (wp_chk (by omega) (wp_sub (wp_chk (by omega) (wp_sub (wp_chk (by omega) (wp_sub (wp_some ?_))))))))))))))))))
  refine ⟨⟨?_, ?_, ?_⟩, ?_, ?_, ?_, ?_⟩
  · simp [stA]; omega
  · intro h h1 h2; simp [stA]; have := i2 h h1 h2; grind
  · intro w h1 h2; simp [stA] at h2 ⊢; have := i3 w h1; have := i2 a2; grind
  · simp [stA]; omega
  · simp [stA]; omega
  · intro j k h1 h2; simp [stA]; grind
  · simp [stA]; omega
theorem w_Wd_find_b104 {γ : St} {x1 x2 x3 : Int} (hI : WdX zz γ) (h1 : 0 ≤ x1 ∧ 0 ≤ x2 ∧ x1 + x2 ≤ 65638) (h2 : inb x3 512) : wp (f_Wd_find_b104 γ x1 x2 x3) (fun z => WdX zz z.2 ∧ -1 ≤ z.1 ∧ z.1 < z.2 2 8 ∧ FrM γ z.2) := by
  have i1 := hI.1
  unfold f_Wd_find_b104
  refine wp_ite (fun c => wp_some ⟨hI, by omega, by show -1 < γ 2 8; omega, FrM.rf⟩) (fun c => ?_)
  refine wp_bnd (w_Wd_add hI (by omega) h1 h2) (fun r γ' h => wp_some ⟨h.1, ?_, h.2.2.1, h.2.2.2⟩)
  have := h.2.1
  show -1 ≤ r
  have : 0 ≤ r := h.2.1
  omega
theorem w_Wd_find_L51 {γ : St} {x24 x25 x26 : Int} (hI : WdX zz γ) (h1 : 0 ≤ x24 ∧ 0 ≤ x25 ∧ x24 + x25 ≤ 65638) (h2 : inb x26 512) : ∀ (n : Nat) (x27 x28 : Int), -1 ≤ x27 → x27 < γ 2 8 → 0 ≤ x28 → x28 ≤ γ 2 8 → γ 2 8 - x28 < n → wp (f_Wd_find_L51 f_Wd_find_b104 n γ x24 x25 x26 x27 x28) (fun z => WdX zz z.2 ∧ -1 ≤ z.1 ∧ z.1 < z.2 2 8 ∧ FrM γ z.2) := by
  have i1 := hI.1
  have hE := w_Wd_find_b104 hI h1 h2
  intro n
  induction n with
  | zero =>
    intro x27 x28 h3 h4 h5 h6 h7
    exact absurd h7 (by omega)
  | succ n ih =>
    intro x27 x28 h3 h4 h5 h6 h7
    unfold f_Wd_find_L51
    refine wp_ite (fun _ => hE) (fun c1 => wp_ite (fun _ => hE) (fun c2 => ?_))
    have i3 := hI.2.2 x27 (by omega) h4
    have hb : wp (f_Wd_find_b89 (f_Wd_find_L51 f_Wd_find_b104 n) f_Wd_find_b104 γ x24 x25 x26 x27 x28) (fun z => WdX zz z.2 ∧ -1 ≤ z.1 ∧ z.1 < z.2 2 8 ∧ FrM γ z.2) := by
      unfold f_Wd_find_b89
      exact wp_chk (by omega) (wp_sub (wp_chk (by omega) (ih _ _ (by omega) (by omega) (by omega) (by omega) (by omega))))
    refine wp_chk (by omega) (wp_ite (fun _ => hb) (fun c3 => ?_))
    refine wp_bnd (w_Wd_isAt hI (by omega) (by omega)) (fun r γ' h => ?_)
    obtain ⟨e, -⟩ := h
    have e : γ' = γ := e
    subst e
    exact wp_ite (fun _ => hb) (fun _ => wp_some ⟨hI, h3, h4, FrM.rf⟩)
theorem w_Wd_find_b32 {γ : St} {x37 x38 x39 : Int} (hI : WdX zz γ) (h1 : 0 ≤ x37 ∧ 0 ≤ x38 ∧ x37 + x38 ≤ 65638) : wp (f_Wd_find_b32 γ x37 x38 x39) (fun z => WdX zz z.2 ∧ -1 ≤ z.1 ∧ z.1 < z.2 2 8 ∧ FrM γ z.2) := by
  have i1 := hI.1
  have a1 := iand_511 x39
  have i2 := hI.2.1 _ a1.1 a1.2
  have := FU_v
  unfold f_Wd_find_b32
  exact wp_sub (wp_chk a1 (wp_sub (w_Wd_find_L51 hI h1 a1 FU _ 0 (by omega) (by omega) (by omega) (by omega) (by omega))))
theorem w_Wd_find_L5 {γ : St} {x44 x45 : Int} (hI : WdX zz γ) (h1 : 0 ≤ x44 ∧ 0 ≤ x45 ∧ x44 + x45 ≤ 65638) : ∀ (n : Nat) (x46 x47 : Int), 0 ≤ x47 → x47 ≤ x45 → x45 - x47 < n → wp (f_Wd_find_L5 f_Wd_find_b32 n γ x44 x45 x46 x47) (fun z => WdX zz z.2 ∧ -1 ≤ z.1 ∧ z.1 < z.2 2 8 ∧ FrM γ z.2) := by
  intro n
  induction n with
  | zero => intro x46 x47 h2 h3 h4; exfalso; omega
  | succ n ih =>
    intro x46 x47 h2 h3 h4
    unfold f_Wd_find_L5
    refine wp_ite (fun _ => w_Wd_find_b32 hI h1) (fun c => ?_)
    exact wp_chk (by omega) (wp_chk (by omega) (wp_sub (wp_chk (by omega) (ih _ _ (by omega) (by omega) (by omega)))))
theorem w_Wd_find {γ : St} {a0 a1 : Int} (hI : WdX zz γ) (h1 : 0 ≤ a0 ∧ 0 ≤ a1 ∧ a0 + a1 ≤ 65638) : wp (f_Wd_find γ a0 a1) (fun z => WdX zz z.2 ∧ -1 ≤ z.1 ∧ z.1 < z.2 2 8 ∧ FrM γ z.2) := by
  have := FU_v
  unfold f_Wd_find
  exact w_Wd_find_L5 hI h1 FU 0 0 (by omega) (by omega) (by omega)
end WZ
