/-! equality: the keywords come first -/
def koN : Nat → Nat
  | 0 => 0
  | w + 1 => koN w + (kwBs w).length + 1
theorem kw_f1 : ∀ w : Fin 22, ∀ i : Fin 7, i.val < (kwBs w.val).length → (kwf (koN w.val + i.val)).toInt = kwC w.val (i.val : Int) ∧ (kwf (koN w.val + i.val)).toInt ≠ 32 := by decide +kernel
theorem kw_f2 : ∀ w : Fin 22, (kwf (koN w.val + (kwBs w.val).length)).toInt = 32 ∧ (kwBs w.val).length ≤ 7 ∧ 1 ≤ (kwBs w.val).length := by decide +kernel
theorem kw_f3 : koN 22 = 102 := by decide +kernel
theorem kw_f4 : ∀ u w : Fin 22, u < w → (kwBs u.val).length = (kwBs w.val).length → ∃ i : Fin 7, i.val < (kwBs u.val).length ∧ kwC u.val (i.val : Int) ≠ kwC w.val (i.val : Int) := by decide +kernel
theorem kw_f5 : ∀ w : Fin 22, koN w.val + (kwBs w.val).length < 102 := by decide +kernel
/-- the keywords stand behind the tape -/
def KwI (γ : St) : Prop := ∀ i, 65536 ≤ i → i < 65638 → γ 13 i = (kwf (i - 65536).toNat).toInt
theorem KwI.ch {γ : St} (h : KwI γ) {w : Nat} (hw : w < 22) {i : Int} (h0 : 0 ≤ i) (h1 : i < kwL w) : γ 13 (65536 + koN w + i) = kwC w i ∧ γ 13 (65536 + koN w + i) ≠ 32 := by
  have f2 := kw_f2 ⟨w, hw⟩
  have f5 := kw_f5 ⟨w, hw⟩
  have hl : kwL w = ((kwBs w).length : Int) := rfl
  have f2' : (kwBs w).length ≤ 7 := f2.2.1
  have f5' : koN w + (kwBs w).length < 102 := f5
  have f1 := kw_f1 ⟨w, hw⟩ ⟨i.toNat, by omega⟩ (by show i.toNat < (kwBs w).length; omega)
  have f1' : (kwf (koN w + i.toNat)).toInt = kwC w ((i.toNat : Nat) : Int) ∧ (kwf (koN w + i.toNat)).toInt ≠ 32 := f1
  rw [h _ (by omega) (by omega), show (65536 + (koN w : Int) + i - 65536).toNat = koN w + i.toNat by omega]
  rw [show ((i.toNat : Nat) : Int) = i by omega] at f1'
  exact f1'
theorem KwI.sp {γ : St} (h : KwI γ) {w : Nat} (hw : w < 22) : γ 13 (65536 + koN w + kwL w) = 32 := by
  have f2 := kw_f2 ⟨w, hw⟩
  have f5 := kw_f5 ⟨w, hw⟩
  have hl : kwL w = ((kwBs w).length : Int) := rfl
  have f5' : koN w + (kwBs w).length < 102 := f5
  rw [h _ (by omega) (by omega), show (65536 + (koN w : Int) + kwL w - 65536).toNat = koN w + (kwBs w).length by omega]
  exact f2.1
/-- the words before n are keywords -/
def KwW (γ : St) (n : Nat) : Prop := ∀ w : Nat, w < n → γ 18 w = 65536 + koN w ∧ γ 19 w = kwL w
/-- a keyword's spelling -/
theorem KwW.sp {γ : St} {n : Nat} (k : KwI γ) (h : KwW γ n) {w : Nat} (hw : w < n) (hn : n ≤ 22) {p m : Int} : spW γ w p m ↔ m = kwL w ∧ ∀ i, 0 ≤ i → i < kwL w → γ 13 (p + i) = kwC w i := by
  have e := h w hw
  unfold spW
  rw [e.1, e.2]
  constructor
  · rintro ⟨a, b⟩
    exact ⟨a.symm, fun i q1 q2 => by rw [← b i q1 (by omega)]; exact (k.ch (by omega) q1 q2).1⟩
  · rintro ⟨a, b⟩
    exact ⟨a.symm, fun i q1 q2 => by rw [b i q1 (by omega)]; exact (k.ch (by omega) q1 (by omega)).1⟩
theorem w2_begin_L19 {zz : Prop} : ∀ (f : Nat) (γ : St) (w : Nat) (i : Int), w ≤ 22 → γ 2 8 = w → WdX zz γ → WdC γ → KwI γ → KwW γ w → (koN w : Int) ≤ i → (w < 22 → i ≤ koN w + kwL w) → i ≤ 102 → 102 - i < f → wp (f_Wd_begin_L19 f γ (65536 + koN w) (65536 + i)) (fun z => WdC z.2 ∧ KwI z.2 ∧ KwW z.2 22 ∧ z.2 2 8 = 22) := by
  intro f
  induction f with
  | zero => intro γ w i h1 h2 h3 h4 h5 h6 h7 h8 h9 h10; exfalso; omega
  | succ f ih =>
    intro γ w i h1 h2 h3 h4 h5 h6 h7 h8 h9 h10
    unfold f_Wd_begin_L19
    have f3 := kw_f3
    refine wp_ite (fun q => ?_) (fun q => ?_)
    · have ew : w = 22 := by
        by_cases q2 : w < 22
        · have f5 : koN w + (kwBs w).length < 102 := kw_f5 ⟨w, q2⟩
          have hl : kwL w = ((kwBs w).length : Int) := rfl
          have := h8 q2
          exfalso; omega
        · omega
      subst ew
      exact wp_some ⟨h4, h5, h6, h2⟩
    · have lt : w < 22 := by
        by_cases q2 : w = 22
        · rw [q2, f3] at h7; exfalso; omega
        · omega
      have f5 : koN w + (kwBs w).length < 102 := kw_f5 ⟨w, lt⟩
      have hl : kwL w = ((kwBs w).length : Int) := rfl
      have le := h8 lt
      have ko : (koN (w + 1) : Int) = koN w + kwL w + 1 := by rw [hl]; show (((koN w + (kwBs w).length + 1 : Nat)) : Int) = _; omega
      unfold f_Wd_begin_b52
      refine wp_chk (by omega) (wp_ite (fun q2 => ?_) (fun q2 => ?_))
      · refine wp_chk (by omega) ?_
        rw [show 65536 + i + 1 = 65536 + (i + 1) by omega]
        refine ih γ w (i + 1) h1 h2 h3 h4 h5 h6 (by omega) (fun _ => ?_) (by omega) (by omega)
        by_cases q3 : i = koN w + kwL w
        · exfalso
          apply q2
          rw [q3, show 65536 + ((koN w : Int) + kwL w) = 65536 + koN w + kwL w by omega]
          exact h5.sp lt
        · omega
      · have ei : i = koN w + kwL w := by
          by_cases q3 : i = koN w + kwL w
          · exact q3
          · exfalso
            have := (h5.ch lt (i := i - koN w) (by omega) (by omega)).2
            rw [show 65536 + (koN w : Int) + (i - koN w) = 65536 + i by omega] at this
            exact q2 this
        rw [show 65536 + i - (65536 + (koN w : Int)) = kwL w by omega]
        have k0 : 0 ≤ kwL w := by rw [hl]; omega
        refine wp_chk (by omega) (wp_bnd (wp_and (w_Wd_find h3 (by omega)) (w2_find h3 h4 (by omega) (by omega))) (fun r γ' z => ?_))
        have z1 : WdX zz γ' := z.1.1
        obtain ⟨c1, c2, c3, c4, c5, c6⟩ := z.2
        have c1 : WdC γ' := c1
        have c3 : spW γ' r (65536 + koN w) (kwL w) := c3
        have c4 : ∀ j k, (j < 17 ∨ 23 < j) → (j ≠ 2 ∨ k ≠ 8) → γ' j k = γ j k := c4
        have c5 : ∀ j u, 18 ≤ j → j ≤ 23 → j ≠ 20 → u < γ 2 8 → γ' j u = γ j u := c5
        have c6 : γ' 2 8 = γ 2 8 ∧ r < γ 2 8 ∨ γ' 2 8 = γ 2 8 + 1 ∧ r = γ 2 8 ∧ γ' 22 r = 0 ∧ γ' 23 r = 0 ∧ γ' 18 r = 65536 + koN w ∧ ∀ u, 0 ≤ u → u < γ 2 8 → ¬ spW γ u (65536 + koN w) (kwL w) := c6
        have c2 : 0 ≤ r ∧ r < γ' 2 8 := c2
        have kw' : KwI γ' := fun t q3 q4 => by rw [c4 13 t (by omega) (by omega)]; exact h5 t q3 q4
        have new : γ' 2 8 = γ 2 8 + 1 ∧ r = γ 2 8 ∧ γ' 18 r = 65536 + koN w := by
          rcases c6 with d | d
          · exfalso
            have sp : spW γ r (65536 + koN w) (kwL w) := (spW_fr (fun t => c4 13 t (by omega) (by omega)) (c5 18 r (by omega) (by omega) (by omega) d.2) (c5 19 r (by omega) (by omega) (by omega) d.2)).1 c3
            have er : r = ((r.toNat : Nat) : Int) := by omega
            rw [er] at sp
            have s2 := (h6.sp h5 (w := r.toNat) (by omega) h1).1 sp
            have hlu : kwL r.toNat = ((kwBs r.toNat).length : Int) := rfl
            obtain ⟨t, t1, t2⟩ := kw_f4 ⟨r.toNat, by omega⟩ ⟨w, lt⟩ (by show r.toNat < w; omega) (by show (kwBs r.toNat).length = (kwBs w).length; omega)
            have t1 : t.val < (kwBs r.toNat).length := t1
            have t2 : kwC r.toNat (t.val : Int) ≠ kwC w (t.val : Int) := t2
            apply t2
            rw [← s2.2 t.val (by omega) (by omega)]
            exact (h5.ch lt (by omega) (by omega)).1
          · exact ⟨d.1, d.2.1, d.2.2.2.2.1⟩
        refine wp_chk (by omega) (wp_sub (wp_chk (by omega) ?_))
        rw [show 65536 + i + 1 = 65536 + (koN (w + 1) : Int) by omega]
        refine ih γ' (w + 1) (koN (w + 1)) (by omega) (by omega) z1 c1 kw' (fun u hu => ?_) (Int.le_refl _) (fun _ => ?_) (by omega) (by omega)
        · by_cases q3 : u = w
          · rw [q3]
            have e18 := new.2.2
            have := c3.1
            rw [new.2.1, h2] at e18 this
            exact ⟨e18, this⟩
          · rw [c5 18 u (by omega) (by omega) (by omega) (by omega), c5 19 u (by omega) (by omega) (by omega) (by omega)]
            exact h6 u (by omega)
        · have : 0 ≤ kwL (w + 1) := by show (0 : Int) ≤ ((kwBs (w + 1)).length : Int); omega
          omega
theorem w2_begin {γ : St} (h : KwI γ) : wp (f_Wd_begin γ) (fun z => (WdX True z.2 ∧ FrW γ z.2) ∧ WdC z.2 ∧ KwI z.2 ∧ KwW z.2 22 ∧ z.2 2 8 = 22) := by
  have := FU_v
  refine wp_and w_Wd_begin ?_
  unfold f_Wd_begin
  refine wp_sub (wp_sub ?_)
  have hI : WdX True (setA (flA γ 17 0 512 (-1)) 2 8 0) := by
    refine ⟨by simp [stA], fun h h1 h2 => ?_, fun w h1 h2 => ?_⟩
    · simp [stA, flA, h1, h2]
    · simp [stA] at h2; omega
  have e8 : setA (flA γ 17 0 512 (-1)) 2 8 0 2 8 = 0 := by rw [stA, if_pos ⟨rfl, rfl⟩]
  have e17 : ∀ k, 0 ≤ k → k < 512 → setA (flA γ 17 0 512 (-1)) 2 8 0 17 k = -1 := fun k q1 q2 => by rw [stA, if_neg (by omega)]; show (if _ then _ else _) = _; rw [if_pos ⟨rfl, q1, q2⟩]
  have e13 : ∀ k, setA (flA γ 17 0 512 (-1)) 2 8 0 13 k = γ 13 k := fun k => by rw [stA, if_neg (by omega)]; show (if _ then _ else _) = _; rw [if_neg (by omega)]
  generalize setA (flA γ 17 0 512 (-1)) 2 8 0 = γ1 at *
  have w := w2_begin_L19 FU γ1 0 0 (by omega) (by omega) hI ⟨fun k q1 q2 => Or.inl (e17 k q1 q2), fun w q1 q2 => by omega⟩ (fun i q1 q2 => by rw [e13]; exact h i q1 q2) (fun w q => by omega) (by show ((0 : Nat) : Int) ≤ 0; omega) (fun _ => by show (0 : Int) ≤ ((0 : Nat) : Int) + ((kwBs 0).length : Int); omega) (by omega) (by omega)
  exact w
