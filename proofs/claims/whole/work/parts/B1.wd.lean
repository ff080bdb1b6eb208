/-! equality: the class's words, a number for each spelling -/
def hsW (t : Int → Int) (p : Int) : Nat → Int
  | 0 => 0
  | n + 1 => wr (wr (hsW t p n * 31) + t (p + n))
theorem hsW_agree {t : Int → Int} {p q : Int} : ∀ {n : Nat}, (∀ i : Int, 0 ≤ i → i < n → t (p + i) = t (q + i)) → hsW t p n = hsW t q n
  | 0, _ => rfl
  | n + 1, h => by
    show wr (wr (hsW t p n * 31) + t (p + n)) = wr (wr (hsW t q n * 31) + t (q + n))
    rw [hsW_agree (n := n) (fun i a b => h i a (by omega)), h n (by omega) (by omega)]
/-- the word w is spelled as the n bytes at p -/
def spW (γ : St) (w p n : Int) : Prop := γ 19 w = n ∧ ∀ i, 0 ≤ i → i < n → γ 13 (γ 18 w + i) = γ 13 (p + i)
def bkW (γ : St) (w : Int) : Int := iand (hsW (γ 13) (γ 18 w) (γ 19 w).toNat) 511
/-- the words are found by their spelling -/
def WdC (γ : St) : Prop := (∀ h, 0 ≤ h → h < 512 → γ 17 h = -1 ∨ (0 ≤ γ 17 h ∧ γ 17 h < γ 2 8) ∧ bkW γ (γ 17 h) = h) ∧ ∀ w, 0 ≤ w → w < γ 2 8 → w ≤ γ 17 (bkW γ w) ∧ (γ 20 w = -1 ∨ (0 ≤ γ 20 w ∧ γ 20 w < w) ∧ bkW γ (γ 20 w) = bkW γ w) ∧ (∀ u, 0 ≤ u → u < w → bkW γ u = bkW γ w → u ≤ γ 20 w) ∧ ∀ u, 0 ≤ u → u < w → ¬ spW γ u (γ 18 w) (γ 19 w)
theorem spW_bk {γ : St} {w p n : Int} (h : spW γ w p n) : bkW γ w = iand (hsW (γ 13) p n.toNat) 511 := by
  unfold bkW
  rw [h.1, hsW_agree (fun i a b => h.2 i a (by omega))]
/-- one word for one spelling -/
theorem WdC.one {γ : St} (h : WdC γ) {u w p n : Int} (u0 : 0 ≤ u) (u1 : u < γ 2 8) (w0 : 0 ≤ w) (w1 : w < γ 2 8) (hu : spW γ u p n) (hw : spW γ w p n) : u = w := by
  by_cases q : u < w
  · exact absurd ⟨hu.1.trans hw.1.symm, fun i a b => by rw [hw.1] at b; exact (hu.2 i a b).trans (hw.2 i a b).symm⟩ ((h.2 w w0 w1).2.2.2 u u0 q)
  · by_cases q2 : w < u
    · exact absurd ⟨hw.1.trans hu.1.symm, fun i a b => by rw [hu.1] at b; exact (hw.2 i a b).trans (hu.2 i a b).symm⟩ ((h.2 u u0 u1).2.2.2 w w0 q2)
    · omega
theorem w2_isAt_L10 {γ : St} {x1 x2 x3 : Int} (h1 : inb x1 5923) (h2 : 0 ≤ x2 ∧ x2 + γ 19 x1 ≤ 65638) (h3 : 0 ≤ x3 ∧ x3 + γ 19 x1 ≤ 65638) : ∀ (n : Nat) (x4 : Int), 0 ≤ x4 → x4 ≤ γ 19 x1 → γ 19 x1 < x4 + n → (∀ i, 0 ≤ i → i < x4 → γ 13 (x3 + i) = γ 13 (x2 + i)) → wp (f_Wd_isAt_L10 n γ x1 x2 x3 x4) (Yn γ (∀ i, 0 ≤ i → i < γ 19 x1 → γ 13 (x3 + i) = γ 13 (x2 + i))) := by
  intro n
  induction n with
  | zero => intro x4 h4 h5 h6; exfalso; omega
  | succ n ih =>
    intro x4 h4 h5 h6 h7
    unfold f_Wd_isAt_L10
    refine wp_chk h1 (wp_ite (fun c1 => wp_some (Or.inl ⟨rfl, fun i a b => h7 i a (by omega)⟩)) (fun c1 => ?_))
    refine wp_chk (by omega) (wp_chk (by omega) (wp_chk (by omega) (wp_chk (by omega) (wp_ite (fun c2 => ?_) (fun c2 => wp_some (Or.inr ⟨rfl, fun h => c2 (h x4 h4 (by omega))⟩))))))
    refine wp_chk (by omega) (ih _ (by omega) (by omega) (by omega) (fun i a b => ?_))
    by_cases q : i = x4
    · rw [q]; exact c2
    · exact h7 i a (by omega)
theorem w2_isAt {zz : Prop} {γ : St} {a0 a1 : Int} (hI : WdX zz γ) (h0 : 0 ≤ a0 ∧ a0 < γ 2 8) (h1 : 0 ≤ a1 ∧ a1 + γ 19 a0 ≤ 65638) : wp (f_Wd_isAt γ a0 a1) (Yn γ (∀ i, 0 ≤ i → i < γ 19 a0 → γ 13 (γ 18 a0 + i) = γ 13 (a1 + i))) := by
  unfold f_Wd_isAt
  have := hI.2.2 a0 h0.1 h0.2
  have := hI.1
  have := FU_v
  refine wp_chk (by omega) (wp_ap (fun x16 e => ?_))
  subst e
  exact w2_isAt_L10 (by omega) (by omega) (by omega) FU 0 (by omega) (by omega) (by omega) (fun i a b => by omega)
/-- what find leaves: the words before as they were, at most one more -/
def WdN (γ : St) (p n r : Int) (γ' : St) : Prop := WdC γ' ∧ (0 ≤ r ∧ r < γ' 2 8) ∧ spW γ' r p n ∧ (∀ j k, (j < 17 ∨ 23 < j) → (j ≠ 2 ∨ k ≠ 8) → γ' j k = γ j k) ∧ (∀ j w, 18 ≤ j → j ≤ 23 → j ≠ 20 → w < γ 2 8 → γ' j w = γ j w) ∧ (γ' 2 8 = γ 2 8 ∧ r < γ 2 8 ∨ γ' 2 8 = γ 2 8 + 1 ∧ r = γ 2 8 ∧ γ' 22 r = 0 ∧ γ' 23 r = 0 ∧ γ' 18 r = p ∧ ∀ u, 0 ≤ u → u < γ 2 8 → ¬ spW γ u p n)
theorem bkW_fr {γ γ' : St} {w : Int} (e13 : ∀ k, γ' 13 k = γ 13 k) (e18 : γ' 18 w = γ 18 w) (e19 : γ' 19 w = γ 19 w) : bkW γ' w = bkW γ w := by
  unfold bkW
  rw [e18, e19, show γ' 13 = γ 13 from funext e13]
theorem spW_fr {γ γ' : St} {w p n : Int} (e13 : ∀ k, γ' 13 k = γ 13 k) (e18 : γ' 18 w = γ 18 w) (e19 : γ' 19 w = γ 19 w) : spW γ' w p n ↔ spW γ w p n := by
  unfold spW
  rw [e18, e19, show γ' 13 = γ 13 from funext e13]
theorem w2_add {γ : St} {p n h : Int} (hC : WdC γ) (h0 : 0 ≤ γ 2 8 ∧ γ 2 8 < 5923) (h2 : 0 ≤ h ∧ h < 512) (hn : 0 ≤ n) (hh : iand (hsW (γ 13) p n.toNat) 511 = h) (no : ∀ u, 0 ≤ u → u < γ 2 8 → ¬ spW γ u p n) : wp (f_Wd_add γ p n h) (fun z => WdN γ p n z.1 z.2) := by
  have ⟨i2, i3⟩ := hC
  unfold f_Wd_add
  refine wp_chk (by omega) (wp_sub (wp_sub (wp_chk (by omega) (wp_sub (wp_chk (by omega) (wp_sub (wp_chk (by omega) (wp_chk (by omega) ?_))))))))
  rw [show setA (setA (setA γ 2 8 (γ 2 8 + 1)) 18 (γ 2 8) p) 19 (γ 2 8) n 17 h = γ 17 h by simp [stA]]
  refine wp_sub (wp_chk (by omega) (wp_sub (wp_chk (by omega) (wp_sub (wp_chk (by omega) (wp_sub (wp_chk (by omega) (wp_sub (wp_some ?_)))))))))
  generalize hg : setA _ 23 (γ 2 8) 0 = γ1
  have s : ∀ j k, γ1 j k = if j = 23 ∧ k = γ 2 8 then 0 else if j = 22 ∧ k = γ 2 8 then 0 else if j = 21 ∧ k = γ 2 8 then -1 else if j = 17 ∧ k = h then γ 2 8 else if j = 20 ∧ k = γ 2 8 then γ 17 h else if j = 19 ∧ k = γ 2 8 then n else if j = 18 ∧ k = γ 2 8 then p else if j = 2 ∧ k = 8 then γ 2 8 + 1 else γ j k := fun j k => by rw [← hg]; simp only [stA]
  have s0 : ∀ j k, (18 ≤ j → j ≤ 23 → k ≠ γ 2 8) → (j = 17 → k ≠ h) → (j = 2 → k ≠ 8) → γ1 j k = γ j k := fun j k q1 q2 q3 => by rw [s]; (repeat rw [if_neg (by omega)])
  have e8 : γ1 2 8 = γ 2 8 + 1 := by rw [s]; (repeat rw [if_neg (by omega)]); rw [if_pos ⟨rfl, rfl⟩]
  have e18 : γ1 18 (γ 2 8) = p := by rw [s]; (repeat rw [if_neg (by omega)]); rw [if_pos ⟨rfl, rfl⟩]
  have e19 : γ1 19 (γ 2 8) = n := by rw [s]; (repeat rw [if_neg (by omega)]); rw [if_pos ⟨rfl, rfl⟩]
  have e20 : γ1 20 (γ 2 8) = γ 17 h := by rw [s]; (repeat rw [if_neg (by omega)]); rw [if_pos ⟨rfl, rfl⟩]
  have e17 : γ1 17 h = γ 2 8 := by rw [s]; (repeat rw [if_neg (by omega)]); rw [if_pos ⟨rfl, rfl⟩]
  have e13 : ∀ k, γ1 13 k = γ 13 k := fun k => s0 13 k (by omega) (by omega) (by omega)
  have bo : ∀ w, w < γ 2 8 → bkW γ1 w = bkW γ w := fun w q => bkW_fr e13 (s0 18 w (by omega) (by omega) (by omega)) (s0 19 w (by omega) (by omega) (by omega))
  have so : ∀ w p' n', w < γ 2 8 → (spW γ1 w p' n' ↔ spW γ w p' n') := fun w p' n' q => spW_fr e13 (s0 18 w (by omega) (by omega) (by omega)) (s0 19 w (by omega) (by omega) (by omega))
  have bn : bkW γ1 (γ 2 8) = h := by
    unfold bkW
    rw [e18, e19, show γ1 13 = γ 13 from funext e13]
    exact hh
  show WdN γ p n (γ 2 8) γ1
  refine ⟨⟨fun k q1 q2 => ?_, fun w q1 q2 => ?_⟩, by show 0 ≤ γ 2 8 ∧ γ 2 8 < γ1 2 8; omega, ⟨e19, fun i _ _ => by rw [e18]⟩, fun j k q1 q2 => s0 j k (by omega) (by omega) (by omega), fun j w q1 q2 q3 q4 => s0 j w (by omega) (by omega) (by omega), Or.inr ⟨e8, rfl, ?_, ?_, e18, no⟩⟩
  · by_cases q : k = h
    · rw [q, e17]; exact Or.inr ⟨by omega, bn⟩
    · rw [s0 17 k (by omega) (fun _ => q) (by omega)]
      rcases i2 k q1 q2 with c | c
      · exact Or.inl c
      · exact Or.inr ⟨by omega, by rw [bo _ c.1.2]; exact c.2⟩
  · have q2 : w < γ1 2 8 := q2
    by_cases q : w = γ 2 8
    · rw [q, bn, e17, e20, e18, e19]
      refine ⟨Int.le_refl _, ?_, fun u r1 r2 r3 => ?_, fun u r1 r2 => by rw [so u p n r2]; exact no u r1 r2⟩
      · rcases i2 h h2.1 h2.2 with c | c
        · exact Or.inl c
        · exact Or.inr ⟨c.1, by rw [bo _ c.1.2]; exact c.2⟩
      · rw [bo u r2] at r3
        have := (i3 u r1 r2).1
        rw [r3] at this
        exact this
    · have lt : w < γ 2 8 := by omega
      have k := i3 w q1 lt
      rw [bo w lt, s0 20 w (by omega) (by omega) (by omega), s0 18 w (by omega) (by omega) (by omega), s0 19 w (by omega) (by omega) (by omega)]
      refine ⟨?_, ?_, fun u r1 r2 r3 => k.2.2.1 u r1 r2 (by rw [bo u (by omega)] at r3; exact r3), fun u r1 r2 => by rw [so u _ _ (by omega)]; exact k.2.2.2 u r1 r2⟩
      · by_cases r : bkW γ w = h
        · rw [r, e17]; omega
        · rw [s0 17 _ (by omega) (fun _ => r) (by omega)]; exact k.1
      · rcases k.2.1 with c | c
        · exact Or.inl c
        · exact Or.inr ⟨c.1, by rw [bo _ (by omega)]; exact c.2⟩
  · show γ1 22 (γ 2 8) = 0
    rw [s]; (repeat rw [if_neg (by omega)]); rw [if_pos ⟨rfl, rfl⟩]
  · show γ1 23 (γ 2 8) = 0
    rw [s, if_pos ⟨rfl, rfl⟩]
theorem w2_find_L51 {zz : Prop} {γ : St} {p n h : Int} (hI : WdX zz γ) (hC : WdC γ) (h0 : γ 2 8 < 5923) (h1 : 0 ≤ p ∧ 0 ≤ n ∧ p + n ≤ 65638) (h2 : 0 ≤ h ∧ h < 512) (hh : iand (hsW (γ 13) p n.toNat) 511 = h) : ∀ (f : Nat) (x i : Int), (x = -1 ∨ (0 ≤ x ∧ x < γ 2 8) ∧ bkW γ x = h) → (∀ u, 0 ≤ u → u < γ 2 8 → x < u → bkW γ u = h → ¬ spW γ u p n) → 0 ≤ i → i + x < γ 2 8 → i ≤ γ 2 8 → γ 2 8 - i < f → wp (f_Wd_find_L51 f_Wd_find_b104 f γ p n h x i) (fun z => WdN γ p n z.1 z.2) := by
  have i1 := hI.1
  intro f
  induction f with
  | zero => intro x i q1 q2 q3 q4 q5 q6; exact absurd q6 (by omega)
  | succ f ih =>
    intro x i q1 q2 q3 q4 q5 q6
    have e104 : x = -1 → wp (f_Wd_find_b104 γ p n h) (fun z => WdN γ p n z.1 z.2) := fun ex => by
      unfold f_Wd_find_b104
      rw [if_neg (by omega)]
      refine wp_bnd (w2_add hC ⟨i1.1, h0⟩ h2 h1.2.1 hh (fun u r1 r2 r3 => ?_)) (fun r γ' z => wp_some z)
      exact q2 u r1 r2 (by omega) ((spW_bk r3).trans hh) r3
    unfold f_Wd_find_L51
    by_cases ex : x = -1
    · exact wp_ite (fun _ => e104 ex) (fun _ => wp_ite (fun _ => e104 ex) (fun r => absurd r (by omega)))
    · have q1' : (0 ≤ x ∧ x < γ 2 8) ∧ bkW γ x = h := by
        rcases q1 with c | c
        · exact absurd c ex
        · exact c
      have i3 := hI.2.2 x q1'.1.1 q1'.1.2
      have c3 := hC.2 x q1'.1.1 q1'.1.2
      rw [if_neg (by omega), if_neg (by omega)]
      have b89 : ¬ spW γ x p n → wp (f_Wd_find_b89 (f_Wd_find_L51 f_Wd_find_b104 f) f_Wd_find_b104 γ p n h x i) (fun z => WdN γ p n z.1 z.2) := fun ns => by
        unfold f_Wd_find_b89
        refine wp_chk (by omega) (wp_sub (wp_chk (by omega) (ih (γ 20 x) (i + 1) ?_ (fun u r1 r2 r3 r4 => ?_) (by omega) ?_ (by omega) (by omega))))
        · rcases c3.2.1 with c | c
          · exact Or.inl c
          · exact Or.inr ⟨by omega, c.2.trans q1'.2⟩
        · by_cases r5 : u = x
          · rw [r5]; exact ns
          · by_cases r6 : u < x
            · have := c3.2.2.1 u r1 r6 (r4.trans q1'.2.symm); exfalso; omega
            · exact q2 u r1 r2 (by omega) r4
        · rcases c3.2.1 with c | c
          · omega
          · have := c.1; omega
      refine wp_chk (by omega) (wp_ite (fun c => b89 (fun r => c r.1)) (fun c => ?_))
      have c : γ 19 x = n := by
        by_cases r : γ 19 x = n
        · exact r
        · exact absurd r c
      refine wp_yn (w2_isAt hI q1'.1 (by omega)) (fun y => ?_) (fun y => ?_)
      · rw [if_neg (by decide)]
        exact wp_some ⟨hC, q1'.1, ⟨c, fun i a b => y i a (by omega)⟩, fun _ _ _ _ => rfl, fun _ _ _ _ _ _ => rfl, Or.inl ⟨rfl, q1'.1.2⟩⟩
      · rw [if_pos rfl]
        exact b89 (fun r => y (fun i a b => r.2 i a (by omega)))
theorem w2_find_L5 {zz : Prop} {γ : St} {p n : Int} (hI : WdX zz γ) (hC : WdC γ) (h0 : γ 2 8 < 5923) (h1 : 0 ≤ p ∧ 0 ≤ n ∧ p + n ≤ 65638) : ∀ (f : Nat) (k : Int), 0 ≤ k → k ≤ n → n - k < f → wp (f_Wd_find_L5 f_Wd_find_b32 f γ p n (hsW (γ 13) p k.toNat) k) (fun z => WdN γ p n z.1 z.2) := by
  have := FU_v
  have i1 := hI.1
  intro f
  induction f with
  | zero => intro k q1 q2 q3; exfalso; omega
  | succ f ih =>
    intro k q1 q2 q3
    unfold f_Wd_find_L5
    refine wp_ite (fun q => ?_) (fun q => ?_)
    · rw [show k = n by omega]
      have a1 := iand_511 (hsW (γ 13) p n.toNat)
      unfold f_Wd_find_b32
      refine wp_sub (wp_chk a1 (wp_sub (w2_find_L51 hI hC h0 h1 a1 rfl FU _ 0 ?_ (fun u r1 r2 r3 r4 => ?_) (by omega) ?_ (by omega) (by omega))))
      · exact hC.1 _ a1.1 a1.2
      · have := (hC.2 u r1 r2).1
        rw [r4] at this
        exfalso; omega
      · rcases hC.1 _ a1.1 a1.2 with c | c
        · omega
        · have := c.1; omega
    · refine wp_chk (by omega) (wp_chk (by omega) (wp_sub (wp_chk (by omega) ?_)))
      have e : wr (wr (hsW (γ 13) p k.toNat * 31) + γ 13 (p + k)) = hsW (γ 13) p (k + 1).toNat := by
        rw [show (k + 1).toNat = k.toNat + 1 by omega]
        show _ = wr (wr (hsW (γ 13) p k.toNat * 31) + γ 13 (p + (k.toNat : Int)))
        rw [show ((k.toNat : Nat) : Int) = k by omega]
      rw [e]
      exact ih (k + 1) (by omega) (by omega) (by omega)
theorem w2_find {zz : Prop} {γ : St} {p n : Int} (hI : WdX zz γ) (hC : WdC γ) (h0 : γ 2 8 < 5923) (h1 : 0 ≤ p ∧ 0 ≤ n ∧ p + n ≤ 65638) : wp (f_Wd_find γ p n) (fun z => WdN γ p n z.1 z.2) := by
  have := FU_v
  unfold f_Wd_find
  exact w2_find_L5 hI hC h0 h1 FU 0 (by omega) (by omega) (by omega)
