/-! equality: the class's tokens are the reference's -/
def tnS (γ : St) (a0 a1 a2 : Int) : St := fun j k => if j = 1 ∧ k = 5 then γ 1 5 + 1 else if j = 16 ∧ k = γ 1 5 then a2 else if j = 15 ∧ k = γ 1 5 then a1 else if j = 14 ∧ k = γ 1 5 then a0 else γ j k
theorem tnS_o (γ : St) (a0 a1 a2 : Int) {j : Nat} {k : Int} (h1 : j ≠ 1 ∨ k ≠ 5) (h2 : j < 14 ∨ 16 < j ∨ k ≠ γ 1 5) : tnS γ a0 a1 a2 j k = γ j k := by
  show (if _ then _ else _) = _
  repeat rw [if_neg (by omega)]
theorem tnS_5 (γ : St) (a0 a1 a2 : Int) : tnS γ a0 a1 a2 1 5 = γ 1 5 + 1 := by
  show (if _ then _ else _) = _
  rw [if_pos ⟨rfl, rfl⟩]
theorem tnS_16 (γ : St) (a0 a1 a2 : Int) : tnS γ a0 a1 a2 16 (γ 1 5) = a2 := by
  show (if _ then _ else _) = _
  rw [if_neg (by omega), if_pos ⟨rfl, rfl⟩]
theorem tnS_15 (γ : St) (a0 a1 a2 : Int) : tnS γ a0 a1 a2 15 (γ 1 5) = a1 := by
  show (if _ then _ else _) = _
  rw [if_neg (by omega), if_neg (by omega), if_pos ⟨rfl, rfl⟩]
theorem tnS_14 (γ : St) (a0 a1 a2 : Int) : tnS γ a0 a1 a2 14 (γ 1 5) = a0 := by
  show (if _ then _ else _) = _
  rw [if_neg (by omega), if_neg (by omega), if_neg (by omega), if_pos ⟨rfl, rfl⟩]
theorem w2_tadd {γ : St} {a0 a1 a2 : Int} (h : 0 ≤ γ 1 5 ∧ γ 1 5 ≤ 65536) : wp (f_Tk_add γ a0 a1 a2) (fun z => z = (0, tnS γ a0 a1 a2)) := by
  unfold f_Tk_add
  refine wp_chk (by omega) (wp_sub (wp_chk (by simp [stA]; omega) (wp_sub (wp_chk (by simp [stA]; omega) (wp_sub (wp_chk (by simp [stA]; omega) (wp_sub (wp_some ?_))))))))
  refine congrArg (Prod.mk 0) (funext fun j => funext fun k => ?_)
  simp [stA, tnS]
/-- the token t of the class is the reference's at its place -/
def TkA (γ : St) (L t : Int) : Prop := (tkK (γ 13) L (γ 15 t) = 1 → (0 ≤ γ 16 t ∧ γ 16 t < γ 2 8) ∧ spW γ (γ 16 t) (γ 15 t) (tkE (γ 13) L (γ 15 t) - γ 15 t) ∧ (γ 16 t < 22 → γ 14 t = 20 + γ 16 t) ∧ (22 ≤ γ 16 t → γ 14 t = 2)) ∧ (tkK (γ 13) L (γ 15 t) = 2 → γ 14 t = 3 ∧ γ 16 t = nmF (γ 13) L FU (γ 15 t) 0) ∧ (tkK (γ 13) L (γ 15 t) ≠ 1 → tkK (γ 13) L (γ 15 t) ≠ 2 → γ 14 t = sgC (tkK (γ 13) L (γ 15 t)))
theorem TkA.fr {γ γ' : St} {L t : Int} (h : TkA γ L t) (e13 : γ' 13 = γ 13) (e14 : γ' 14 t = γ 14 t) (e15 : γ' 15 t = γ 15 t) (e16 : γ' 16 t = γ 16 t) (ew : ∀ w, w < γ 2 8 → γ' 18 w = γ 18 w ∧ γ' 19 w = γ 19 w) (em : γ 2 8 ≤ γ' 2 8) : TkA γ' L t := by
  unfold TkA
  rw [e13, e14, e15, e16]
  refine ⟨fun q => ?_, h.2.1, h.2.2⟩
  have k := h.1 q
  have w := ew _ k.1.2
  exact ⟨by omega, (spW_fr (fun k => by rw [e13]) w.1 w.2).2 k.2.1, k.2.2⟩
/-- where the token t is looked for -/
def nxP (γ : St) (L t : Int) : Int := if t = 0 then 0 else tkE (γ 13) L (γ 15 (t - 1))
def ScA (γ : St) (L T : Int) : Prop := ∀ t, 0 ≤ t → t < T → γ 15 t = skP (γ 13) L (nxP γ L t) ∧ TkA γ L t
def ScN (γ : St) (L T : Int) : Prop := ∀ t, 0 ≤ t → t < T → tkK (γ 13) L (γ 15 t) ≠ 0 ∧ tkK (γ 13) L (γ 15 t) ≠ 3
/-- the words, and the tape -/
def ScC (γ : St) (L : Int) : Prop := WdC γ ∧ KwI γ ∧ KwW γ 22 ∧ 22 ≤ γ 2 8 ∧ ∀ k, 0 ≤ k → k < L → γ 13 k ≤ 127
/-- while the text is cut, at p -/
def ScG (γ : St) (L p : Int) : Prop := ((0 ≤ p ∧ p ≤ L) ∧ 0 ≤ γ 1 5 ∧ γ 1 5 ≤ p) ∧ ScC γ L ∧ (2 * (γ 2 8 - 22) ≤ p + 1 ∧ (p < L → ltB (γ 13 p) ≠ 0 → 2 * (γ 2 8 - 22) ≤ p)) ∧ ScA γ L (γ 1 5) ∧ ScN γ L (γ 1 5) ∧ skP (γ 13) L (nxP γ L (γ 1 5)) = skP (γ 13) L p
/-- the last token is none -/
def ScB (γ : St) (L : Int) : Prop := ScC γ L ∧ (1 ≤ γ 1 5 ∧ γ 1 5 ≤ L) ∧ ScA γ L (γ 1 5) ∧ ScN γ L (γ 1 5 - 1) ∧ tkK (γ 13) L (γ 15 (γ 1 5 - 1)) = 3
/-- the tokens, whole -/
def TsE (γ : St) (L : Int) : Prop := ScC γ L ∧ ∃ N, (0 ≤ N ∧ N < γ 1 5) ∧ ScA γ L (N + 1) ∧ ScN γ L N ∧ (tkK (γ 13) L (γ 15 N) = 0 ∧ N = γ 1 5 - 1 ∨ tkK (γ 13) L (γ 15 N) = 3)
theorem WdC.fr {γ γ' : St} (h : WdC γ) (e : ∀ j k, j = 13 ∨ 17 ≤ j ∧ j ≤ 20 → γ' j k = γ j k) (e8 : γ' 2 8 = γ 2 8) : WdC γ' := by
  unfold WdC bkW spW at h ⊢
  rw [show γ' 13 = γ 13 from funext fun k => e 13 k (by omega), show γ' 17 = γ 17 from funext fun k => e 17 k (by omega), show γ' 18 = γ 18 from funext fun k => e 18 k (by omega), show γ' 19 = γ 19 from funext fun k => e 19 k (by omega), show γ' 20 = γ 20 from funext fun k => e 20 k (by omega), e8]
  exact h
theorem ScC.ad {γ : St} {L : Int} (h : ScC γ L) (a0 a1 a2 : Int) : ScC (tnS γ a0 a1 a2) L := by
  have ⟨h1, h2, h3, h4, h5⟩ := h
  have e : ∀ (j : Nat) (k : Int), j < 14 ∧ j ≠ 1 ∨ 16 < j → tnS γ a0 a1 a2 j k = γ j k := fun j k q => tnS_o γ a0 a1 a2 (by omega) (by omega)
  refine ⟨h1.fr (fun j k q => e j k (by omega)) (e 2 8 (by omega)), fun i q1 q2 => by rw [e 13 i (by omega)]; exact h2 i q1 q2, fun w q => by rw [e 18 w (by omega), e 19 w (by omega)]; exact h3 w q, by rw [e 2 8 (by omega)]; exact h4, fun k q1 q2 => by rw [e 13 k (by omega)]; exact h5 k q1 q2⟩
theorem ScC.wd {γ γ1 : St} {L p n r : Int} (h : ScC γ L) (z : WdN γ p n r γ1) : ScC γ1 L ∧ γ 2 8 ≤ γ1 2 8 ∧ γ1 2 8 ≤ γ 2 8 + 1 := by
  have ⟨h1, h2, h3, h4, h5⟩ := h
  obtain ⟨z1, z2, z3, z4, z5, z6⟩ := z
  have m : γ 2 8 ≤ γ1 2 8 ∧ γ1 2 8 ≤ γ 2 8 + 1 := by
    rcases z6 with q | q
    · have := q.1; omega
    · have := q.1; omega
  refine ⟨⟨z1, fun i q1 q2 => by rw [z4 13 i (by omega) (by omega)]; exact h2 i q1 q2, fun w q => by rw [z5 18 w (by omega) (by omega) (by omega) (by omega), z5 19 w (by omega) (by omega) (by omega) (by omega)]; exact h3 w q, by omega, fun k q1 q2 => by rw [z4 13 k (by omega) (by omega)]; exact h5 k q1 q2⟩, m⟩
/-- one token more -/
theorem ScA.ad {γ γ' : St} {L T : Int} (h : ScA γ L T) (hT : 0 ≤ T) (e13 : γ' 13 = γ 13) (e : ∀ t, t < T → γ' 14 t = γ 14 t ∧ γ' 15 t = γ 15 t ∧ γ' 16 t = γ 16 t) (ew : ∀ w, w < γ 2 8 → γ' 18 w = γ 18 w ∧ γ' 19 w = γ 19 w) (em : γ 2 8 ≤ γ' 2 8) (hp : γ' 15 T = skP (γ 13) L (nxP γ L T)) (ht : TkA γ' L T) : ScA γ' L (T + 1) := by
  intro t q1 q2
  have en : nxP γ' L t = nxP γ L t := by
    unfold nxP
    by_cases q : t = 0
    · rw [if_pos q, if_pos q]
    · rw [if_neg q, if_neg q, e13, (e (t - 1) (by omega)).2.1]
  rw [en, e13]
  by_cases q : t = T
  · subst q; exact ⟨hp, ht⟩
  · have k := h t q1 (by omega)
    have f := e t (by omega)
    exact ⟨by rw [f.2.1]; exact k.1, k.2.fr e13 f.1 f.2.1 f.2.2 ew em⟩
theorem ScN.fr {γ γ' : St} {L T : Int} (h : ScN γ L T) (e13 : γ' 13 = γ 13) (e : ∀ t, t < T → γ' 15 t = γ 15 t) : ScN γ' L T := by
  intro t q1 q2
  rw [e13, e t q2]
  exact h t q1 q2
/-- the token at p is put behind -/
theorem ScG.ad {γ γ1 : St} {L p k it : Int} (h : ScG γ L p) (st : Sto (γ 13) L p) (c1 : ScC γ1 L) (f : ∀ j k, (j < 17 ∨ 23 < j) → (j ≠ 2 ∨ k ≠ 8) → γ1 j k = γ j k) (ew : ∀ w, w < γ 2 8 → γ1 18 w = γ 18 w ∧ γ1 19 w = γ 19 w) (em : γ 2 8 ≤ γ1 2 8) (ht : TkA (tnS γ1 k p it) L (γ 1 5)) : ScC (tnS γ1 k p it) L ∧ ScA (tnS γ1 k p it) L (γ 1 5 + 1) ∧ ScN (tnS γ1 k p it) L (γ 1 5) ∧ tnS γ1 k p it 1 5 = γ 1 5 + 1 ∧ tnS γ1 k p it 15 (γ 1 5) = p ∧ tnS γ1 k p it 13 = γ 13 ∧ tnS γ1 k p it 2 8 = γ1 2 8 := by
  have ⟨⟨a1, a2⟩, a3, a4, a5, a6, a7⟩ := h
  have e5 : γ1 1 5 = γ 1 5 := f 1 5 (by omega) (by omega)
  have e13 : tnS γ1 k p it 13 = γ 13 := funext fun i => (tnS_o γ1 k p it (by omega) (by omega)).trans (f 13 i (by omega) (by omega))
  have o : ∀ (j : Nat) (t : Int), 14 ≤ j → j ≤ 16 → t < γ 1 5 → tnS γ1 k p it j t = γ j t := fun j t q1 q2 q3 => (tnS_o γ1 k p it (by omega) (by omega)).trans (f j t (by omega) (by omega))
  have e15 : tnS γ1 k p it 15 (γ 1 5) = p := by rw [← e5]; exact tnS_15 γ1 k p it
  refine ⟨c1.ad _ _ _, a5.ad a2.1 e13 (fun t q => ⟨o 14 t (by omega) (by omega) q, o 15 t (by omega) (by omega) q, o 16 t (by omega) (by omega) q⟩) (fun w q => ?_) ?_ ?_ ht, a6.fr e13 (fun t q => o 15 t (by omega) (by omega) q), ?_, e15, e13, tnS_o γ1 k p it (by omega) (by omega)⟩
  · rw [tnS_o γ1 k p it (by omega) (by omega), tnS_o γ1 k p it (by omega) (by omega)]; exact ew w q
  · rw [tnS_o γ1 k p it (by omega) (by omega)]; exact em
  · rw [e15, a7, skP_st st]
  · rw [tnS_5, e5]
theorem ScG.fin {γ γ2 : St} {L p e w : Int} (h : ScG γ L p) (hp : p < e) (he : e ≤ L) (z : ScC γ2 L ∧ ScA γ2 L (γ 1 5 + 1) ∧ ScN γ2 L (γ 1 5) ∧ γ2 1 5 = γ 1 5 + 1 ∧ γ2 15 (γ 1 5) = p ∧ γ2 13 = γ 13 ∧ γ2 2 8 = w) (hk : tkK (γ 13) L p ≠ 0 ∧ tkK (γ 13) L p ≠ 3) (hE : tkE (γ 13) L p = e) (hr : 2 * (w - 22) ≤ e + 1 ∧ (e < L → ltB (γ 13 e) ≠ 0 → 2 * (w - 22) ≤ e)) : ScG γ2 L e := by
  have ⟨⟨a1, a2⟩, a3, a4, a5, a6, a7⟩ := h
  obtain ⟨z1, z2, z3, z4, z5, z6, z7⟩ := z
  refine ⟨⟨by omega, by omega, by omega⟩, z1, ?_, by rw [z4]; exact z2, ?_, ?_⟩
  · rw [z7, z6]; exact hr
  · rw [z4]
    intro t q1 q2
    by_cases q : t = γ 1 5
    · rw [q, z5, z6]; exact hk
    · exact z3 t q1 (by omega)
  · rw [z4, z6]
    unfold nxP
    rw [if_neg (by omega), show γ 1 5 + 1 - 1 = γ 1 5 by omega, z5, z6, hE]
theorem ScG.bad {γ γ2 : St} {L p w : Int} (h : ScG γ L p) (hp : p < L) (z : ScC γ2 L ∧ ScA γ2 L (γ 1 5 + 1) ∧ ScN γ2 L (γ 1 5) ∧ γ2 1 5 = γ 1 5 + 1 ∧ γ2 15 (γ 1 5) = p ∧ γ2 13 = γ 13 ∧ γ2 2 8 = w) (hk : tkK (γ 13) L p = 3) : ScB γ2 L := by
  have ⟨⟨a1, a2⟩, a3, a4, a5, a6, a7⟩ := h
  obtain ⟨z1, z2, z3, z4, z5, z6, z7⟩ := z
  refine ⟨z1, by omega, by rw [z4]; exact z2, ?_, ?_⟩
  · rw [z4, show γ 1 5 + 1 - 1 = γ 1 5 by omega]; exact z3
  · rw [z4, show γ 1 5 + 1 - 1 = γ 1 5 by omega, z5, z6]; exact hk
theorem sto_lt {b : Int → Int} {L p : Int} (h : ltB (b p) ≠ 0) : Sto b L p := by
  have k : 65 ≤ b p := by
    unfold ltB at h
    split at h
    · omega
    · split at h
      · omega
      · exact absurd rfl h
  exact Or.inr ⟨by omega, by omega⟩
theorem sto_dg {b : Int → Int} {L p : Int} (h : dgB (b p) ≠ 0) : Sto b L p := by
  have k : 48 ≤ b p := by
    unfold dgB at h
    split at h
    · omega
    · exact absurd rfl h
  exact Or.inr ⟨by omega, by omega⟩
