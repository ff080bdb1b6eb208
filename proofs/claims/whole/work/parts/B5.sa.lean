/-! equality: the class's scan -/
def ScO (L p : Int) (z : Int × St) : Prop := p < z.1 ∧ (ScG z.2 L z.1 ∨ z.1 = L ∧ ScB z.2 L)
theorem ScO.ok {L p r : Int} {γ : St} (h : p < r) (k : ScG γ L r) : ScO L p (r, γ) := ⟨h, Or.inl k⟩
theorem ScO.no {L p : Int} {γ : St} (h : p < L) (k : ScB γ L) : ScO L p (L, γ) := ⟨h, Or.inr ⟨rfl, k⟩⟩
theorem ScG.wd {γ γ1 : St} {L p e r k : Int} (h : ScG γ L p) (hp : p < e) (he : e ≤ L) (hc : ltB (γ 13 p) ≠ 0) (z : WdN γ p (e - p) r γ1) (hE : tkE (γ 13) L p = e) (hK : tkK (γ 13) L p = 1) (hs : e < L → ltB (γ 13 e) = 0) (k1 : r < 22 → k = 20 + r) (k2 : 22 ≤ r → k = 2) : ScG (tnS γ1 k p r) L e := by
  have ⟨⟨a1, a2⟩, a3, a4, a5, a6, a7⟩ := h
  have c := a3.wd z
  obtain ⟨z1, z2, z3, z4, z5, z6⟩ := z
  have e5 : γ1 1 5 = γ 1 5 := z4 1 5 (by omega) (by omega)
  have e13 : tnS γ1 k p r 13 = γ 13 := funext fun i => (tnS_o γ1 k p r (by omega) (by omega)).trans (z4 13 i (by omega) (by omega))
  have e15 : tnS γ1 k p r 15 (γ 1 5) = p := by rw [← e5]; exact tnS_15 γ1 k p r
  have e16 : tnS γ1 k p r 16 (γ 1 5) = r := by rw [← e5]; exact tnS_16 γ1 k p r
  have e14 : tnS γ1 k p r 14 (γ 1 5) = k := by rw [← e5]; exact tnS_14 γ1 k p r
  have e8 : tnS γ1 k p r 2 8 = γ1 2 8 := tnS_o γ1 k p r (by omega) (by omega)
  have ht : TkA (tnS γ1 k p r) L (γ 1 5) := by
    unfold TkA
    rw [e13, e15, e16, e14, e8, hK, hE]
    refine ⟨fun _ => ⟨z2, (spW_fr (fun i => tnS_o γ1 k p r (by omega) (by omega)) (tnS_o γ1 k p r (by omega) (by omega)) (tnS_o γ1 k p r (by omega) (by omega))).2 z3, k1, k2⟩, fun q => absurd q (by decide), fun q => absurd rfl q⟩
  refine h.fin hp he (h.ad (sto_lt hc) c.1 z4 (fun w q => ⟨z5 18 w (by omega) (by omega) (by omega) q, z5 19 w (by omega) (by omega) (by omega) q⟩) c.2.1 ht) (by omega) hE ?_
  have a8 := a4.2 (by omega) hc
  exact ⟨by omega, fun q1 q2 => absurd (hs q1) q2⟩
theorem TkA.one {γ : St} {L T p k it : Int} (hT : γ 1 5 = T) (h1 : tkK (γ 13) L p ≠ 1) (h2 : tkK (γ 13) L p = 2 → k = 3 ∧ it = nmF (γ 13) L FU p 0) (h3 : tkK (γ 13) L p ≠ 2 → k = sgC (tkK (γ 13) L p)) : TkA (tnS γ k p it) L T := by
  subst hT
  unfold TkA
  rw [show tnS γ k p it 13 = γ 13 from funext fun i => tnS_o γ k p it (by omega) (by omega), tnS_15, tnS_16, tnS_14]
  exact ⟨fun q => absurd q h1, h2, fun _ q => h3 q⟩
theorem ScG.one {γ : St} {L p k it : Int} (h : ScG γ L p) (st : Sto (γ 13) L p) (ht : TkA (tnS γ k p it) L (γ 1 5)) : ScC (tnS γ k p it) L ∧ ScA (tnS γ k p it) L (γ 1 5 + 1) ∧ ScN (tnS γ k p it) L (γ 1 5) ∧ tnS γ k p it 1 5 = γ 1 5 + 1 ∧ tnS γ k p it 15 (γ 1 5) = p ∧ tnS γ k p it 13 = γ 13 ∧ tnS γ k p it 2 8 = γ 2 8 := h.ad st h.2.1 (fun _ _ _ _ => rfl) (fun _ _ => ⟨rfl, rfl⟩) (Int.le_refl _) ht
theorem s2_word {γ : St} {L p : Int} (hL : L ≤ 10240) (hI : WdX True γ) (h : ScG γ L p) (hp : p < L) (hc : ltB (γ 13 p) ≠ 0) : wp (f_Tk_scanWord γ p L) (ScO L p) := by
  have fu := FU_v
  have ⟨⟨a1, a2⟩, a3, ⟨r1, r2⟩, a5, a6, a7⟩ := h
  have a8 := r2 hp hc
  unfold f_Tk_scanWord
  rw [word_eq hL FU p (by omega) (by omega) (by omega)]
  have wb := weF_b (b := γ 13) (L := L) FU p (by omega)
  have w1 := wb.2.2 (by omega) hp hc
  have ws := weF_st (b := γ 13) (L := L) FU p (by omega) (by omega)
  have eE : tkE (γ 13) L p = weF (γ 13) L FU p := by unfold tkE; rw [if_neg (by omega), if_pos hc]
  have eK : tkK (γ 13) L p = if weF (γ 13) L FU p - p ≤ 31 then 1 else 3 := by unfold tkK; rw [if_neg (by omega), if_pos hc]
  generalize weF (γ 13) L FU p = e at *
  have hs : e < L → ltB (γ 13 e) = 0 := fun q => by
    rcases ws with w | w
    · omega
    · by_cases r : ltB (γ 13 e) = 0
      · exact r
      · exact absurd (Or.inl r) w
  unfold f_Tk_scanWord_b48
  refine wp_chk (by omega) (wp_ite (fun q => ?_) (fun q => ?_))
  · rw [if_pos q] at eK
    refine wp_chk (by omega) (wp_bnd (w2_find hI a3.1 (by omega) (by omega)) (fun r γ1 z => ?_))
    have z : WdN γ p (e - p) r γ1 := z
    have z0 : 0 ≤ r := z.2.1.1
    have e5 : γ1 1 5 = γ 1 5 := z.2.2.2.1 1 5 (by omega) (by omega)
    unfold f_Tk_scanWord_b71
    rw [if_pos z0]
    refine wp_ite (fun q2 => ?_) (fun q2 => wp_chk (by omega) ?_)
    · unfold f_Tk_scanWord_b102
      refine wp_bnd (w2_tadd (by omega)) (fun _ γ2 y => ?_)
      cases y
      exact wp_some (ScO.ok w1 (h.wd w1 wb.2.1 hc z eE eK hs (fun q3 => by omega) (fun _ => rfl)))
    · unfold f_Tk_scanWord_b102
      refine wp_bnd (w2_tadd (by omega)) (fun _ γ2 y => ?_)
      cases y
      exact wp_some (ScO.ok w1 (h.wd w1 wb.2.1 hc z eE eK hs (fun _ => rfl) (fun q3 => by omega)))
  · rw [if_neg q] at eK
    unfold f_Tk_scanWord_b71
    rw [if_neg (by omega)]
    unfold f_Tk_addBad
    refine wp_bnd (wp_bnd (w2_tadd (by omega)) (fun _ γ2 y => ?_)) (fun r γ2 y => wp_some y)
    cases y
    exact wp_some (ScO.no hp (h.bad hp (h.one (sto_lt hc) (TkA.one rfl (by omega) (fun q => by omega) (fun _ => by rw [eK]; rfl))) eK))
theorem s2_num {γ : St} {L p : Int} (hL : L ≤ 10240) (h : ScG γ L p) (hp : p < L) (hl : ltB (γ 13 p) = 0) (hc : dgB (γ 13 p) ≠ 0) : wp (f_Tk_scanNumber γ p L) (ScO L p) := by
  have fu := FU_v
  have ⟨⟨a1, a2⟩, a3, ⟨r1, r2⟩, a5, a6, a7⟩ := h
  unfold f_Tk_scanNumber
  rw [num_eq hL FU p 0 (by omega) (by omega) (by omega)]
  have wb := deF_b (b := γ 13) (L := L) FU p (by omega)
  have w1 := wb.2.2 (by omega) hp hc
  have eE : tkE (γ 13) L p = deF (γ 13) L FU p := by unfold tkE; rw [if_neg (by omega), if_neg (fun r => r hl), if_pos hc]
  have eK : tkK (γ 13) L p = if deF (γ 13) L FU p - p ≤ 9 then 2 else 3 := by unfold tkK; rw [if_neg (by omega), if_neg (fun r => r hl), if_pos hc]
  generalize deF (γ 13) L FU p = e at *
  unfold f_Tk_scanNumber_b45
  refine wp_chk (by omega) (wp_ite (fun q => ?_) (fun q => ?_))
  · rw [if_pos q] at eK
    refine wp_bnd (w2_tadd (by omega)) (fun _ γ2 y => ?_)
    cases y
    exact wp_some (ScO.ok w1 (h.fin w1 wb.2.1 (h.one (sto_dg hc) (TkA.one rfl (by omega) (fun _ => ⟨rfl, rfl⟩) (fun q => absurd eK q))) (by omega) eE ⟨by omega, fun _ _ => by omega⟩))
  · rw [if_neg q] at eK
    unfold f_Tk_addBad
    refine wp_bnd (wp_bnd (w2_tadd (by omega)) (fun _ γ2 y => ?_)) (fun r γ2 y => wp_some y)
    cases y
    exact wp_some (ScO.no hp (h.bad hp (h.one (sto_dg hc) (TkA.one rfl (by omega) (fun q => by omega) (fun _ => by rw [eK]; rfl))) eK))
theorem sgC_1 {c d : Int} (h : sgK c d ≠ 3) : sgC (sgK c d) ≠ 1 ∧ sgK c d ≠ 0 ∧ sgK c d ≠ 1 ∧ sgK c d ≠ 2 := by
  unfold sgK sgC at *
  grind (splits := 60)
theorem s2_sign {γ : St} {L p : Int} (hL : L ≤ 10240) (h : ScG γ L p) (hp : p < L) (hl : ltB (γ 13 p) = 0) (hd : dgB (γ 13 p) = 0) (st : Sto (γ 13) L p) : wp (f_Tk_scanSign γ (γ 13 p) (bA (γ 13) L (p + 1)) p L) (ScO L p) := by
  have ⟨⟨a1, a2⟩, a3, ⟨r1, r2⟩, a5, a6, a7⟩ := h
  have eE : tkE (γ 13) L p = if sgK (γ 13 p) (bA (γ 13) L (p + 1)) ≤ 299 then p + 1 else p + 2 := by unfold tkE; rw [if_neg (by omega), if_neg (fun r => r hl), if_neg (fun r => r hd)]
  have eK : tkK (γ 13) L p = sgK (γ 13 p) (bA (γ 13) L (p + 1)) := by unfold tkK; rw [if_neg (by omega), if_neg (fun r => r hl), if_neg (fun r => r hd)]
  have tb := tkE_b (b := γ 13) (L := L) (s := p) (by omega)
  have bb := a3.2.2.2.2 p a1.1 hp
  have c1 := sgC_1 (c := γ 13 p) (d := bA (γ 13) L (p + 1))
  have o1 := one_eq γ (γ 13 p) (bA (γ 13) L (p + 1))
  unfold f_Tk_scanSign
  rw [bndN_eq (two_eq γ _ _)]
  generalize sgK (γ 13 p) (bA (γ 13) L (p + 1)) = k at *
  have bad : k = 3 → wp (bndN (f_Tk_addBad γ p L) fun r8 γ9 => some (r8, γ9)) (ScO L p) := fun e3 => by
    unfold f_Tk_addBad
    refine wp_bnd (wp_bnd (w2_tadd (by omega)) (fun _ γ2 y => ?_)) (fun r γ2 y => wp_some y)
    cases y
    exact wp_some (ScO.no hp (h.bad hp (h.one st (TkA.one rfl (by omega) (fun q => by omega) (fun _ => by rw [eK, e3]; rfl))) (by omega)))
  by_cases q : k ≤ 299
  · rw [if_neg (show ¬ 299 < k by omega), if_pos rfl, bndN_eq (o1 q)]
    rw [if_pos q] at eE
    by_cases e3 : k = 3
    · rw [if_neg (fun r => r (by rw [e3]; rfl))]
      exact bad e3
    · have c2 := c1 e3
      rw [if_pos c2.1]
      refine wp_bnd (w2_tadd (by omega)) (fun _ γ2 y => wp_chk (by omega) ?_)
      cases y
      exact wp_some (ScO.ok (by omega) (h.fin (by omega) (by omega) (h.one st (TkA.one rfl (by omega) (fun q => by omega) (fun _ => by rw [eK]))) (by omega) eE ⟨by omega, fun _ _ => by omega⟩))
  · have c2 := c1 (by omega)
    rw [if_pos (show 299 < k by omega), if_neg c2.1]
    rw [if_neg q] at eE
    refine wp_bnd (w2_tadd (by omega)) (fun _ γ2 y => wp_chk (by omega) ?_)
    cases y
    exact wp_some (ScO.ok (by omega) (h.fin (by omega) (by omega) (h.one st (TkA.one rfl (by omega) (fun q => by omega) (fun _ => by rw [eK]))) (by omega) eE ⟨by omega, fun _ _ => by omega⟩))
theorem ScG.mv {γ : St} {L p e : Int} (h : ScG γ L p) (hp : p < e) (he : e ≤ L) (hs : skP (γ 13) L p = skP (γ 13) L e) : ScG γ L e := by
  have ⟨⟨a1, a2⟩, a3, ⟨r1, r2⟩, a5, a6, a7⟩ := h
  exact ⟨⟨by omega, by omega, by omega⟩, a3, ⟨by omega, fun _ _ => by omega⟩, a5, a6, a7.trans hs⟩
theorem s2_at_b26 {γ : St} {L p : Int} (hL : L ≤ 10240) (hI : WdX True γ) (h : ScG γ L p) (hp : p < L) : wp (f_Tk_scanAt_b26 γ p L (γ 13 p) (bA (γ 13) L (p + 1))) (ScO L p) := by
  have fu := FU_v
  have ⟨⟨a1, a2⟩, a3, ⟨r1, r2⟩, a5, a6, a7⟩ := h
  have ws : (γ 13 p = 32 ∨ γ 13 p = 9 ∨ γ 13 p = 10 ∨ γ 13 p = 13) → wp (chk (i32 (p + 1)) (some (p + 1, γ))) (ScO L p) := fun q => wp_chk (by omega) (wp_some (ScO.ok (by omega) (h.mv (by omega) (by omega) (skP_1 a1.1 hp hL q))))
  unfold f_Tk_scanAt_b26
  refine wp_ite (fun q => ws (by omega)) (fun q1 => wp_ite (fun q => ws (by omega)) (fun q2 => wp_ite (fun q => ws (by omega)) (fun q3 => wp_ite (fun q4 => ?_) (fun q => ws (by omega)))))
  rw [bndN_eq (let_eq γ _)]
  refine wp_ite (fun hl => ?_) (fun hl => ?_)
  · rw [bndN_eq (dig_eq γ _)]
    refine wp_ite (fun hd => ?_) (fun hd => ?_)
    · have sg : ¬ (γ 13 p = 45 ∧ bA (γ 13) L (p + 1) = 45) → wp (f_Tk_scanAt_b104 γ p L (γ 13 p) (bA (γ 13) L (p + 1))) (ScO L p) := fun q => by
        unfold f_Tk_scanAt_b104
        exact wp_bnd (s2_sign hL h hp hl hd (Or.inr ⟨q, by omega⟩)) (fun r γ2 y => wp_some y)
      refine wp_ite (fun q5 => sg (by omega)) (fun q5 => wp_ite (fun q6 => sg (by omega)) (fun q6 => ?_))
      have e := line_eq (γ := γ) hL FU p a1.1 a1.2 (by omega)
      have eb := eolF_b (b := γ 13) (L := L) FU p a1.2
      have e1 := eb.2.2 (by omega) hp q3
      unfold f_Tk_lineEnd
      rw [bndN_eq e]
      exact wp_some (ScO.ok e1 (h.mv e1 eb.2.1 (skP_c a1.1 hp hL ⟨by omega, by omega⟩)))
    · exact wp_bnd (s2_num hL h hp hl hd) (fun r γ2 y => wp_some y)
  · exact wp_bnd (s2_word hL hI h hp hl) (fun r γ2 y => wp_some y)
theorem s2_at {γ : St} {L p : Int} (hL : L ≤ 10240) (hI : WdX True γ) (h : ScG γ L p) (hp : p < L) : wp (f_Tk_scanAt γ p L) (ScO L p) := by
  have a1 := h.1.1
  have k := s2_at_b26 hL hI h hp
  unfold f_Tk_scanAt
  unfold bA at k
  refine wp_chk (by omega) (wp_sub (wp_chk (by omega) (wp_ite (fun q => ?_) (fun q => wp_chk (by omega) (wp_chk (by omega) ?_)))))
  · rw [if_pos q] at k; exact k
  · rw [if_neg q] at k; exact k
theorem ScB.end {γ : St} {L : Int} (h : ScB γ L) : TsE (tnS γ 0 L 0) L := by
  have ⟨a1, a2, a3, a4, a5⟩ := h
  have e13 : tnS γ 0 L 0 13 = γ 13 := funext fun i => tnS_o γ 0 L 0 (by omega) (by omega)
  have o : ∀ (j : Nat) (t : Int), 14 ≤ j → j ≤ 16 → t < γ 1 5 → tnS γ 0 L 0 j t = γ j t := fun j t q1 q2 q3 => tnS_o γ 0 L 0 (by omega) (by omega)
  refine ⟨a1.ad _ _ _, γ 1 5 - 1, by rw [tnS_5]; omega, ?_, a4.fr e13 (fun t q => o 15 t (by omega) (by omega) (by omega)), Or.inr (by rw [e13, o 15 _ (by omega) (by omega) (by omega)]; exact a5)⟩
  intro t q1 q2
  have k := a3 t q1 (by omega)
  have en : nxP (tnS γ 0 L 0) L t = nxP γ L t := by
    unfold nxP
    by_cases q : t = 0
    · rw [if_pos q, if_pos q]
    · rw [if_neg q, if_neg q, e13, o 15 (t - 1) (by omega) (by omega) (by omega)]
  rw [en, e13, o 15 t (by omega) (by omega) (by omega)]
  exact ⟨k.1, k.2.fr e13 (o 14 t (by omega) (by omega) (by omega)) (o 15 t (by omega) (by omega) (by omega)) (o 16 t (by omega) (by omega) (by omega)) (fun w _ => ⟨tnS_o γ 0 L 0 (by omega) (by omega), tnS_o γ 0 L 0 (by omega) (by omega)⟩) (by rw [tnS_o γ 0 L 0 (by omega) (by omega)]; exact Int.le_refl _)⟩
theorem ScG.end {γ : St} {L : Int} (h : ScG γ L L) : TsE (tnS γ 0 L 0) L := by
  have ⟨⟨a1, a2⟩, a3, a4, a5, a6, a7⟩ := h
  have k0 : tkK (γ 13) L L = 0 := by unfold tkK; rw [if_pos (Int.le_refl _)]
  have z := h.one (k := 0) (it := 0) (Or.inl (Int.le_refl _)) (TkA.one rfl (by omega) (fun q => by omega) (fun _ => by rw [k0]; rfl))
  obtain ⟨z1, z2, z3, z4, z5, z6, z7⟩ := z
  exact ⟨z1, γ 1 5, by omega, z2, z3, Or.inl ⟨by rw [z5, z6]; exact k0, by omega⟩⟩
theorem s2_scan_L31 {L : Int} (h0 : 0 ≤ L ∧ L ≤ 10240) : ∀ (n : Nat) (γ : St) (p i : Int), TkI True i γ → (ScG γ L p ∨ p = L ∧ ScB γ L) → 0 ≤ i → i ≤ p → L - i < n → wp (f_Tk_scan_L31 f_Tk_scan_b54 n γ L p i) (fun z => TsE z.2 L) := by
  intro n
  induction n with
  | zero =>
    intro γ p i h k h3 h4 h5
    have : p ≤ L := by
      rcases k with k | k
      · exact k.1.1.2
      · omega
    exfalso; omega
  | succ n ih =>
    intro γ p i h k h3 h4 h5
    have hp : p ≤ L := by
      rcases k with k | k
      · exact k.1.1.2
      · omega
    have h15 := h.2.1
    have hE : L ≤ p → wp (f_Tk_scan_b54 γ L) (fun z => TsE z.2 L) := fun q => by
      have e : p = L := by omega
      subst e
      unfold f_Tk_scan_b54
      refine wp_bnd (w2_tadd (by omega)) (fun r γ2 y => ?_)
      cases y
      refine wp_some ?_
      rcases k with k | k
      · exact k.end
      · exact k.2.end
    unfold f_Tk_scan_L31
    refine wp_ite (fun q => hE (by omega)) (fun c1 => wp_ite (fun q => hE q) (fun c2 => ?_))
    rcases k with k | k
    · have a1 := k.1.1
      refine wp_bnd (wp_and (w_Tk_scanAt h (by omega) (by omega)) (s2_at h0.2 h.1 k (by omega))) (fun r γ' hz => wp_chk ?_ ?_)
      · omega
      · have hs : p < r ∧ (ScG γ' L r ∨ r = L ∧ ScB γ' L) := hz.2
        exact ih γ' r (i + 1) hz.1.1.1 hs.2 (by omega) (by omega) (by omega)
    · exact absurd k.1 (by omega)
