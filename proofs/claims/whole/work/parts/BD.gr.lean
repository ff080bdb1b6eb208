/-! equality: groups -/
def tyS (γ : St) (i v : Int) : St := fun j k => if j = 33 ∧ i ≤ k ∧ k < γ 3 15 then v else γ j k
def tyD (δ : St) (i v : Int) : St := fun j k => if j = 14 ∧ i ≤ k ∧ k < δ 0 19 then v else δ j k
theorem tyS_o (γ : St) (i v : Int) {j : Nat} {k : Int} (h : j ≠ 33) : tyS γ i v j k = γ j k := by
  show (if _ then _ else _) = _
  rw [if_neg (by omega)]
theorem tyD_o (δ : St) (i v : Int) {j : Nat} {k : Int} (h : j ≠ 14) : tyD δ i v j k = δ j k := by
  show (if _ then _ else _) = _
  rw [if_neg (by omega)]
theorem pq_tyC {α : Type} {m : Option α} {Q : Int × St → α → Prop} {e : St → Option (Int × St)} {kd v : Int} (hv : v = if kd ≠ 26 then 0 else 1) : ∀ (n : Nat) (γ : St) (i : Int), pq (e (tyS γ i v)) m Q → pq (f_Nr_readType_L31 e n γ kd i) m Q := by
  intro n
  induction n with
  | zero => intro γ i _; exact pq_nl
  | succ n ih =>
    intro γ i h
    unfold f_Nr_readType_L31
    refine pq_il (fun q => ?_) (fun q => ?_)
    · have e1 : tyS γ i v = γ := by
        funext j k
        show (if _ then _ else _) = _
        rw [if_neg (by omega)]
      rw [e1] at h
      exact h
    · have e2 : tyS (setA γ 33 i v) (i + 1) v = tyS γ i v := by
        funext j k
        show (if j = 33 ∧ i + 1 ≤ k ∧ k < setA γ 33 i v 3 15 then v else setA γ 33 i v j k) = if j = 33 ∧ i ≤ k ∧ k < γ 3 15 then v else γ j k
        rw [show setA γ 33 i v 3 15 = γ 3 15 by rw [stA, if_neg (by omega)], stA]
        by_cases c : j = 33 ∧ i ≤ k ∧ k < γ 3 15
        · rw [if_pos c]
          by_cases c2 : j = 33 ∧ k = i
          · rw [if_neg (by omega), if_pos c2]
          · rw [if_pos (by omega)]
        · rw [if_neg c, if_neg (by omega), if_neg (by omega)]
      rw [← e2] at h
      have k := ih _ _ h
      unfold f_Nr_readType_b61
      by_cases c : kd ≠ 26
      · rw [if_pos c] at hv ⊢
        subst hv
        exact pq_cl (fun _ => pq_al (pq_cl (fun _ => k)))
      · rw [if_neg c] at hv ⊢
        subst hv
        exact pq_cl (fun _ => pq_al (pq_cl (fun _ => k)))
theorem pq_tyD {α : Type} {o : Option α} {Q : α → Res → Prop} {e : St → Int → Int → Option Res} {a x v : Int} : ∀ (n : Nat) (δ : St) (i : Int), pq o (e (tyD δ i v) a x) Q → pq o (f_M_group_L212 e n δ a x v i) Q := by
  intro n
  induction n with
  | zero => intro γ i _; exact pq_nr
  | succ n ih =>
    intro γ i h
    unfold f_M_group_L212
    refine pq_ir (fun q => ?_) (fun q => ?_)
    · have e1 : tyD γ i v = γ := by
        funext j k
        show (if _ then _ else _) = _
        rw [if_neg (by omega)]
      rw [e1] at h
      exact h
    · have e2 : tyD (setA γ 14 i v) (i + 1) v = tyD γ i v := by
        funext j k
        show (if j = 14 ∧ i + 1 ≤ k ∧ k < setA γ 14 i v 0 19 then v else setA γ 14 i v j k) = if j = 14 ∧ i ≤ k ∧ k < γ 0 19 then v else γ j k
        rw [show setA γ 14 i v 0 19 = γ 0 19 by rw [stA, if_neg (by omega)], stA]
        by_cases c : j = 14 ∧ i ≤ k ∧ k < γ 0 19
        · rw [if_pos c]
          by_cases c2 : j = 14 ∧ k = i
          · rw [if_neg (by omega), if_pos c2]
          · rw [if_pos (by omega)]
        · rw [if_neg c, if_neg (by omega), if_neg (by omega)]
      rw [← e2] at h
      exact pq_cr (fun _ => pq_cr (fun _ => pq_ar (pq_cr (fun _ => ih _ _ h))))
theorem DcR.ty {N t v : Int} {γ δ : St} (h : DcR N t γ δ) (hv : v = 0 ∨ v = 1) : DcR N (δ 0 19) (tyS γ t v) (tyD δ t v) := by
  have ⟨h1, h2, h3, h4, h5, h6⟩ := h
  have er : ∀ j, j ≠ 33 → tyS γ t v j = γ j := fun j q => funext fun k => tyS_o γ t v q
  have dr : ∀ j, j ≠ 14 → tyD δ t v j = δ j := fun j q => funext fun k => tyD_o δ t v q
  refine ⟨h1.fr (fun j k q => tyS_o γ t v (by omega)) (fun k _ _ => tyS_o γ t v (by omega)) (tyS_o γ t v (by omega)) (dr 1 (by omega)) (fun k _ => tyD_o δ t v (by omega)), ?_, ?_, ?_, ?_, ?_⟩
  · unfold NmR spW at h2 ⊢
    rw [er 13 (by omega), er 18 (by omega), er 19 (by omega), er 22 (by omega), er 21 (by omega), er 2 (by omega), dr 4 (by omega), dr 10 (by omega), dr 11 (by omega), dr 0 (by omega)]
    exact h2
  · unfold NnR spW at h3 ⊢
    rw [er 13 (by omega), er 18 (by omega), er 19 (by omega), er 23 (by omega), er 2 (by omega), dr 2 (by omega), dr 3 (by omega), dr 0 (by omega)]
    exact h3
  · unfold VrR at h4 ⊢
    rw [er 3 (by omega), er 25 (by omega), er 28 (by omega), dr 4 (by omega), dr 0 (by omega)]
    exact h4
  · unfold VdR
    rw [er 34 (by omega), er 36 (by omega), dr 12 (by omega), dr 13 (by omega), dr 0 (by omega)]
    intro u q1 q2
    have b := h5 u q1 q2
    refine ⟨b.1, b.2.1, fun _ => ?_⟩
    have r2 := h4.2.1
    show (if 33 = 33 ∧ t ≤ u ∧ u < γ 3 15 then v else γ 33 u) = (if 14 = 14 ∧ t ≤ u ∧ u < δ 0 19 then v else δ 14 u) ∧ ((if 14 = 14 ∧ t ≤ u ∧ u < δ 0 19 then v else δ 14 u) = 0 ∨ (if 14 = 14 ∧ t ≤ u ∧ u < δ 0 19 then v else δ 14 u) = 1)
    by_cases c : t ≤ u
    · rw [if_pos ⟨rfl, c, by omega⟩, if_pos ⟨rfl, c, q2⟩]
      exact ⟨rfl, hv⟩
    · rw [if_neg (by omega), if_neg (by omega)]
      exact b.2.2 (by omega)
  · unfold DpR at h6 ⊢
    rw [er 35 (by omega), dr 12 (by omega), dr 4 (by omega), dr 0 (by omega)]
    exact h6
/-- the type behind the colon -/
def gty (γ71 : St) (x69 : Int) : Option Res :=
  bndN (f_M_is γ71 6) fun r72 γ73 =>
  if r72 ≠ 0 then
  (g205 γ73 x69 r72)
  else
  (bndN (f_M_is γ73 5) fun r74 γ75 =>
  if r74 ≠ 0 then
  (g205 γ75 x69 r72)
  else
  (bndN (f_M_cant γ75) fun p76 γ77 => some (.inl (1, p76), γ77)))
theorem pq_ty1 {N t v kd : Int} {γ δ : St} (h : DcR N t γ δ) (k0 : tK δ = 1) (hv : v = if kd ≠ 26 then 0 else 1) : pq (f_Nr_readType_b29 γ t kd) (g205 (pkS δ) t v) (OuR (fun γ' δ' => γ' = nxS (tyS γ t v) ∧ δ' = tyD (tkS δ) t v ∧ DcR N (δ 0 19) γ' δ')) := by
  have ⟨h1, h2, h3, h4, h5, h6⟩ := h
  unfold f_Nr_readType_b29 g205
  refine pq_er (tkM_eq h1.1.1.pk) ?_
  rw [tkS_pk h1.1.1]
  refine pq_tyC hv FU γ t (pq_tyD FU (tkS δ) t ?_)
  unfold f_Nr_readType_b68 g236
  have l : LxR N (tyS γ t v) δ := h1.fr (fun j k q => tyS_o γ t v (by omega)) (fun k _ _ => tyS_o γ t v (by omega)) (tyS_o γ t v (by omega)) rfl (fun _ _ => rfl)
  refine pq_bl (step_pc l.1 (by omega) (by omega)) (fun r γ1 e => ?_)
  cases e
  have hv2 : v = 0 ∨ v = 1 := by
    rw [hv]
    by_cases c : kd ≠ 26
    · rw [if_pos c]; exact Or.inl rfl
    · rw [if_neg c]; exact Or.inr rfl
  have hd := (h.tk (by omega) (by omega)).ty hv2
  have e1 : tyS (nxS γ) t v = nxS (tyS γ t v) := by
    funext j k
    show (if j = 33 ∧ t ≤ k ∧ k < nxS γ 3 15 then v else nxS γ j k) = setA (tyS γ t v) 1 6 (tyS γ t v 1 6 + 1) j k
    rw [nxS_o γ (by omega), stA]
    by_cases c : j = 1 ∧ k = 6
    · rw [if_pos c, if_neg (by omega), c.1, c.2, tyS_o γ t v (by omega)]
      unfold nxS; rw [stA, if_pos ⟨rfl, rfl⟩]
    · rw [if_neg c, nxS_o γ (by omega)]; rfl
  rw [e1, tkS_o δ 0 19 (by omega)] at hd
  exact pq_some (OuR.ok ⟨rfl, rfl, hd⟩)
theorem pq_type {N t : Int} {γ δ : St} (h : DcR N t γ δ) : pq (f_Nr_readType γ t) (gty δ t) (OuR (fun γ' δ' => ∃ v, γ' = nxS (tyS γ t v) ∧ δ' = tyD (tkS δ) t v ∧ DcR N (δ 0 19) γ' δ')) := by
  have h1 := h.1
  unfold f_Nr_readType gty
  refine pq_bl kind_pc (fun r γ1 e => ?_)
  cases e
  have kb := h1.1.kw (w := 6) (by omega)
  have ki := h1.1.kw (w := 5) (by omega)
  refine pq_yn (w_is h1.1.1 6) (fun q => ?_) (fun q => ?_)
  · have e := kb.2 q
    have e26 : γ 14 (γ 1 6) = 26 := by omega
    rw [if_neg (by omega), if_pos e26, if_pos (by decide), e26]
    exact pq_mono (pq_ty1 h q.1 rfl) (fun y z k => by
      rcases k with k | ⟨k1, k2, k3⟩
      · exact Or.inl k
      · exact Or.inr ⟨k1, k2, 1, k3⟩)
  · have e26 : γ 14 (γ 1 6) ≠ 26 := fun r => q (kb.1 (by omega))
    rw [if_neg (show ¬ ((0 : Int) ≠ 0) by decide)]
    refine pq_yn (w_is h1.1.1.pk 5) (fun q2 => ?_) (fun q2 => ?_)
    · have q3 := (pk_kw h1.1.1 5).1 q2
      have e := ki.2 q3
      have e25 : γ 14 (γ 1 6) = 25 := by omega
      rw [if_pos e25, if_pos (by decide), e25, pkS_pk h1.1.1]
      exact pq_mono (pq_ty1 h q3.1 rfl) (fun y z k => by
        rcases k with k | ⟨k1, k2, k3⟩
        · exact Or.inl k
        · exact Or.inr ⟨k1, k2, 0, k3⟩)
    · have e25 : γ 14 (γ 1 6) ≠ 25 := fun r => q2 ((pk_kw h1.1.1 5).2 (ki.1 (by omega)))
      rw [if_neg e25, if_neg e26, if_neg (show ¬ ((0 : Int) ≠ 0) by decide), pkS_pk h1.1.1]
      exact pq_cant h1.pk
theorem pq_01 {α : Type} {c : Option (Int × St)} {m : Option Res} {R : St → St → Prop} (h : pq c m (OuR R)) : pq (bndN c fun r γ => if r = 0 then some (0, γ) else some (1, γ)) m (OuR R) := fun y z e1 e2 => by
  match c, h, e1 with
  | some (r, γ'), h, e1 =>
    have k := h _ _ rfl e2
    by_cases q : r = 0
    · have e3 : (if r = 0 then some ((0 : Int), γ') else some (1, γ')) = some y := e1
      rw [if_pos q] at e3
      cases e3
      rw [q] at k
      exact k
    · have e3 : (if r = 0 then some ((0 : Int), γ') else some (1, γ')) = some y := e1
      rw [if_neg q] at e3
      cases e3
      rcases k with ⟨a, b, c, d, f⟩ | ⟨a, b, c⟩
      · exact absurd d q
      · exact Or.inr ⟨a, rfl, c⟩
theorem pq_bchk {α β : Type} {c : Option (Int × St)} {K : Int → St → Option α} {m : Option β} {Q : α → β → Prop} {P : Int → St → Prop} {inst : ∀ r γ, Decidable (P r γ)} (h : pq (bndN c K) m Q) : pq (bndN c fun r γ => @chk (P r γ) α (inst r γ) (K r γ)) m Q := fun y z e1 e2 => by
  match c, h, e1 with
  | some (r, γ'), h, e1 => exact h y z (chk_e e1).2 e2
theorem FcD.ty {v0 g i v : Int} {γ : St} (h : v0 ≤ i) : FcD v0 g γ (tyS γ i v) := fun j k _ _ _ _ q _ => by
  show (if _ then _ else _) = _
  rw [if_neg (by omega)]
theorem Fg.ty {v0 i v : Int} {γ : St} (h : v0 ≤ i) : Fg v0 γ (tyD γ i v) := fun j k _ q => by
  show (if _ then _ else _) = _
  rw [if_neg (by omega)]
/-- what a group leaves -/
def DgQ (N : Int) (γ0 δ0 γ δ : St) : Prop := DcQ N (δ 0 19) γ0 δ0 γ δ ∧ γ0 1 6 < γ 1 6
/-- behind the names: the colon, the type -/
theorem pq_tail {N t : Int} {γ0 δ0 γ δ : St} (h : DcQ N t γ0 δ0 γ δ) (h0 : γ0 3 15 = δ0 0 19) (ht : δ0 0 19 ≤ t) (hm : γ0 1 6 < γ 1 6) : pq (f_Nr_readGroup_b60 γ t 1) (g170 δ 0 t) (OuR (DgQ N γ0 δ0)) := by
  have h1 := h.1.1
  unfold f_Nr_readGroup_b60
  rw [if_neg (by decide)]
  show pq _ (bndT (f_M_must δ 58) fun _ γ71 => gty γ71 t) _
  refine pq_bb (pq_expect h1 (a := 58) (c := 6) rfl (by decide) (by decide) (by decide)) (fun r γ' e δ' k => ?_) (fun r γ' x δ' k => ?_)
  · have k2 := k.er
    rw [if_pos k2.1]
    exact pq_some k.hand
  · have k2 := k.go
    obtain ⟨k3, k4, k5, k6, tk⟩ := k2
    subst k3
    rw [if_neg (by decide)]
    subst k5
    subst k6
    have hd := h.1.tk (by omega) (by omega)
    refine pq_01 (α := Int) (pq_mono (pq_type hd) (fun y z k => ?_))
    rcases k with k | ⟨k1, k2, v, k3, k7, k8⟩
    · exact Or.inl k
    · refine Or.inr ⟨k1, k2, ?_⟩
      have q := h.tr h0 (DcQ.tk h.1 (by omega) (by omega))
      rw [k3, k7] at k8 ⊢
      have e19 : tyD (tkS (tkS δ)) t v 0 19 = tkS δ 0 19 := (tyD_o _ t v (by omega)).trans (tkS_o _ 0 19 (by omega))
      have e6 : nxS (tyS (nxS γ) t v) 1 6 = nxS γ 1 6 + 1 := by
        show setA (tyS (nxS γ) t v) 1 6 (tyS (nxS γ) t v 1 6 + 1) 1 6 = _
        rw [stA, if_pos ⟨rfl, rfl⟩, tyS_o _ t v (by omega)]
      have e7 : nxS γ 1 6 = γ 1 6 + 1 := by unfold nxS; rw [stA, if_pos ⟨rfl, rfl⟩]
      refine ⟨⟨by rw [e19]; exact k8, (q.2.1.tr (FcD.ty (by omega)) (Int.le_refl _)).tr FcD.nx (Int.le_refl _), (q.2.2.1.tr2 Fg.tk (Int.le_refl _)).tr2 (Fg.ty ht) (Int.le_refl _), by rw [e19]; exact q.2.2.2.1, by omega⟩, by omega⟩
theorem pq_groupL {N t : Int} {γ0 δ0 : St} (h0 : γ0 3 15 = δ0 0 19) (ht : δ0 0 19 = t) : ∀ (n f : Nat) (γ δ : St) (i : Int), DcQ N t γ0 δ0 γ δ → 0 ≤ i → i ≤ γ 1 6 → pq (bndN (f_Nr_readNewName γ) fun r γ' => f_Nr_readGroup_L15 f_Nr_readGroup_b60 f γ' t r i) (f_M_group_L7 f_M_group_b18 f_M_group_b34 f_M_group_b66 g170 n δ 0 t 1) (OuR (DgQ N γ0 δ0)) := by
  intro n
  induction n with
  | zero => intro f γ δ i h h2 h3; exact pq_nr
  | succ n ih =>
    intro f γ δ i h h2 h3
    rw [gL7_b]
    have hl := h.2.2.2.1
    refine pq_bb (pq_nm h.1 (by omega)) (fun r γ' e δ' k => ?_) (fun r γ' x δ' k => ?_)
    · have k2 := k.er
      rw [k2.1]
      cases f with
      | zero => exact pq_nl
      | succ f =>
        unfold f_Nr_readGroup_L15 f_Nr_readGroup_b60
        rw [if_pos rfl, if_pos rfl]
        exact pq_some k.hand
    · obtain ⟨k3, k4, k5⟩ := k.go
      subst k3
      have q := h.tr h0 k4
      cases f with
      | zero => exact pq_nl
      | succ f =>
        have l := q.1.1.1
        have l3 := l.2.2.1.2.1
        have l4 := l.2.2.2.1
        have h5 := h.2.2.2.2
        unfold f_Nr_readGroup_L15
        rw [if_neg (by decide), if_neg (by omega)]
        refine pq_bl kind_pc (fun r γ1 e => ?_)
        cases e
        refine pq_er (pkM_eq l.1) ?_
        have sg := l.sg (k := 44) (by decide)
        have s8 : sgC 44 = 8 := rfl
        rw [s8] at sg
        refine pq_ir (fun c => ?_) (fun c => ?_)
        · rw [if_pos (fun r => c (sg.1 r))]
          cases n with
          | zero => exact pq_nr
          | succ n =>
            unfold f_M_group_L7
            rw [if_pos rfl]
            have q2 := q.tr h0 (DcQ.pk q.1)
            exact pq_tail q2 h0 (by omega) (by omega)
        · have c : tK δ' = 44 := by
            by_cases r : tK δ' = 44
            · exact r
            · exact absurd r c
          rw [if_neg (fun r => r (sg.2 c))]
          refine pq_bl (step_pc l (by omega) (by omega)) (fun r γ1 e => ?_)
          cases e
          refine pq_er (tkM_eq l.1.pk) ?_
          rw [tkS_pk l.1]
          have q2 := q.tr h0 (DcQ.tk q.1 (by omega) (by omega))
          have e7 : nxS γ' 1 6 = γ' 1 6 + 1 := by unfold nxS; rw [stA, if_pos ⟨rfl, rfl⟩]
          exact pq_bchk (ih f (nxS γ') (tkS δ') (i + 1) q2 (by omega) (by omega))
theorem pq_group {N : Int} {γ δ : St} (h : DcR N (δ 0 19) γ δ) : pq (f_Nr_readGroup γ) (grp0 δ) (OuR (DgQ N γ δ)) := by
  have r2 := h.2.2.2.1.2.1
  have l := h.1.1.2.2.2.1
  unfold f_Nr_readGroup grp0
  refine pq_al ?_
  rw [r2]
  exact pq_groupL r2 rfl FU FU γ δ 0 (DcQ.rf h) (by omega) (by omega)
