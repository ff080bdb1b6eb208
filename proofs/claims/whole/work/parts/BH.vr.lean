/-! equality: var groups -/
theorem pq_groupClock {N a0 x : Int} {γ δ : St} (h : DcR N (δ 0 19) γ δ) (hx : x = δ 4 (δ 0 18) + a0) (hx2 : x ≤ δ 0 19) : pq (f_Nr_readGroupClock γ a0) (f_M_group_b236 δ 1 x) (OuR (CkQ N x γ δ)) := by
  have h1 := h.1
  unfold f_Nr_readGroupClock f_M_group_b236
  rw [if_neg (show ¬ (1 : Int) = 0 by decide)]
  refine pq_bl kind_pc (fun r γ1 e => ?_)
  cases e
  have kw := h1.1.kw (w := 7) (by omega)
  refine pq_yn (w_is h1.1.1 7) (fun q => ?_) (fun q => ?_)
  · have e := kw.2 q
    have k1 : tK δ = 1 := q.1
    rw [if_pos (show γ 14 (γ 1 6) = 27 by omega), if_pos (show (1 : Int) ≠ 0 by decide)]
    show pq (bndN (f_Er_readClock γ a0) (ckK a0)) _ _
    unfold f_Er_readClock f_Er_readClock_b24
    simp only [bN_N, bN_I]
    refine pq_bl (step_pc h1.1 (by omega) (by omega)) (fun r γ1 e => ?_)
    cases e
    refine pq_er (tkM_eq h1.1.1.pk) ?_
    rw [tkS_pk h1.1.1]
    have q1 := CkQ.tk (x := x) h (by omega) (by omega)
    have d1 := q1.1
    refine pq_bl kind_pc (fun r γ1 e => ?_)
    cases e
    have kn := d1.1.1.kw (w := 8) (by omega)
    have t4 : tkS δ 4 (tkS δ 0 18) = δ 4 (δ 0 18) := by rw [tkS_o δ 0 18 (by omega), tkS_o δ 4 _ (by omega)]
    have t19 := tkS_o δ 0 19 (by omega)
    refine pq_yn (w_is d1.1.1.1 8) (fun q2 => ?_) (fun q2 => ?_)
    · have e2 := kn.2 q2
      have k2 : tK (tkS δ) = 1 := q2.1
      rw [if_neg (show ¬ (nxS γ 14 (nxS γ 1 6) ≠ 28) by omega), if_neg (show ¬ ((0 : Int) ≠ 0) by decide), if_neg (show ¬ ((1 : Int) = 0) by decide)]
      refine pq_bl (step_pc d1.1.1 (by omega) (by omega)) (fun r γ1 e => ?_)
      cases e
      refine pq_er (tkM_eq d1.1.1.1.pk) ?_
      rw [tkS_pk d1.1.1.1]
      have q3 := CkQ.tk (x := x) d1 (by omega) (by omega)
      have u4 : tkS (tkS δ) 4 (tkS (tkS δ) 0 18) = δ 4 (δ 0 18) := by rw [tkS_o _ 0 18 (by omega), tkS_o _ 4 _ (by omega)]; exact t4
      have u19 := tkS_o (tkS δ) 0 19 (by omega)
      exact pq_mono (pq_b36 q3.1 rfl (by rw [u4]; exact hx) (by omega)) (fun y z k => by
        rcases k with k | ⟨a, b, c⟩
        · exact Or.inl k
        · exact Or.inr ⟨a, b, (q1.tr q3).tr c⟩)
    · have e2 : nxS γ 14 (nxS γ 1 6) ≠ 28 := fun r => q2 (kn.1 (by omega))
      rw [if_pos e2, if_pos (show (1 : Int) ≠ 0 by decide), if_pos rfl]
      have q3 := CkQ.pk (x := x) d1
      have u4 : pkS (tkS δ) 4 (pkS (tkS δ) 0 18) = δ 4 (δ 0 18) := by rw [pkS_o _ 0 18 (by omega), pkS_o _ 4 _ (by omega)]; exact t4
      have u19 := pkS_o (tkS δ) 0 19 (by omega)
      exact pq_mono (pq_b36 q3.1 rfl (by rw [u4]; exact hx) (by omega)) (fun y z k => by
        rcases k with k | ⟨a, b, c⟩
        · exact Or.inl k
        · exact Or.inr ⟨a, b, (q1.tr q3).tr c⟩)
  · have e : γ 14 (γ 1 6) ≠ 27 := fun r => q (kw.1 (by omega))
    rw [if_neg e, if_neg (show ¬ ((0 : Int) ≠ 0) by decide)]
    exact pq_some (OuR.ok (CkQ.pk h))
theorem DgQ.ck {N : Int} {γ0 δ0 γ1 δ1 γ δ : St} (h : DgQ N γ0 δ0 γ1 δ1) (h0 : γ0 3 15 = δ0 0 19) (k : CkQ N (δ0 0 19) γ1 δ1 γ δ) : DgQ N γ0 δ0 γ δ := by
  have ⟨⟨a1, a2, a3, a4, a5⟩, a6⟩ := h
  have ⟨b1, b2, b3, b4, b5⟩ := k
  have e9 : γ1 3 9 = γ0 3 9 := a2 3 9 (by omega) (by omega) (by omega) (by omega) (by omega) (by omega)
  rw [e9] at b2
  exact ⟨⟨b1, a2.tr b2 (by omega), a3.tr2 b3 (Int.le_refl _), by omega, by omega⟩, by omega⟩
theorem pq_varGroup {N : Int} {γ δ : St} (h : DcR N (δ 0 19) γ δ) : pq (f_Nr_readVarGroup γ) (bndT (f_M_group δ 1) fun _ δ1 => f_M_must δ1 59) (OuR (DgQ N γ δ)) := by
  have ⟨h1, hN, hM, ⟨r1, r2, r3, r4, r5, r6⟩, h5, h6⟩ := h
  rw [grp_s, bT_T]
  unfold f_Nr_readVarGroup
  refine pq_cl (fun _ => pq_al ?_)
  rw [r1, r4]
  refine pq_bb (pq_group h) (fun r γ' e δ' k => ?_) (fun r γ' x δ' k => ?_)
  · have k2 := k.er
    rw [if_pos k2.1]
    exact pq_some k.hand
  · obtain ⟨k3, k4⟩ := k.go
    subst k3
    rw [if_neg (by decide)]
    have e18 : δ' 0 18 = δ 0 18 := k4.1.2.2.1 0 18 (by omega) (by omega)
    have e4 : δ' 4 (δ 0 18) = δ 4 (δ 0 18) := k4.1.2.2.1 4 _ (by omega) (by omega)
    have l := k4.1.2.2.2.1
    refine pq_bb (pq_groupClock k4.1.1 (x := δ 0 19) (by rw [e18, e4]; omega) l) (fun r γ2 e δ2 k => ?_) (fun r γ2 x δ2 k => ?_)
    · have k2 := k.er
      rw [if_pos k2.1]
      exact pq_some k.hand
    · obtain ⟨k3, k5⟩ := k.go
      subst k3
      rw [if_neg (by decide)]
      have q := k4.ck r2 k5
      refine pq_01 (α := Int) (pq_mono (pq_expect q.1.1.1 (a := 59) (c := 7) rfl (by decide) (by decide) (by decide)) (fun y z k => ?_))
      rcases k with k | ⟨a, b, k1, k2, k3, k4⟩
      · exact Or.inl k
      · refine Or.inr ⟨a, b, ?_⟩
        rw [k2, k3]
        exact q.1.tr3 r2 (DgQ.tk q.1.1 (by omega) (by omega))
def x0 (γ : St) : Option Res := some (.inr 0, γ)
theorem L221_s {x242 : St → Option Res} : ∀ (n : Nat) (γ : St), f_M_node_L221 x242 n γ = bndT (f_M_node_L221 x0 n γ) (fun _ γ' => x242 γ') := by
  intro n
  induction n with
  | zero => intro γ; rfl
  | succ n ih =>
    intro γ
    unfold f_M_node_L221
    simp only [bT_N, bT_T, bT_I, ih]
    rfl
/-- the reference's var part -/
def vrs (γ114 : St) : Option Res :=
  bndN (f_M_is γ114 2) fun r115 γ116 =>
  if r115 = 0 then
  (x0 γ116)
  else
  (bndN (f_M_take γ116) fun _ γ118 =>
  bndT (f_M_group γ118 1) fun _ γ120 =>
  bndT (f_M_must γ120 59) fun _ γ122 =>
  f_M_node_L221 x0 FU γ122)
theorem vs_no {R : St → St → Prop} {γ δ : St} {e : Int × Int} {i : Int} (hg : OuR R (0, γ) (.inl e, δ)) : ∀ f : Nat, pq (f_Nr_readVars_L28 f γ 0 i) (some (.inl e, δ)) (OuR R)
  | 0 => pq_nl
  | f + 1 => by
    unfold f_Nr_readVars_L28
    rw [if_pos rfl]
    exact pq_cl (fun _ => pq_some hg)
theorem pq_varsL {N : Int} {γ0 δ0 : St} (h0 : γ0 3 15 = δ0 0 19) : ∀ (n f : Nat) (γ δ : St) (i : Int), DgQ N γ0 δ0 γ δ → 0 ≤ i → i ≤ γ 1 6 → pq (f_Nr_readVars_L28 f γ 1 i) (f_M_node_L221 x0 n δ) (OuR (DgQ N γ0 δ0)) := by
  intro n
  induction n with
  | zero => intro f γ δ i h h2 h3; exact pq_nr
  | succ n ih =>
    intro f γ δ i h h2 h3
    cases f with
    | zero => exact pq_nl
    | succ f =>
      have l := h.1.1.1.1
      have l3 := l.2.2.1.2.1
      have l4 := l.2.2.2.1
      unfold f_Nr_readVars_L28 f_M_node_L221
      rw [if_neg (by decide), if_neg (by omega)]
      refine pq_bl kind_pc (fun r γ1 e => ?_)
      cases e
      have q1 : DgQ N γ0 δ0 γ (pkS δ) := ⟨by rw [pkS_o δ 0 19 (by omega)]; exact h.1.tr h0 (DcQ.pk h.1.1), h.2⟩
      refine pq_yn (w_nameHere l.1) (fun q => ?_) (fun q => ?_)
      · rw [if_neg (fun r => r (l.nm.2 q)), if_neg (by decide)]
        have e1 : (bndT (f_M_group (pkS δ) 1) fun _ γ62 => bndT (f_M_must γ62 59) fun _ γ64 => f_M_node_L221 x0 n γ64) = bndT (bndT (f_M_group (pkS δ) 1) fun _ δ1 => f_M_must δ1 59) (fun _ γ64 => f_M_node_L221 x0 n γ64) := by rw [bT_T]
        rw [e1]
        refine pq_bb (pq_varGroup q1.1.1) (fun r γ' e δ' k => ?_) (fun r γ' x δ' k => ?_)
        · have k2 := k.er
          rw [k2.1]
          exact pq_cl (fun _ => vs_no k.hand f)
        · obtain ⟨k3, k4⟩ := k.go
          subst k3
          have q3 := q1.1.tr3 h0 k4
          exact pq_cl (fun _ => ih f γ' δ' (i + 1) q3 (by omega) (by have := k4.2; omega))
      · rw [if_pos (fun r => q (l.nm.1 r)), if_pos rfl]
        exact pq_cl (fun _ => pq_some (OuR.ok q1))
/-- what declarations leave -/
def DrQ (N : Int) (γ0 δ0 γ δ : St) : Prop := DcQ N (δ 0 19) γ0 δ0 γ δ
theorem pq_vars {N : Int} {γ δ : St} (h : DcR N (δ 0 19) γ δ) : pq (f_Nr_readVars γ) (vrs δ) (OuR (DrQ N γ δ)) := by
  have r2 := h.2.2.2.1.2.1
  have l := h.1.1
  unfold f_Nr_readVars vrs
  refine pq_bl kind_pc (fun r γ1 e => ?_)
  cases e
  have kw := l.kw (w := 2) (by omega)
  refine pq_yn (w_is l.1 2) (fun q => ?_) (fun q => ?_)
  · have e := kw.2 q
    have k1 : tK δ = 1 := q.1
    rw [if_pos (show γ 14 (γ 1 6) = 22 by omega), if_neg (by decide)]
    refine pq_bl (step_pc l (by omega) (by omega)) (fun r γ1 e => ?_)
    cases e
    refine pq_er (tkM_eq l.1.pk) ?_
    rw [tkS_pk l.1]
    have q1 := DgQ.tk h (by omega) (by omega)
    have e1 : (bndT (f_M_group (tkS δ) 1) fun _ γ62 => bndT (f_M_must γ62 59) fun _ γ64 => f_M_node_L221 x0 FU γ64) = bndT (bndT (f_M_group (tkS δ) 1) fun _ δ1 => f_M_must δ1 59) (fun _ γ64 => f_M_node_L221 x0 FU γ64) := by rw [bT_T]
    rw [e1]
    refine pq_bb (pq_varGroup q1.1.1) (fun r γ' e δ' k => ?_) (fun r γ' x δ' k => ?_)
    · have k2 := k.er
      rw [k2.1]
      exact vs_no k.hand FU
    · obtain ⟨k3, k4⟩ := k.go
      subst k3
      have q3 := q1.1.tr3 r2 k4
      have l4 := q3.1.1.1.1.2.2.2.1
      exact pq_mono (pq_varsL r2 FU FU γ' δ' 0 q3 (by omega) (by omega)) (fun y z k => by
        rcases k with k | ⟨a, b, c⟩
        · exact Or.inl k
        · exact Or.inr ⟨a, b, c.1⟩)
  · have e : γ 14 (γ 1 6) ≠ 22 := fun r => q (kw.1 (by omega))
    rw [if_neg e, if_pos rfl]
    refine pq_some (OuR.ok ?_)
    show DcQ N (pkS δ 0 19) γ δ γ (pkS δ)
    rw [pkS_o δ 0 19 (by omega)]
    exact DcQ.pk h
