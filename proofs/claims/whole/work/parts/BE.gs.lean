/-! equality: groups, one behind the other -/
theorem pq_bt0 {c : Option (Int × St)} {m : Option Res} {R : St → St → Prop} (h : pq c m (OuR R)) : pq c (bndT m fun _ γ' => some (.inr 0, γ')) (OuR R) := fun y z e1 e2 => by
  match m, h, e2 with
  | some (.inl e, δ'), h, e2 =>
    have e3 : some (Sum.inl e, δ') = some z := e2
    cases e3
    exact h _ _ e1 rfl
  | some (.inr x, δ'), h, e2 =>
    have e3 : some (Sum.inr 0, δ') = some z := e2
    cases e3
    rcases h _ _ e1 rfl with ⟨a, b, c, d⟩ | ⟨a, b, c⟩
    · cases c
    · exact Or.inr ⟨⟨0, rfl⟩, b, c⟩
theorem pq_group0 {N : Int} {γ δ : St} (h : DcR N (δ 0 19) γ δ) : pq (f_Nr_readGroup γ) (f_M_group δ 0) (OuR (DgQ N γ δ)) := by
  rw [grp_s]
  exact pq_bt0 (pq_group h)
theorem gs_no {R : St → St → Prop} {γ δ : St} {e : Int × Int} {i : Int} (hg : OuR R (0, γ) (.inl e, δ)) : ∀ f : Nat, pq (f_Nr_readGroups_L26 f_Nr_readGroups_b71 f γ 0 i) (some (.inl e, δ)) (OuR R)
  | 0 => pq_nl
  | f + 1 => by
    unfold f_Nr_readGroups_L26 f_Nr_readGroups_b71
    rw [if_pos rfl, if_pos rfl]
    exact pq_some hg
theorem DcQ.tr3 {N : Int} {γ0 δ0 γ1 δ1 γ δ : St} (h : DcQ N (δ1 0 19) γ0 δ0 γ1 δ1) (h0 : γ0 3 15 = δ0 0 19) (k : DgQ N γ1 δ1 γ δ) : DgQ N γ0 δ0 γ δ := ⟨h.tr h0 k.1, by have := h.2.2.2.2; have := k.2; omega⟩
theorem DgQ.tk {N : Int} {γ δ : St} (h : DcR N (δ 0 19) γ δ) (k0 : tK δ ≠ 0) (k3 : tK δ ≠ 3) : DgQ N γ δ (nxS γ) (tkS δ) := by
  refine ⟨?_, ?_⟩
  · rw [tkS_o δ 0 19 (by omega)]; exact DcQ.tk h k0 k3
  · unfold nxS; rw [stA, if_pos ⟨rfl, rfl⟩]; omega
theorem pq_groupsL {N : Int} {γ0 δ0 : St} (h0 : γ0 3 15 = δ0 0 19) : ∀ (n f : Nat) (γ δ : St) (i : Int), DcQ N (δ 0 19) γ0 δ0 γ δ → 0 ≤ i → i ≤ γ 1 6 → pq (f_Nr_readGroups_L26 f_Nr_readGroups_b71 f γ 1 i) (f_M_groups_L11 f_M_groups_b32 n δ) (OuR (DgQ N γ0 δ0)) := by
  intro n
  induction n with
  | zero => intro f γ δ i h h2 h3; exact pq_nr
  | succ n ih =>
    intro f γ δ i h h2 h3
    cases f with
    | zero => exact pq_nl
    | succ f =>
      have l := h.1.1.1
      have l3 := l.2.2.1.2.1
      have l4 := l.2.2.2.1
      unfold f_Nr_readGroups_L26 f_M_groups_L11
      rw [if_neg (by decide), if_neg (by omega)]
      refine pq_bl kind_pc (fun r γ1 e => ?_)
      cases e
      refine pq_er (pkM_eq l.1) ?_
      have sg := l.sg (k := 59) (by decide)
      have s8 : sgC 59 = 7 := rfl
      rw [s8] at sg
      refine pq_ir (fun c => ?_) (fun c => ?_)
      · rw [if_pos (fun r => c (sg.1 r))]
        unfold f_Nr_readGroups_b71 f_M_groups_b32
        rw [if_neg (by decide)]
        refine pq_01 (α := Int) (pq_bt0 (pq_mono (pq_expect h.1.1.pk (a := 41) (c := 5) rfl (by decide) (by decide) (by decide)) (fun y z k => ?_)))
        rcases k with k | ⟨k1, k2, k3, k4, k5, k6⟩
        · exact Or.inl k
        · refine Or.inr ⟨k1, k2, ?_⟩
          rw [k4, k5, tkS_pk l.1]
          rw [pk_tK l.1] at k6
          exact h.tr3 h0 (DgQ.tk h.1 (by omega) (by omega))
      · have c : tK δ = 59 := by
          by_cases r : tK δ = 59
          · exact r
          · exact absurd r c
        rw [if_neg (fun r => r (sg.2 c))]
        refine pq_bl (step_pc l (by omega) (by omega)) (fun r γ1 e => ?_)
        cases e
        refine pq_er (tkM_eq l.1.pk) ?_
        rw [tkS_pk l.1]
        have q := DgQ.tk h.1 (by omega) (by omega)
        have q2 := h.tr3 h0 q
        refine pq_bb (pq_group0 q.1.1) (fun r γ' e δ' k => ?_) (fun r γ' x δ' k => ?_)
        · have k2 := k.er
          rw [k2.1]
          exact pq_cl (fun _ => gs_no k.hand f)
        · obtain ⟨k3, k4⟩ := k.go
          subst k3
          have q3 := q2.1.tr3 h0 k4
          exact pq_cl (fun _ => ih f γ' δ' (i + 1) q3.1 (by omega) (by have := q.2; have := k4.2; omega))
theorem pq_groups {N : Int} {γ δ : St} (h : DcR N (δ 0 19) γ δ) : pq (f_Nr_readGroups γ) (f_M_groups δ) (OuR (DgQ N γ δ)) := by
  have r2 := h.2.2.2.1.2.1
  have l := h.1.1
  have l4 := l.2.2.2.1
  unfold f_Nr_readGroups f_M_groups
  refine pq_bb (pq_expect h.1 (a := 40) (c := 4) rfl (by decide) (by decide) (by decide)) (fun r γ' e δ' k => ?_) (fun r γ' x δ' k => ?_)
  · have k2 := k.er
    rw [if_pos k2.1]
    unfold f_Nr_readGroups_b22 f_Nr_readGroups_b23
    exact gs_no k.hand FU
  · obtain ⟨k3, k4, k5, k6, k7⟩ := k.go
    subst k3
    rw [if_neg (by decide), k5, k6]
    have q := DgQ.tk h (by omega) (by omega)
    refine pq_bb (pq_group0 q.1.1) (fun r γ' e δ' k => ?_) (fun r γ' x δ' k => ?_)
    · have k2 := k.er
      rw [if_pos k2.1]
      unfold f_Nr_readGroups_b22 f_Nr_readGroups_b23
      exact gs_no k.hand FU
    · obtain ⟨k3, k4⟩ := k.go
      subst k3
      rw [if_neg (by decide)]
      unfold f_Nr_readGroups_b23
      have q3 := q.1.tr3 r2 k4
      exact pq_groupsL r2 FU FU γ' δ' 0 q3.1 (by omega) (by have := q3.2; omega)
