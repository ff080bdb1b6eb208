/-! equality: left sides, many -/
theorem LfR.fr {N : Int} {γ γ' δ δ' : St} (h : LfR N γ δ) (l : LxR N γ' δ') (e : ∀ j k, j ≠ 1 → γ' j k = γ j k) (d : ∀ j k, (j ≠ 0 ∨ k < 5 ∨ 9 < k) → δ' j k = δ j k) : LfR N γ' δ' := by
  have ⟨h1, h2, h3, h4, h5, h6⟩ := h
  have er : ∀ j, j ≠ 1 → γ' j = γ j := fun j q => funext fun k => e j k q
  have dr : ∀ j, j ≠ 0 → δ' j = δ j := fun j q => funext fun k => d j k (by omega)
  have d18 := d 0 18 (by omega)
  have d19 := d 0 19 (by omega)
  have d30 := d 0 30 (by omega)
  have d31 := d 0 31 (by omega)
  have d40 := d 0 40 (by omega)
  refine ⟨by rw [d19]; exact h1.fr l e d, ?_, ?_, ?_, ?_, ?_⟩
  · rw [er 26 (by omega), d18, dr 5 (by omega)]; exact h2
  · rw [er 4 (by omega), d30, d31, d40]; exact h3
  · rw [er 47 (by omega), d31, dr 18 (by omega)]; exact h4
  · rw [er 46 (by omega), er 45 (by omega), d30, d31]; exact h5
  · rw [d31]; exact h6
theorem LfR.pk {N : Int} {γ δ : St} (h : LfR N γ δ) : LfR N γ (pkS δ) := h.fr h.1.1.pk (fun _ _ _ => rfl) (fun j k q => pkS_o δ j k q)
theorem LfR.tk {N : Int} {γ δ : St} (h : LfR N γ δ) (k0 : tK δ ≠ 0) (k3 : tK δ ≠ 3) : LfR N (nxS γ) (tkS δ) := h.fr (h.1.1.tk k0 k3) (fun j k q => nxS_o γ (by omega)) (fun j k q => tkS_o δ j k q)
/-- what left sides leave -/
def LfQ (N : Int) (γ0 δ0 γ δ : St) : Prop := LfR N γ δ ∧ FcL γ0 γ ∧ FgL δ0 δ ∧ (γ0 4 12 ≤ γ 4 12 ∧ δ0 0 31 ≤ δ 0 31) ∧ γ0 1 6 ≤ γ 1 6
theorem LfQ.rf {N : Int} {γ δ : St} (h : LfR N γ δ) : LfQ N γ δ γ δ := ⟨h, fun _ _ _ _ _ _ _ _ => rfl, fun _ _ _ _ _ => rfl, by omega, Int.le_refl _⟩
theorem LfQ.tr {N : Int} {γ0 δ0 γ1 δ1 γ δ : St} (h : LfQ N γ0 δ0 γ1 δ1) (k : LfQ N γ1 δ1 γ δ) : LfQ N γ0 δ0 γ δ := by
  have ⟨a1, a2, a3, a4, a5⟩ := h
  have ⟨b1, b2, b3, b4, b5⟩ := k
  have e10 : γ1 4 10 = γ0 4 10 := a2 4 10 (by omega) (by omega) (by omega) (by omega) (by omega) (by omega)
  exact ⟨b1, fun j k q1 q2 q3 q4 q5 q6 => (b2 j k q1 q2 q3 (fun q => by have := q4 q; omega) (fun q => by have := q5 q; omega) q6).trans (a2 j k q1 q2 q3 q4 q5 q6), fun j k q1 q2 q3 => (b3 j k q1 q2 (fun q => by have := q3 q; omega)).trans (a3 j k q1 q2 q3), by omega, by omega⟩
theorem LfQ.tk {N : Int} {γ δ : St} (h : LfR N γ δ) (k0 : tK δ ≠ 0) (k3 : tK δ ≠ 3) : LfQ N γ δ (nxS γ) (tkS δ) := ⟨h.tk k0 k3, fun j k q _ _ _ _ _ => nxS_o γ (by omega), fun j k q _ _ => tkS_o δ j k (by omega), ⟨by rw [nxS_o γ (by omega)]; exact Int.le_refl _, by rw [tkS_o δ 0 31 (by omega)]; exact Int.le_refl _⟩, by unfold nxS; rw [stA, if_pos ⟨rfl, rfl⟩]; omega⟩
theorem LfQ.pk {N : Int} {γ δ : St} (h : LfR N γ δ) : LfQ N γ δ γ (pkS δ) := ⟨h.pk, fun _ _ _ _ _ _ _ _ => rfl, fun j k q _ _ => pkS_o δ j k (by omega), ⟨Int.le_refl _, by rw [pkS_o δ 0 31 (by omega)]; exact Int.le_refl _⟩, Int.le_refl _⟩
theorem pq_left2 {N : Int} {γ δ : St} (h : LfR N γ δ) : pq (f_Nr_readLeft γ) (lfB δ) (OuR (fun γ' δ' => LfQ N γ δ γ' δ' ∧ γ 1 6 < γ' 1 6)) := by
  refine pq_mono (pq_left h) (fun y z k => k.im (fun γ' δ' q => ?_))
  obtain ⟨q1, q2, q3, q4, q5⟩ := q
  have a := h.2.2.1
  have b := q1.2.2.1
  have m : γ 4 12 ≤ γ' 4 12 ∧ δ 0 31 ≤ δ' 0 31 := by omega
  exact ⟨⟨q1, q2, q3, m, by omega⟩, q4⟩
theorem L120_s {x : St → Option Res} : ∀ (n : Nat) (γ : St), f_M_equation_L120 x n γ = bndT (f_M_equation_L120 x0 n γ) (fun _ γ' => x γ') := by
  intro n
  induction n with
  | zero => intro γ; rfl
  | succ n ih =>
    intro γ
    unfold f_M_equation_L120
    simp only [bT_N, bT_T, bT_C, bT_I, ap, ih]
    rfl
theorem L120_b {x : St → Option Res} (n : Nat) (γ : St) : f_M_equation_L120 x (n + 1) γ = bndN (f_M_peek γ) fun r28 γ29 => if r28 ≠ 44 then x γ29 else bndN (f_M_take γ29) fun _ γ31 => bndT (lfB γ31) fun _ γ38 => f_M_equation_L120 x n γ38 := by
  unfold lfB
  simp only [bT_T, bT_C, ap, bT_x0]
  rfl
theorem ls_no {R : St → St → Prop} {γ δ : St} {e : Int × Int} {i : Int} (hg : OuR R (0, γ) (.inl e, δ)) : ∀ f : Nat, pq (f_Nr_readLefts_L14 f_Nr_readLefts_b59 f γ 0 i) (some (.inl e, δ)) (OuR R)
  | 0 => pq_nl
  | f + 1 => by
    unfold f_Nr_readLefts_L14 f_Nr_readLefts_b59
    rw [if_pos rfl, if_pos rfl]
    exact pq_some hg
/-- many left sides, up to the bracket -/
def lfM (δ : St) : Option Res :=
  bndN (f_M_take δ) fun _ γ56 =>
  bndT (lfB γ56) fun _ γ63 =>
  f_M_equation_L120 (fun γ => f_M_must γ 41) FU γ63
theorem pq_leftsL {N : Int} {γ0 δ0 : St} : ∀ (n f : Nat) (γ δ : St) (i : Int), LfQ N γ0 δ0 γ δ → 0 ≤ i → i ≤ γ 1 6 → pq (f_Nr_readLefts_L14 f_Nr_readLefts_b59 f γ 1 i) (f_M_equation_L120 (fun γ => f_M_must γ 41) n δ) (OuR (LfQ N γ0 δ0)) := by
  intro n
  induction n with
  | zero => intro f γ δ i h h2 h3; exact pq_nr
  | succ n ih =>
    intro f γ δ i h h2 h3
    cases f with
    | zero => exact pq_nl
    | succ f =>
      have l := h.1.1.1.1
      have l3 := l.2.2.1.2.1
      have l4 := l.2.2.2.1
      rw [L120_b]
      unfold f_Nr_readLefts_L14
      rw [if_neg (by decide), if_neg (by omega)]
      refine pq_bl kind_pc (fun r γ1 e => ?_)
      cases e
      refine pq_er (pkM_eq l.1) ?_
      have sg := l.sg (k := 44) (by decide)
      have s8 : sgC 44 = 8 := rfl
      rw [s8] at sg
      refine pq_ir (fun c => ?_) (fun c => ?_)
      · rw [if_pos (fun r => c (sg.1 r))]
        unfold f_Nr_readLefts_b59
        rw [if_neg (by decide)]
        refine pq_01 (α := Int) (pq_mono (pq_expect h.1.1.1.pk (a := 41) (c := 5) rfl (by decide) (by decide) (by decide)) (fun y z k => k.im (fun γ' δ' q => ?_)))
        obtain ⟨q1, q2, q3, q4⟩ := q
        rw [q2, q3, tkS_pk l.1]
        rw [pk_tK l.1] at q4
        exact h.tr (LfQ.tk h.1 (by omega) (by omega))
      · have c : tK δ = 44 := by
          by_cases r : tK δ = 44
          · exact r
          · exact absurd r c
        rw [if_neg (fun r => r (sg.2 c))]
        refine pq_bl (step_pc l (by omega) (by omega)) (fun r γ1 e => ?_)
        cases e
        refine pq_er (tkM_eq l.1.pk) ?_
        rw [tkS_pk l.1]
        have q := LfQ.tk h.1 (by omega) (by omega)
        have q2 := h.tr q
        refine pq_bb (pq_left2 q.1) (fun r γ' e δ' k => ?_) (fun r γ' x δ' k => ?_)
        · have k2 := k.er
          rw [k2.1]
          exact pq_cl (fun _ => ls_no k.hand f)
        · obtain ⟨k3, k4, k5⟩ := k.go
          subst k3
          have q3 := q2.tr k4
          exact pq_cl (fun _ => ih f γ' δ' (i + 1) q3 (by omega) (by have := q.2.2.2.2; omega))
theorem pq_lefts {N : Int} {γ δ : St} (h : LfR N γ δ) (k4 : tK δ = 40) : pq (f_Nr_readLefts γ) (lfM δ) (OuR (LfQ N γ δ)) := by
  have l := h.1.1.1
  have l4 := l.2.2.2.1
  unfold f_Nr_readLefts lfM
  refine pq_bl (step_pc l (by omega) (by omega)) (fun r γ1 e => ?_)
  cases e
  refine pq_er (tkM_eq l.1) ?_
  have q := LfQ.tk h (by omega) (by omega)
  refine pq_bb (pq_left2 q.1) (fun r γ' e δ' k => ?_) (fun r γ' x δ' k => ?_)
  · have k2 := k.er
    rw [k2.1]
    exact ls_no k.hand FU
  · obtain ⟨k3, k4, k5⟩ := k.go
    subst k3
    exact pq_leftsL FU FU γ' δ' 0 (q.tr k4) (by omega) (by have := q.2.2.2.2; omega)
