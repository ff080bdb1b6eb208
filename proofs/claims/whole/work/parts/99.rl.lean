/-! the class's read: its loop -/
theorem read_L0 {e101 : St → Option (Int × St)} {n : Nat} {γ : St} {x : Int} (hn : 0 < n) : f_S_read_L49 e101 n γ 0 x = e101 γ := by
  cases n with
  | zero => exact absurd hn (by omega)
  | succ n =>
    unfold f_S_read_L49
    rw [if_pos rfl]
theorem w_read_L49 {e101 : St → Option (Int × St)} {Q : Int × St → Prop} {γ0 : St} (hf : ∀ γ, γ 1 7 ≠ 0 → FrX γ0 γ → wp (e101 γ) Q) (hg : ∀ γ, TopI γ → 1 ≤ γ 3 9 → γ 1 7 = 0 → FrX γ0 γ → wp (e101 γ) Q) : ∀ (n : Nat) (γ : St) (x : Int), TopI γ → γ 1 7 = 0 → FrX γ0 γ → 0 ≤ x → x ≤ 60 → x = γ 3 9 → 61 - x < n → wp (f_S_read_L49 e101 n γ 1 x) Q := by
  intro n
  induction n with
  | zero => intro γ x h h7 hF h1 h2 h3 h4; exfalso; omega
  | succ n ih =>
    intro γ x h h7 hF h1 h2 h3 h4
    have t := h.2.1
    unfold f_S_read_L49
    refine wp_ite (fun c => absurd c (by decide)) (fun _ => wp_ite (fun c => by omega) (fun c => ?_))
    have b93 : ∀ γ', wp (e101 γ') Q → wp (f_S_read_b93 (f_S_read_L49 e101 n) e101 γ' x) Q := fun γ' q => by
      unfold f_S_read_b93 f_S_read_b94
      rw [read_L0 (by omega)]
      exact wp_chk (by omega) q
    refine wp_bnd (w_readHead h) (fun r γ1 q => ?_)
    rcases q with q | q
    · exact wp_ite (fun _ => b93 _ (hf γ1 q.2.1 (hF.tr q.2.2))) (fun c => absurd q.1 c)
    · obtain ⟨q0, q1, q2, q3, q4, q5, q6, q7, q8⟩ := q
      have q1 : NI γ1 := q1
      have q4 : γ1 1 7 = γ 1 7 := q4
      have q6 : γ1 3 9 = γ 3 9 := q6
      have q7 : γ1 4 10 = γ 4 10 := q7
      have q8 : γ1 29 (γ 3 9) = γ 4 10 := q8
      refine wp_ite (fun c => absurd (q0.symm.trans c) (by decide)) (fun _ => wp_bnd (w_readBody q1 (by rw [q6, q8, q7])) (fun r2 γ2 p => ?_))
      rcases p with p | p
      · exact wp_ite (fun _ => b93 _ (hf γ2 p.2.1 (hF.tr (q2.tr p.2.2)))) (fun c => absurd p.1 c)
      · obtain ⟨p0, p1, p2, p3, p4⟩ := p
        have p1 : TopI γ2 := p1
        have p3 : γ2 1 7 = γ1 1 7 := p3
        have p4 : γ2 3 9 = γ1 3 9 + 1 := p4
        have pF : FrX γ0 γ2 := hF.tr (q2.tr p2)
        refine wp_ite (fun c => absurd (p0.symm.trans c) (by decide)) (fun _ => wp_bnd (w_Tk_kindNow p1.1) (fun r3 γ3 s => ?_))
        obtain ⟨s, -⟩ := s
        have s : γ3 = γ2 := s
        subst s
        refine wp_ite (fun _ => b93 _ (hg γ3 p1 (by omega) (by omega) pF)) (fun _ => ?_)
        have t2 := p1.2.1
        unfold f_S_read_b94
        exact wp_chk (by omega) (ih γ3 (x + 1) p1 (by omega) pF (by omega) (by omega) (by omega) (by omega))
/-- a text that is good so far: its sizes -/
def LkX (γ : St) (m : Int) : Prop := (0 ≤ m ∧ m < 59) ∧ (∀ n, 0 ≤ n → n ≤ m → NdC γ n ∧ γ 25 n + γ 28 n ≤ 5841) ∧ (γ 31 m ≤ 3000 ∧ γ 32 m ≤ 6000) ∧ (0 ≤ γ 4 4 ∧ γ 4 4 ≤ 10240) ∧ (0 ≤ γ 4 10 ∧ γ 4 10 ≤ 10240) ∧ (0 ≤ γ 4 12 ∧ γ 4 12 ≤ 10240)
theorem TopI.lk {γ : St} (h : TopI γ) (h1 : 1 ≤ γ 3 9) (h31 : γ 31 (γ 3 9 - 1) ≤ 3000) (h32 : γ 32 (γ 3 9 - 1) ≤ 6000) : LkX γ (γ 3 9 - 1) := by
  have ⟨hT, t1, t2, hC, hZ, hw⟩ := h
  have ⟨c1, c2, c3, c4, c5, c6⟩ := hC
  have k1 := hT.1.2.1
  have k2 := hT.2.1
  refine ⟨by omega, fun n q1 q2 => ?_, ⟨h31, h32⟩, by omega, by omega, by omega⟩
  have ⟨w, w2, w3⟩ := hZ n q1 (by omega)
  exact ⟨w, by omega⟩
