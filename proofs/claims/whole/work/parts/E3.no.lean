/-! equality: a node -/
theorem b30_e (γ : St) : f_Nr_readBody_b30 γ = some (0, γ) := by
  unfold f_Nr_readBody_b30 f_Nr_readBody_b31
  show f_Nr_readBody_L34 f_Nr_readBody_b72 (999999 + 1) γ 0 0 = _
  rw [f_Nr_readBody_L34, if_pos rfl]
  unfold f_Nr_readBody_b72
  rw [if_pos rfl]
def bdC (γ20 : St) : Option (Int × St) := bndN (f_Tk_expect γ20 23) fun r22 γ23 => if r22 = 0 then some (0, γ23) else bndN (f_Nr_readEquation γ23) fun r24 γ25 => if r24 = 0 then some (0, γ25) else bndN (f_Nr_readBody_L34 ex1 FU γ25 1 0) fun r γ' => f_Nr_readBody_b72 γ' r
theorem readBody_s (γ : St) : f_Nr_readBody γ = bndN (f_Nr_readVars γ) fun r19 γ20 => if r19 = 0 then some (0, γ20) else bdC γ20 := by
  have b31 : ∀ γ', f_Nr_readBody_b31 γ' 1 = bndN (f_Nr_readBody_L34 ex1 FU γ' 1 0) fun r γ' => f_Nr_readBody_b72 γ' r := fun γ' => L34_s FU γ' 1 0
  unfold f_Nr_readBody bdC
  simp only [b30_e, b31]
def hvC (γ : St) : Option (Int × St) := bndN (f_Nr_readHead γ) fun r γ1 => if r = 0 then some (0, γ1) else f_Nr_readVars γ1
def rdN (γ : St) : Option (Int × St) := bndN (f_Nr_readHead γ) fun r γ' => if r = 0 then some (0, γ') else f_Nr_readBody γ'
theorem rdN_s (γ : St) : rdN γ = bndN (hvC γ) fun r γ' => if r = 0 then some (0, γ') else bdC γ' := by
  unfold rdN hvC
  rw [bN_N]
  congr 1
  funext r γ'
  by_cases q : r = 0
  · rw [if_pos q, if_pos q, bN_s, if_pos rfl]
  · rw [if_neg q, if_neg q, readBody_s]
theorem pq_hv {N : Int} {γ δ : St} (h : PgR N γ δ) : pq (hvC γ) (bndT (ndF δ) fun _ δ1 => vrs δ1) (OuR (HiR 2 N γ δ)) := by
  unfold hvC
  refine pq_bb (pq_head h) (fun r γ' e δ' hh => ?_) (fun r γ' x δ' hh => ?_)
  · rw [if_pos hh.er.1]
    exact pq_some hh.hand
  · obtain ⟨e1, e2⟩ := hh.go
    rw [if_neg (by rw [e1]; decide)]
    exact pq_mono (pq_vars e2.1.1) (fun y z k => k.im (fun γ2 δ2 d => e2.dg d))
theorem DcR.x4 {N : Int} {γ γ' δ δ' : St} (h : DcR N (δ 0 19) γ δ) (l : LxR N γ' δ') (e : ∀ (j : Nat) (k : Int), 2 ≤ j ∧ j ≤ 3 ∨ 13 ≤ j ∧ j ≤ 37 → γ' j k = γ j k) (d : ∀ (j : Nat) (k : Int), j = 0 ∧ (k = 1 ∨ k = 18 ∨ k = 19) ∨ 1 ≤ j ∧ j ≤ 3 ∨ 10 ≤ j ∧ j ≤ 14 → δ' j k = δ j k) (d4 : δ' 4 (δ 0 18) = δ 4 (δ 0 18)) : DcR N (δ' 0 19) γ' δ' := by
  have ⟨h1, h2, h3, h4, h5, h6⟩ := h
  have er : ∀ j : Nat, 2 ≤ j ∧ j ≤ 3 ∨ 13 ≤ j ∧ j ≤ 37 → γ' j = γ j := fun j q => funext fun k => e j k q
  have dr : ∀ j : Nat, 1 ≤ j ∧ j ≤ 3 ∨ 10 ≤ j ∧ j ≤ 14 → δ' j = δ j := fun j q => funext fun k => d j k (by omega)
  have d18 := d 0 18 (by omega)
  have d19 := d 0 19 (by omega)
  have d1 := d 0 1 (by omega)
  refine ⟨l, ?_, ?_, ?_, ?_, ?_⟩
  · unfold NmR spW at h2 ⊢
    rw [er 13 (by omega), er 18 (by omega), er 19 (by omega), er 22 (by omega), er 21 (by omega), er 2 (by omega), dr 10 (by omega), dr 11 (by omega), d18, d19, d1, d4]
    exact h2
  · unfold NnR spW at h3 ⊢
    rw [er 13 (by omega), er 18 (by omega), er 19 (by omega), er 23 (by omega), er 2 (by omega), dr 2 (by omega), dr 3 (by omega), d18, d1]
    exact h3
  · unfold VrR at h4 ⊢
    rw [er 3 (by omega), er 25 (by omega), er 28 (by omega), d18, d19, d4]
    exact h4
  · unfold VdR at h5 ⊢
    rw [er 34 (by omega), er 36 (by omega), er 33 (by omega), dr 12 (by omega), dr 13 (by omega), dr 14 (by omega), d19]
    exact h5
  · unfold DpR at h6 ⊢
    rw [er 35 (by omega), dr 12 (by omega), d18, d19, d4]
    exact h6
/-- let -/
theorem pq_let {N : Int} {γ δ : St} (h : LxR N γ δ) : pq (f_Tk_expect γ 23) (b242x δ) (OuR (fun γ' δ' => γ' = nxS γ ∧ LxR N γ' δ' ∧ (∀ (j : Nat) (k : Int), (j = 0 → k < 5 ∨ 9 < k) → (j = 4 → k ≠ δ 0 18 + 1) → (j = 7 ∨ j = 8 ∨ j = 9 → k ≠ δ 0 18) → δ' j k = δ j k) ∧ tK δ = 1)) := by
  unfold b242x
  refine pq_cr (fun _ => pq_cr (fun _ => pq_ar ?_))
  generalize hg : setA δ 4 (δ 0 18 + 1) (δ 0 19) = δ1
  have s0 : ∀ (j : Nat) (k : Int), j ≠ 4 ∨ k ≠ δ 0 18 + 1 → δ1 j k = δ j k := fun j k q => by rw [← hg, stA, if_neg (by omega)]
  have l1 : LxR N γ δ1 := h.fr (fun _ _ _ => rfl) (fun _ _ _ => rfl) rfl (funext fun k => s0 1 k (by omega)) (fun k _ => s0 0 k (by omega))
  have ex := pq_expectW (w := 3) (c := 23) l1 (by omega) (by omega)
  intro y z e1 e2
  match hm : f_M_mustBe δ1 3, e2 with
  | some (.inl er, δ2), e2 =>
    have e2 : some ((.inl er, δ2) : Res) = some z := e2
    cases e2
    exact OuR.hand (r := y.1) (γ := y.2) (ex y _ e1 hm) |> fun k => by
      have y0 := (OuR.er (r := y.1) (γ := y.2) (ex y _ e1 hm)).1
      rw [show y = (0, y.2) by rw [← y0]]
      exact k
  | some (.inr x, δ2), e2 =>
    obtain ⟨y1, l2, y2, d2, kq⟩ := OuR.go (r := y.1) (γ := y.2) (ex y _ e1 hm)
    have k1 : tK δ1 = 1 := kq.1
    have kt : tK δ = 1 := by
      have := (tK_fr (δ := δ) (δ' := δ1) (funext fun k => s0 1 k (by omega)) (fun k q => s0 0 k (by omega))).1
      rw [← this]; exact k1
    have e3 : chk (inb (δ2 0 18) 61) (ap (setA δ2 7 (δ2 0 18) (δ2 0 30)) fun γ52 => chk (inb (γ52 0 18) 60) (ap (setA γ52 8 (γ52 0 18) 0) fun γ55 => chk (inb (γ55 0 18) 60) (ap (setA γ55 9 (γ55 0 18) 0) fun γ58 => x0 γ58))) = some z := e2
    have e4 := (chk_e (chk_e (chk_e e3).2).2).2
    have n18 : δ2 0 18 = δ 0 18 := by rw [d2, tkS_o δ1 0 18 (by omega), s0 0 18 (by omega)]
    have q1 : setA δ2 7 (δ2 0 18) (δ2 0 30) 0 18 = δ 0 18 := by rw [stA, if_neg (by omega)]; exact n18
    have q2 : setA (setA δ2 7 (δ2 0 18) (δ2 0 30)) 8 (setA δ2 7 (δ2 0 18) (δ2 0 30) 0 18) 0 0 18 = δ 0 18 := by rw [stA, if_neg (by omega)]; exact q1
    have e5 : some ((.inr 0, setA (setA (setA δ2 7 (δ2 0 18) (δ2 0 30)) 8 (setA δ2 7 (δ2 0 18) (δ2 0 30) 0 18) 0) 9 (setA (setA δ2 7 (δ2 0 18) (δ2 0 30)) 8 (setA δ2 7 (δ2 0 18) (δ2 0 30) 0 18) 0 0 18) 0) : Res) = some z := e4
    rw [q2, q1, n18] at e5
    cases e5
    generalize hz : setA (setA (setA δ2 7 (δ 0 18) (δ2 0 30)) 8 (δ 0 18) 0) 9 (δ 0 18) 0 = δ3
    have t0 : ∀ (j : Nat) (k : Int), (j ≠ 7 ∧ j ≠ 8 ∧ j ≠ 9 ∨ k ≠ δ 0 18) → δ3 j k = δ2 j k := fun j k q => by rw [← hz, stA, if_neg (by omega), stA, if_neg (by omega), stA, if_neg (by omega)]
    refine Or.inr ⟨⟨0, rfl⟩, y1, y2, ?_, fun j k r1 r2 r3 => ?_, kt⟩
    · exact l2.fr (fun _ _ _ => rfl) (fun _ _ _ => rfl) rfl (funext fun k => t0 1 k (by omega)) (fun k _ => t0 0 k (by omega))
    · show δ3 j k = δ j k
      rw [t0 j k (by omega), d2, tkS_o δ1 j k (by omega), s0 j k (by omega)]
