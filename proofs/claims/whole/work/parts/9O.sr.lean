/-! the class's order: sort, whole -/
theorem mu_adv {γ0 γ γ' : St} {S x : Int} (h : OdI γ0 S γ) (hP : 0 < γ 10 10) (hx : x = γ 73 (γ 10 10 - 1)) (a1 : γ' 10 10 = γ 10 10) (a2 : γ' 10 8 = γ 10 8) (a3 : γ' 71 x = γ 71 x + 1) (a4 : ∀ k, k ≠ x → γ' 71 k = γ 71 k) (a5 : ∀ k, γ' 73 k = γ 73 k) : Mu S γ' + 1 ≤ Mu S γ := by
  have t5 := h.2.2.1.2.2.2.2.1
  unfold Mu
  rw [a1, a2, sm_last (f := fun i => 4 - γ' 71 (γ' 73 i)) (g := fun i => 4 - γ 71 (γ 73 i)) hP (fun i q1 q2 => by
    show 4 - γ' 71 (γ' 73 i) = 4 - γ 71 (γ 73 i)
    rw [a5, a4 _ (fun r => by
      have := t5 i (γ 10 10 - 1) q1 q2 (by omega)
      rw [r, ← hx] at this
      omega)])]
  show _ - (4 - γ 71 (γ 73 (γ 10 10 - 1))) + (4 - γ' 71 (γ' 73 (γ 10 10 - 1))) + _ + 1 ≤ _
  rw [a5, ← hx, a3]
  omega
set_option maxHeartbeats 1000000 in
theorem w_advance {γ0 γ : St} {S : Int} (hX : SdX γ0 S) (h : OdI γ0 S γ) (hS : γ0 8 5 = S) (hP : 0 < γ 10 10) : wp (f_Od_advance γ (γ 73 (γ 10 10 - 1))) (fun z => AvP γ0 S γ z.2) := by
  have ⟨hF, hN, hT, hE, hC⟩ := h
  have ⟨n1, n2, n3, n4, n5, n6⟩ := hN
  have ⟨e1, e2, e3, e4, e5, e6⟩ := hE
  have cnt := hN.cnt hX.1.1
  have tk := hN.tk
  have tx := hT.2.2.2.1 (γ 10 10 - 1) (by omega) (by omega)
  have hS1 := hX.1
  generalize hx : γ 73 (γ 10 10 - 1) = x at *
  have x3 := (e1 x tx.1.1 tx.1.2 (by have := tx.2.1; omega)).1
  unfold f_Od_advance
  refine wp_chk (by omega) (wp_ite (fun c => ?_) (fun c => ?_))
  · have cS := hX.2 x (γ 71 x) tx.1.1 tx.1.2 x3.1 (by omega)
    have es : sdV γ x (γ 71 x) = sdV γ0 x (γ 71 x) := by unfold sdV; rw [hF 55 _ (by omega) (by omega), hF 56 _ (by omega) (by omega), hF 57 _ (by omega) (by omega)]
    refine wp_chk (by omega) (wp_bs (side_eq (by omega)) ?_)
    rw [es]
    generalize hc : sdV γ0 x (γ 71 x) = cc at *
    refine wp_chk (by omega) (wp_chk (by omega) (wp_chk (by omega) (wp_sub ?_)))
    have b71 : setA γ 71 x (γ 71 x + 1) 71 x = γ 71 x + 1 := by rw [stA, if_pos ⟨rfl, rfl⟩]
    have bo : ∀ j k, (j ≠ 71 ∨ k ≠ x) → setA γ 71 x (γ 71 x + 1) j k = γ j k := fun j k q => by rw [stA, if_neg (by omega)]
    generalize setA γ 71 x (γ 71 x + 1) = γ1 at *
    -- a cause that is a slot
    have b56 : ∀ o, 0 ≤ cc → (cc ≠ x ∧ o = γ 10 13 ∨ cc = x ∧ (o = γ 10 13 ∧ 0 ≤ o ∧ o ≤ x ∨ o = x ∧ (γ 10 13 < 0 ∨ x ≤ γ 10 13))) → ∀ γ2 : St, (∀ j k, γ2 j k = if j = 10 ∧ k = 13 then o else γ1 j k) → wp (f_Od_advance_b56 γ2 x cc) (fun z => AvP γ0 S γ z.2) := by
      intro o c0 ho γ2 s2
      have d69 : ∀ k, γ2 69 k = γ 69 k := fun k => by rw [s2, if_neg (by omega), bo 69 k (by omega)]
      have d70 : γ2 70 x = γ 70 x := by rw [s2, if_neg (by omega), bo 70 x (by omega)]
      unfold f_Od_advance_b56
      rw [d69, d70]
      refine wp_chk (by omega) (wp_ite (fun c2 => ?_) (fun c2 => ?_))
      · refine wp_chk (by omega) (wp_chk (by omega) (wp_chk (by omega) (wp_sub (wp_some ?_))))
        have s3 : ∀ j k, setA γ2 70 x (min (γ 70 x) (γ 69 cc)) j k = if j = 70 ∧ k = x then min (γ 70 x) (γ 69 cc) else if j = 71 ∧ k = x then γ 71 x + 1 else if j = 10 ∧ k = 13 then o else γ j k := fun j k => by
          rw [stA, s2]
          by_cases q1 : j = 70 ∧ k = x
          · rw [if_pos q1, if_pos q1]
          · rw [if_neg q1, if_neg q1]
            by_cases q2 : j = 71 ∧ k = x
            · rw [if_pos q2, if_neg (by omega), q2.1, q2.2]; exact b71
            · rw [if_neg q2, bo j k (by omega)]
        have a := h.adv hX hP hx.symm c hc.symm (Or.inr ⟨c0, c2, rfl⟩) ho s3
        generalize setA γ2 70 x (min (γ 70 x) (γ 69 cc)) = γ3 at *
        have mm : Mu S γ3 + 1 ≤ Mu S γ := mu_adv h hP hx.symm (by rw [s3]; simp) (by rw [s3]; simp) (by rw [s3]; simp) (fun k q => by rw [s3]; simp [q]) (fun k => by rw [s3]; simp)
        refine ⟨a, mm, ⟨fun k => by show γ3 74 k = _; rw [s3]; simp, by show γ3 10 12 = _; rw [s3]; simp⟩, fun s q1 q2 q3 => by show γ3 69 s ≠ 0; rw [s3]; simpa using q3⟩
      · have c2 : γ 69 cc = 0 := by omega
        have ncx : cc ≠ x := fun q => by rw [q] at c2; have := tx.2.1; omega
        have o13 : o = γ 10 13 := by omega
        -- there is room: this one is not counted yet
        have room : γ 10 8 + 1 ≤ S := by
          have u : sm (cnW γ (fun _ => 1)) 0 S + 1 ≤ S := by
            have := sm_upd (f := fun s => if s = cc then (1 : Int) else cnW γ (fun _ => 1) s) (g := cnW γ (fun _ => 1)) c0 cS.2 (fun i _ _ q => by show (if i = cc then _ else _) = _; rw [if_neg q])
            have l := sm_le (f := fun s => if s = cc then (1 : Int) else cnW γ (fun _ => 1) s) hX.1.1 (fun i _ _ => by
              show (if i = cc then (1 : Int) else (if γ 69 i ≠ 0 then 1 else 0)) ≤ 1
              split
              · omega
              · split <;> omega)
            have z : cnW γ (fun _ => 1) cc = 0 := by unfold cnW; rw [if_neg (by omega)]
            have z2 : (fun s => if s = cc then (1 : Int) else cnW γ (fun _ => 1) s) cc = 1 := by show (if cc = cc then (1 : Int) else _) = 1; rw [if_pos rfl]
            omega
          omega
        have p8 : γ2 10 8 = γ 10 8 := by rw [s2, if_neg (by omega), bo 10 8 (by omega)]
        have p9 : γ2 10 9 = γ 10 9 := by rw [s2, if_neg (by omega), bo 10 9 (by omega)]
        have p10 : γ2 10 10 = γ 10 10 := by rw [s2, if_neg (by omega), bo 10 10 (by omega)]
        refine wp_bnd (opn_eq (by omega) (by omega) (by omega) (by omega)) (fun r γ3 s3 => wp_some ?_)
        rw [p8, p9, p10] at s3
        have s3 : ∀ j k, γ3 j k = if j = 10 ∧ k = 10 then γ 10 10 + 1 else if j = 73 ∧ k = γ 10 10 then cc else if j = 10 ∧ k = 9 then γ 10 9 + 1 else if j = 72 ∧ k = γ 10 9 then cc else if j = 71 ∧ k = cc then 0 else if j = 70 ∧ k = cc then γ 10 8 + 1 else if j = 69 ∧ k = cc then γ 10 8 + 1 else if j = 10 ∧ k = 8 then γ 10 8 + 1 else γ2 j k := s3
        have s4 : ∀ j k, γ3 j k = if j = 10 ∧ k = 10 then γ 10 10 + 1 else if j = 73 ∧ k = γ 10 10 then cc else if j = 10 ∧ k = 9 then γ 10 9 + 1 else if j = 72 ∧ k = γ 10 9 then cc else if j = 71 ∧ k = cc then 0 else if j = 70 ∧ k = cc then γ 10 8 + 1 else if j = 69 ∧ k = cc then γ 10 8 + 1 else if j = 10 ∧ k = 8 then γ 10 8 + 1 else if j = 71 ∧ 0 < γ 10 10 ∧ k = γ 73 (γ 10 10 - 1) then γ 71 k + 1 else γ j k := fun j k => by
          rw [s3]
          have e : γ2 j k = if j = 71 ∧ 0 < γ 10 10 ∧ k = γ 73 (γ 10 10 - 1) then γ 71 k + 1 else γ j k := by
            rw [s2, hx]
            by_cases q2 : j = 71 ∧ k = x
            · rw [if_neg (by omega), if_pos ⟨q2.1, hP, q2.2⟩, q2.1, q2.2]; exact b71
            · rw [if_neg (c := j = 71 ∧ 0 < γ 10 10 ∧ k = x) (fun q => q2 ⟨q.1, q.2.2⟩), bo j k (by omega)]
              by_cases q3 : j = 10 ∧ k = 13
              · rw [if_pos q3, q3.1, q3.2]; exact o13
              · rw [if_neg q3]
          rw [e]
        have a := h.opn hX ⟨c0, cS.2⟩ c2 (Or.inr ⟨hP, by rw [hx]; exact c, by rw [hx]; exact hc⟩) s4
        have t5 := hT.2.2.2.2.1
        have t4 := hT.2.2.2.1
        refine ⟨a, ?_, ⟨fun k => by show γ3 74 k = _; rw [s4]; simp, by show γ3 10 12 = _; rw [s4]; simp⟩, fun s q1 q2 q3 => ?_⟩
        · show Mu S γ3 + 1 ≤ Mu S γ
          unfold Mu
          have u10 : γ3 10 10 = γ 10 10 + 1 := by rw [s4]; simp
          have u8 : γ3 10 8 = γ 10 8 + 1 := by rw [s4]; simp
          have v73 : ∀ k, k < γ 10 10 → γ3 73 k = γ 73 k := fun k q => by rw [s4]; simp; omega
          have vP : γ3 73 (γ 10 10) = cc := by rw [s4]; simp
          have v71 : ∀ k, k ≠ cc → k ≠ x → γ3 71 k = γ 71 k := fun k q1 q2 => by
            rw [s4, hx, if_neg (by omega), if_neg (by omega), if_neg (by omega), if_neg (by omega), if_neg (by omega), if_neg (by omega), if_neg (by omega), if_neg (by omega), if_neg (by omega)]
          have vx : γ3 71 x = γ 71 x + 1 := by
            rw [s4, hx, if_neg (by omega), if_neg (by omega), if_neg (by omega), if_neg (by omega), if_neg (by omega), if_neg (by omega), if_neg (by omega), if_neg (by omega), if_pos ⟨rfl, hP, rfl⟩]
          have vc : γ3 71 cc = 0 := by rw [s4]; simp
          have pc : ∀ i, 0 ≤ i → i < γ 10 10 → γ 73 i ≠ cc := fun i q1 q2 r => by
            have := (t4 i q1 q2).2.1
            rw [r, c2] at this
            omega
          rw [u10, u8, sm_succ (by omega), sm_last (f := fun i => 4 - γ3 71 (γ3 73 i)) (g := fun i => 4 - γ 71 (γ 73 i)) hP (fun i q1 q2 => by
            show 4 - γ3 71 (γ3 73 i) = 4 - γ 71 (γ 73 i)
            rw [v73 i (by omega), v71 _ (pc i q1 (by omega)) (fun r => by
              have := t5 i (γ 10 10 - 1) q1 q2 (by omega)
              rw [r, hx] at this
              omega)])]
          show _ - (4 - γ 71 (γ 73 (γ 10 10 - 1))) + (4 - γ3 71 (γ3 73 (γ 10 10 - 1))) + (4 - γ3 71 (γ3 73 (γ 10 10))) + _ + 1 ≤ _
          rw [v73 (γ 10 10 - 1) (by omega), vP, vc, hx, vx]
          omega
        · show γ3 69 s ≠ 0
          by_cases q : s = cc
          · rw [s4, q]; simp; omega
          · rw [s4]; simp [q]; exact q3
    refine wp_ite (fun c0 => wp_ite (fun c1 => ?_) (fun c1 => ?_)) (fun c0 => wp_some ?_)
    · refine b56 (γ 10 13) c0 (Or.inl ⟨c1, rfl⟩) γ1 (fun j k => ?_)
      by_cases q : j = 10 ∧ k = 13
      · rw [if_pos q, q.1, q.2]; exact bo 10 13 (by omega)
      · rw [if_neg q]
    · refine wp_bnd (note_wp _ _) (fun r γ2 q => ?_)
      have q : γ2 = _ := q
      rw [bo 10 13 (by omega)] at q
      have c13 := hC.1
      refine b56 (if γ 10 13 < 0 ∨ x < γ 10 13 then x else γ 10 13) c0 (Or.inr ⟨by omega, ?_⟩) γ2 (fun j k => by rw [q, stA])
      by_cases z : γ 10 13 < 0 ∨ x < γ 10 13
      · rw [if_pos z]; exact Or.inr ⟨rfl, by omega⟩
      · rw [if_neg z]; exact Or.inl ⟨rfl, by omega, by omega⟩
    · have s3 : ∀ j k, γ1 j k = if j = 70 ∧ k = x then γ 70 x else if j = 71 ∧ k = x then γ 71 x + 1 else if j = 10 ∧ k = 13 then γ 10 13 else γ j k := fun j k => by
        by_cases q1 : j = 70 ∧ k = x
        · rw [if_pos q1, q1.1, q1.2]; exact bo 70 x (by omega)
        · rw [if_neg q1]
          by_cases q2 : j = 71 ∧ k = x
          · rw [if_pos q2, q2.1, q2.2]; exact b71
          · rw [if_neg q2, bo j k (by omega)]
            by_cases q3 : j = 10 ∧ k = 13
            · rw [if_pos q3, q3.1, q3.2]
            · rw [if_neg q3]
      have a := h.adv hX hP hx.symm c hc.symm (Or.inl ⟨by omega, rfl⟩) (Or.inl ⟨by omega, rfl⟩) s3
      exact ⟨a, mu_adv h hP hx.symm (bo 10 10 (by omega)) (bo 10 8 (by omega)) b71 (fun k q => bo 71 k (by omega)) (fun k => bo 73 k (by omega)), ⟨fun k => bo 74 k (by omega), bo 10 12 (by omega)⟩, fun s q1 q2 q3 => by show γ1 69 s ≠ 0; rw [bo 69 s (by omega)]; exact q3⟩
  · exact wp_bnd (w_closeSlot hX h hS hP hx.symm (by omega)) (fun r γ2 q => wp_some q)
theorem OdI.mu1 {γ0 γ : St} {S : Int} (hX : SdX γ0 S) (h : OdI γ0 S γ) : γ 10 10 ≤ Mu S γ := by
  have ⟨hF, hN, hT, hE, hC⟩ := h
  have cnt := hN.cnt hX.1.1
  have p0 := hN.1.2.1
  have x : ∀ m : Nat, (m : Int) ≤ γ 10 10 → (m : Int) ≤ sm (fun i => 4 - γ 71 (γ 73 i)) 0 m := by
    intro m
    induction m with
    | zero => intro _; rw [sm_nil (by omega)]; omega
    | succ m ih =>
      intro hm
      have i1 := ih (by omega)
      have y := hT.2.2.2.1 m (by omega) (by omega)
      have z := (hE.1 _ y.1.1 y.1.2 (by have := y.2.1; omega)).1
      rw [show ((m + 1 : Nat) : Int) = (m : Int) + 1 by omega, sm_succ (by omega)]
      show (m : Int) + 1 ≤ _ + (4 - γ 71 (γ 73 m))
      omega
  have := x (γ 10 10).toNat (by omega)
  rw [show (((γ 10 10).toNat : Nat) : Int) = γ 10 10 by omega] at this
  unfold Mu
  omega
/-- what the sort leaves -/
def SoI (γ0 : St) (S : Int) (γ : St) : Prop := OdI γ0 S γ ∧ γ 10 10 = 0
theorem w_sort_L81 {γ0 : St} {S : Int} {k60 : St → Int → Int → Option (Int × St)} {Q : Int × St → Prop} {r : Int} {γs : St} (hX : SdX γ0 S) (hS : γ0 8 5 = S) (hr : 0 ≤ r ∧ r < S) (hQ : ∀ γ, SoI γ0 S γ → VsP S γs γ → ((∀ k, γ 74 k = γs 74 k) ∧ γ 10 12 = γs 10 12) → wp (k60 γ S (r + 1)) Q) : ∀ (n : Nat) (γ : St) (i : Int), OdI γ0 S γ → VsP S γs γ → ((∀ k, γ 74 k = γs 74 k) ∧ γ 10 12 = γs 10 12) → 0 ≤ i → i + Mu S γ ≤ 4 * S → 4 * S - i < n → 0 < n → wp (f_Od_sort_L81 (f_Od_sort_b116 k60) n γ S r i) Q := by
  have hS1 := hX.1
  intro n
  induction n with
  | zero => intro γ i h h1 h2 h3 h4 h5 h6; exact absurd h6 (by omega)
  | succ n ih =>
    intro γ i h h1 h2 h3 h4 h5 h6
    have m1 := h.mu1 hX
    have cnt := h.2.1.cnt hX.1.1
    have pp := h.2.1.2.1
    unfold f_Od_sort_L81
    have hE : γ 10 10 = 0 → wp (f_Od_sort_b116 k60 γ S r) Q := fun q => by
      unfold f_Od_sort_b116
      exact wp_chk (by omega) (hQ γ ⟨h, q⟩ h1 h2)
    have p0 := h.2.1.1.2.1
    refine wp_ite (fun c => hE (by omega)) (fun c => wp_chk (by omega) (wp_ite (fun c2 => by omega) (fun c2 => ?_)))
    refine wp_chk (by omega) (wp_chk (by omega) (wp_bnd (w_advance hX h hS (by omega)) (fun r2 γ2 q => wp_chk (by omega) ?_)))
    obtain ⟨q1, q2, q3, q4⟩ := q
    have q2 : Mu S γ2 + 1 ≤ Mu S γ := q2
    exact ih γ2 (i + 1) q1 (fun s r1 r2 r3 => q4 s r1 r2 (h1 s r1 r2 r3)) ⟨fun k => (q3.1 k).trans (h2.1 k), q3.2.trans h2.2⟩ (by omega) (by omega) (by omega) (by omega)
set_option maxHeartbeats 1000000 in
theorem w_sort_L60 {γ0 : St} {S : Int} (hX : SdX γ0 S) (hS : γ0 8 5 = S) : ∀ (n : Nat) (γ : St) (r : Int), SoI γ0 S γ → (∀ s, 0 ≤ s → s < r → γ 69 s ≠ 0) → 0 ≤ r → r ≤ S → S - r < n → wp (f_Od_sort_L60 n γ S r) (fun z => SoI γ0 S z.2 ∧ ((∀ k, z.2 74 k = γ 74 k) ∧ z.2 10 12 = γ 10 12) ∧ ∀ s, 0 ≤ s → s < S → z.2 69 s ≠ 0) := by
  have hS1 := hX.1
  have := FU_v
  intro n
  induction n with
  | zero => intro γ r h h1 h2 h3 h4; exfalso; omega
  | succ n ih =>
    intro γ r h h1 h2 h3 h4
    have ⟨hI, hp⟩ := h
    have cnt := hI.2.1.cnt hX.1.1
    have tk := hI.2.1.tk
    have n1 := hI.2.1.1
    unfold f_Od_sort_L60
    refine wp_ite (fun c => wp_some ⟨h, ⟨fun _ => rfl, rfl⟩, fun s q1 q2 => h1 s q1 (by omega)⟩) (fun c => ?_)
    have nxt : ∀ γ1, OdI γ0 S γ1 → VsP S γ γ1 → γ1 69 r ≠ 0 → ((∀ k, γ1 74 k = γ 74 k) ∧ γ1 10 12 = γ 10 12) → Mu S γ1 ≤ 4 * S → wp (f_Od_sort_b79 (f_Od_sort_L60 n) γ1 S r) (fun z => SoI γ0 S z.2 ∧ ((∀ k, z.2 74 k = γ 74 k) ∧ z.2 10 12 = γ 10 12) ∧ ∀ s, 0 ≤ s → s < S → z.2 69 s ≠ 0) := by
      intro γ1 g1 g2 g3 g4 g5
      unfold f_Od_sort_b79
      refine w_sort_L81 (γs := γ1) hX hS (by omega) (fun γ2 a1 a2 a3 => ?_) FU γ1 0 g1 (fun s _ _ q => q) ⟨fun _ => rfl, rfl⟩ (by omega) (by omega) (by omega) (by omega)
      refine wp_mono (ih γ2 (r + 1) a1 (fun s q1 q2 => ?_) (by omega) (by omega) (by omega)) (fun z hz => ⟨hz.1, ⟨fun k => (hz.2.1.1 k).trans ((a3.1 k).trans (g4.1 k)), hz.2.1.2.trans (a3.2.trans g4.2)⟩, hz.2.2⟩)
      by_cases q : s = r
      · rw [q]; exact a2 r (by omega) (by omega) g3
      · exact a2 s q1 (by omega) (g2 s q1 (by omega) (h1 s q1 (by omega)))
    refine wp_chk (by omega) (wp_ite (fun c2 => ?_) (fun c2 => ?_))
    · refine nxt γ hI (fun s _ _ q => q) c2 ⟨fun _ => rfl, rfl⟩ ?_
      unfold Mu
      rw [hp, sm_nil (Int.le_refl _)]
      omega
    · have c2 : γ 69 r = 0 := by omega
      refine wp_bnd (P := fun z => OdI γ0 S z.2 ∧ z.2 69 r ≠ 0 ∧ VsP S γ z.2 ∧ ((∀ k, z.2 74 k = γ 74 k) ∧ z.2 10 12 = γ 10 12) ∧ Mu S z.2 ≤ 4 * S) ?_ (fun r2 γ2 q => ?_)
      · have tT := hI.2.2.1.1
        refine wp_mono (opn_eq (by omega) (by omega) ?_ (by omega)) (fun z s3 => ?_)
        · -- no slot is open
          have t0 : γ 10 9 = 0 := by
            rcases Int.lt_or_le 0 (γ 10 9) with v | v
            · have y := tT 0 (by omega) v
              obtain ⟨i, p1, p2, _, _⟩ := hI.2.2.2.1.2.2.2.1 _ y.1.1 y.1.2 y.2
              omega
            · omega
          omega
        · have s4 : ∀ j k, z.2 j k = if j = 10 ∧ k = 10 then γ 10 10 + 1 else if j = 73 ∧ k = γ 10 10 then r else if j = 10 ∧ k = 9 then γ 10 9 + 1 else if j = 72 ∧ k = γ 10 9 then r else if j = 71 ∧ k = r then 0 else if j = 70 ∧ k = r then γ 10 8 + 1 else if j = 69 ∧ k = r then γ 10 8 + 1 else if j = 10 ∧ k = 8 then γ 10 8 + 1 else if j = 71 ∧ 0 < γ 10 10 ∧ k = γ 73 (γ 10 10 - 1) then γ 71 k + 1 else γ j k := fun j k => by
            rw [s3, if_neg (c := j = 71 ∧ 0 < γ 10 10 ∧ k = γ 73 (γ 10 10 - 1)) (by omega)]
          have a := hI.opn hX (by omega) c2 (Or.inl hp) s4
          have cn2 := a.2.1.cnt hX.1.1
          refine ⟨a, by rw [s4]; simp; omega, fun s q1 q2 q3 => ?_, ⟨fun k => by rw [s4]; simp, by rw [s4]; simp⟩, ?_⟩
          · by_cases q : s = r
            · rw [s4, q]; simp; omega
            · rw [s4]; simp [q]; exact q3
          · have u10 : z.2 10 10 = 1 := by rw [s4]; simp; omega
            have u8 : z.2 10 8 = γ 10 8 + 1 := by rw [s4]; simp
            have u73 : z.2 73 0 = r := by rw [s4, hp]; simp
            have u71 : z.2 71 r = 0 := by rw [s4]; simp
            unfold Mu
            have one := sm_succ (f := fun i => 4 - z.2 71 (z.2 73 i)) (a := 0) (b := 0) (Int.le_refl _)
            rw [sm_nil (Int.le_refl _), show (0 : Int) + 1 = 1 by omega] at one
            have one2 : sm (fun i => 4 - z.2 71 (z.2 73 i)) 0 1 = 0 + (4 - z.2 71 (z.2 73 0)) := one
            rw [u10, u8, one2, u73, u71]
            omega
      · exact nxt γ2 q.1 q.2.2.1 q.2.1 q.2.2.2.1 q.2.2.2.2
