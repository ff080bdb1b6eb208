/-! the class's order: causes come first -/
theorem sm_z {f : Int → Int} {n : Int} (h : ∀ i, 0 ≤ i → i < n → f i = 0) : sm f 0 n = 0 := by
  have x : ∀ m : Nat, (m : Int) ≤ n → sm f 0 m = 0 := by
    intro m
    induction m with
    | zero => intro _; exact sm_nil (by omega)
    | succ m ih =>
      intro hm
      rw [show ((m + 1 : Nat) : Int) = (m : Int) + 1 by omega, sm_succ (by omega), ih (by omega), h m (by omega) (by omega)]
      rfl
  by_cases q : 0 ≤ n
  · have := x n.toNat (by omega)
    rw [show ((n.toNat : Nat) : Int) = n by omega] at this
    exact this
  · exact sm_nil (by omega)
theorem sm_ex {f : Int → Int} {n : Int} (h : sm f 0 n ≠ 0) : ∃ i, 0 ≤ i ∧ i < n ∧ f i ≠ 0 := by
  by_cases q : ∃ i, 0 ≤ i ∧ i < n ∧ f i ≠ 0
  · exact q
  · exfalso
    refine h (sm_z (fun i h1 h2 => ?_))
    by_cases w : f i = 0
    · exact w
    · exact absurd ⟨i, h1, h2, w⟩ q
def idK (c : Int) : Int → Int := fun s => if s = c then 1 else 0
theorem idK_s (c : Int) : idK c c = 1 := by unfold idK; rw [if_pos rfl]
theorem idK_n {c s : Int} (h : s ≠ c) : idK c s = 0 := by unfold idK; rw [if_neg h]
theorem idK_b (c s : Int) : 0 ≤ idK c s := by unfold idK; split <;> omega
theorem idK_e {c s : Int} (h : idK c s ≠ 0) : s = c := by
  by_cases q : s = c
  · exact q
  · exact absurd (idK_n q) h
/-- a slot that is done with is sorted -/
theorem OdI.kn {γ0 γ : St} {S c : Int} (h : OdI γ0 S γ) (c0 : 0 ≤ c) (c1 : c < S) (hS : 0 ≤ S) (hc : γ 69 c = S + 1) : ∃ k, 0 ≤ k ∧ k < γ 10 11 ∧ γ 75 k = c := by
  have ⟨hF, hN, hT, hE, hC⟩ := h
  have n4 := hN.2.2.2.1 (idK c)
  have z : sm (fun i => idK c (γ 72 i)) 0 (γ 10 9) = 0 := sm_z (fun i q1 q2 => by
    have t := hT.1 i q1 q2
    refine idK_n (fun e => ?_)
    have := t.2.2
    rw [e] at this
    omega)
  have g : cnW γ (idK c) c ≤ sm (cnW γ (idK c)) 0 S := sm_ge c0 c1 (fun k _ _ => by
    unfold cnW
    have := idK_b c k
    split <;> omega)
  have g2 : cnW γ (idK c) c = 1 := by
    unfold cnW
    rw [if_pos (by omega), idK_s]
  obtain ⟨k, k1, k2, k3⟩ := sm_ex (f := fun i => idK c (γ 75 i)) (n := γ 10 11) (by omega)
  exact ⟨k, k1, k2, idK_e k3⟩
/-- a sorted slot's causes are sorted before it, or something causes itself -/
def TpO (γ0 γ : St) : Prop := 0 ≤ γ 10 13 ∨ ∀ k, 0 ≤ k → k < γ 10 11 → ∀ c, Ed γ0 (γ 75 k) c → ∃ i, 0 ≤ i ∧ i < k ∧ γ 75 i = c
theorem TpO.fr {γ0 γ γ' : St} (h : TpO γ0 γ) (e : ∀ k, γ' 75 k = γ 75 k) (e1 : γ' 10 11 = γ 10 11) (e2 : 0 ≤ γ 10 13 → 0 ≤ γ' 10 13) : TpO γ0 γ' := by
  rcases h with h | h
  · exact Or.inl (e2 h)
  · refine Or.inr (fun k q1 q2 c q3 => ?_)
    rw [e1] at q2
    rw [e] at q3
    obtain ⟨i, i1, i2, i3⟩ := h k q1 q2 c q3
    exact ⟨i, i1, i2, by rw [e]; exact i3⟩
theorem note_pc {γ : St} {a : Int} (ha : 0 ≤ a) : pc (f_Od_noteOwnCause γ a) (fun z => 0 ≤ z.2 10 13 ∧ ∀ j k, (j ≠ 10 ∨ k ≠ 13) → z.2 j k = γ j k) := by
  unfold f_Od_noteOwnCause
  refine pc_i (fun c => pc_a (pc_s ⟨?_, fun j k q => ?_⟩)) (fun c => pc_i (fun c2 => pc_s ⟨?_, fun j k q => rfl⟩) (fun c2 => pc_a (pc_s ⟨?_, fun j k q => ?_⟩)))
  · show 0 ≤ setA γ 10 13 a 10 13
    rw [stA, if_pos ⟨rfl, rfl⟩]; exact ha
  · show setA γ 10 13 a j k = _
    rw [stA, if_neg (by omega)]
  · show 0 ≤ γ 10 13
    omega
  · show 0 ≤ setA γ 10 13 a 10 13
    rw [stA, if_pos ⟨rfl, rfl⟩]; exact ha
  · show setA γ 10 13 a j k = _
    rw [stA, if_neg (by omega)]
theorem open_r {γ : St} {a : Int} : pc (f_Od_openSlot γ a) (fun z => (∀ k, z.2 75 k = γ 75 k) ∧ z.2 10 11 = γ 10 11 ∧ z.2 10 13 = γ 10 13) := by
  unfold f_Od_openSlot
  refine pc_c (fun _ => pc_a (pc_c (fun _ => pc_a (pc_c (fun _ => pc_a (pc_c (fun _ => pc_a (pc_c (fun _ => pc_a (pc_c (fun _ => pc_a (pc_c (fun _ => pc_a (pc_c (fun _ => pc_a (pc_s ⟨fun k => ?_, ?_, ?_⟩))))))))))))))))
  · simp [stA]
  · simp [stA]
  · simp [stA]
theorem circ_al {γ : St} {x : Int} (ht : γ 72 (γ 10 9 - 1) = x) (h9 : 0 < γ 10 9) : ∀ n : Nat, pc (f_Od_takeCircle_L23 n γ x 1 0) (fun z => ∀ j k, z.2 j k = if j = 10 ∧ k = 11 then γ 10 11 + 1 else if j = 75 ∧ k = γ 10 11 then x else if j = 69 ∧ k = x then γ 8 5 + 1 else if j = 10 ∧ k = 9 then γ 10 9 - 1 else γ j k) := by
  intro n
  cases n with
  | zero => exact pc_n
  | succ n =>
    unfold f_Od_takeCircle_L23
    refine pc_i (fun q => absurd rfl q) (fun _ => pc_i (fun q => by exfalso; omega) (fun _ => pc_c (fun _ => pc_a (pc_c (fun _ => pc_a ?_)))))
    have a9 : setA γ 10 9 (γ 10 9 - 1) 10 9 = γ 10 9 - 1 := by rw [stA, if_pos ⟨rfl, rfl⟩]
    have a72 : setA γ 10 9 (γ 10 9 - 1) 72 (γ 10 9 - 1) = x := by rw [stA, if_neg (by omega)]; exact ht
    rw [a9, a72]
    refine pc_i (fun _ => ?_) (fun q => absurd (by decide) q)
    unfold f_Od_takeCircle_b65
    refine pc_c (fun _ => pc_c (fun _ => pc_a (pc_c (fun _ => pc_a (pc_c (fun _ => pc_a (pc_i (fun q => absurd rfl q) (fun _ => ?_))))))))
    unfold f_Od_takeCircle_b113
    cases n with
    | zero => exact pc_n
    | succ n =>
      unfold f_Od_takeCircle_L23
      refine pc_i (fun _ => pc_s (fun j k => ?_)) (fun q => absurd (by decide) q)
      show setA _ 10 11 _ j k = _
      simp [stA]
theorem circ_na {x : Int} : ∀ (n : Nat) (γ : St) (l : Int), (∀ i, 0 ≤ i → i < γ 10 9 → 0 ≤ γ 72 i) → (0 ≤ γ 10 13 ∨ 0 < γ 10 9 ∧ l = 0) → pc (f_Od_takeCircle_L23 n γ x 0 l) (fun z => 0 ≤ z.2 10 13) := by
  intro n
  induction n with
  | zero => intro γ l _ _; exact pc_n
  | succ n ih =>
    intro γ l h1 h2
    unfold f_Od_takeCircle_L23
    refine pc_i (fun q => pc_s (by show 0 ≤ γ 10 13; omega)) (fun q => pc_i (fun q2 => pc_s (by show 0 ≤ γ 10 13; omega)) (fun q2 => pc_c (fun _ => pc_a (pc_c (fun _ => pc_a ?_)))))
    have a9 : setA γ 10 9 (γ 10 9 - 1) 10 9 = γ 10 9 - 1 := by rw [stA, if_pos ⟨rfl, rfl⟩]
    have a72 : ∀ k, setA γ 10 9 (γ 10 9 - 1) 72 k = γ 72 k := fun k => by rw [stA, if_neg (by omega)]
    rw [a9, a72]
    refine pc_i (fun q => absurd rfl q) (fun _ => pc_b (note_pc (h1 _ (by omega) (by omega))) (fun r γ2 w => ?_))
    obtain ⟨w1, w2⟩ := w
    have w1 : 0 ≤ γ2 10 13 := w1
    have w2 : ∀ j k, (j ≠ 10 ∨ k ≠ 13) → γ2 j k = setA γ 10 9 (γ 10 9 - 1) j k := w2
    unfold f_Od_takeCircle_b65
    refine pc_c (fun _ => pc_c (fun _ => pc_a (pc_c (fun _ => pc_a (pc_c (fun _ => pc_a ?_))))))
    generalize hh : setA _ 10 11 _ = γ3
    have s9 : γ3 10 9 = γ 10 9 - 1 := by
      rw [← hh]
      simp [stA]
      rw [w2 10 9 (by omega)]; exact a9
    have s13 : γ3 10 13 = γ2 10 13 := by
      rw [← hh]
      simp [stA]
    have s72 : ∀ k, γ3 72 k = γ 72 k := fun k => by
      rw [← hh]
      simp [stA]
      rw [w2 72 k (by omega)]; exact a72 k
    have nx : ∀ l, pc (f_Od_takeCircle_b113 (f_Od_takeCircle_L23 n) γ3 x 0 l) (fun z => 0 ≤ z.2 10 13) := fun l => by
      unfold f_Od_takeCircle_b113
      exact ih γ3 l (fun i q1 q2 => by rw [s72]; exact h1 i q1 (by omega)) (Or.inl (by omega))
    exact pc_i (fun _ => nx 0) (fun _ => nx 1)
theorem t_b50 {γ0 γ γ2 : St} {S x : Int} (hX : SdX γ0 S) (h : OdI γ0 S γ) (hS : γ0 8 5 = S) (hP : 0 < γ 10 10) (hx : x = γ 73 (γ 10 10 - 1)) (h71 : γ 71 x = 3) (ht : TpO γ0 γ) (f : ∀ j k, j ≠ 70 → (j ≠ 10 ∨ k ≠ 10) → γ2 j k = γ j k) : pc (f_Od_closeSlot_b50 γ2 x) (fun z => OdI γ0 S z.2 → TpO γ0 z.2) := by
  have ⟨hF, hN, hT, hE, hC⟩ := h
  have tx := hT.2.2.2.1 (γ 10 10 - 1) (by omega) (by omega)
  rw [← hx] at tx
  obtain ⟨i0, i1, i2, i3⟩ := hT.2.2.1 x tx.1.1 tx.1.2 tx.2
  have f9 := f 10 9 (by omega) (by omega)
  have f11 := f 10 11 (by omega) (by omega)
  have f13 := f 10 13 (by omega) (by omega)
  have f85 : γ2 8 5 = S := by rw [f 8 5 (by omega) (by omega), hF 8 5 (by omega) (by omega)]; exact hS
  have S0 := hX.1.1
  have t2 : TpO γ0 γ2 := ht.fr (fun k => f 75 k (by omega) (by omega)) f11 (fun q => by omega)
  unfold f_Od_closeSlot_b50
  refine pc_c (fun _ => pc_c (fun _ => pc_i (fun _ => pc_s (fun _ => t2)) (fun _ => ?_)))
  refine pc_b (P := fun z => OdI γ0 S z.2 → TpO γ0 z.2) ?_ (fun r γ3 w => pc_s w)
  unfold f_Od_takeCircle
  refine pc_c (fun _ => pc_c (fun _ => pc_i (fun q => ?_) (fun q => ?_)))
  · unfold f_Od_takeCircle_b20
    exact pc_m (circ_na FU γ2 0 (fun i q1 q2 => by rw [f 72 i (by omega) (by omega)]; exact (hT.1 i q1 (by omega)).1.1) (Or.inr ⟨by omega, rfl⟩)) (fun z hz _ => Or.inl hz)
  · unfold f_Od_takeCircle_b20
    have q : γ2 72 (γ2 10 9 - 1) = x := by omega
    refine pc_m (circ_al q (by omega) FU) (fun z s od => ?_)
    have e13 : z.2 10 13 = γ 10 13 := by rw [s, if_neg (by omega), if_neg (by omega), if_neg (by omega), if_neg (by omega)]; exact f13
    have e11 : z.2 10 11 = γ 10 11 + 1 := by rw [s, if_pos ⟨rfl, rfl⟩]; omega
    have o75 : ∀ k, k ≠ γ 10 11 → z.2 75 k = γ 75 k := fun k w => by rw [s, if_neg (by omega), if_neg (by omega), if_neg (by omega), if_neg (by omega)]; exact f 75 k (by omega) (by omega)
    have n75 : z.2 75 (γ 10 11) = x := by rw [s, if_neg (by omega), if_pos ⟨rfl, f11.symm⟩]
    have zx : z.2 69 x = S + 1 := by rw [s, if_neg (by omega), if_neg (by omega), if_pos ⟨rfl, rfl⟩]; omega
    rcases ht with ht | ht
    · exact Or.inl (by omega)
    · by_cases sl : Ed γ0 x x
      · refine Or.inl ?_
        obtain ⟨j, j1, j2, j3⟩ := sl.to
        have := hC.2.2.2 x j tx.1.1 tx.1.2 (by have := tx.2.1; omega) j1 (by omega) j3
        omega
      · refine Or.inr (fun k q1 q2 c q3 => ?_)
        by_cases qk : k = γ 10 11
        · rw [qk, n75] at q3
          have cx : c ≠ x := fun e => sl (by rw [e] at q3; exact q3)
          have zc := od.2.2.2.1.2.1 x tx.1.1 tx.1.2 zx c q3
          have gc : γ 69 c = S + 1 := by rw [← zc, s, if_neg (by omega), if_neg (by omega), if_neg (by omega), if_neg (by omega)]; exact (f 69 c (by omega) (by omega)).symm
          have cr : 0 ≤ c ∧ c < S := by
            obtain ⟨j, j1, j2, j3⟩ := q3.to
            have := hX.2 x j tx.1.1 tx.1.2 j1 j2
            rw [j3] at this
            exact ⟨q3.1, this.2⟩
          obtain ⟨k', k1, k2, k3⟩ := h.kn cr.1 cr.2 S0 gc
          exact ⟨k', k1, by omega, by rw [o75 k' (by omega)]; exact k3⟩
        · rw [o75 k qk] at q3
          obtain ⟨i, a1, a2, a3⟩ := ht k q1 (by omega) c q3
          exact ⟨i, a1, a2, by rw [o75 i (by omega)]; exact a3⟩
theorem t_close {γ0 γ : St} {S x : Int} (hX : SdX γ0 S) (h : OdI γ0 S γ) (hS : γ0 8 5 = S) (hP : 0 < γ 10 10) (hx : x = γ 73 (γ 10 10 - 1)) (h71 : γ 71 x = 3) (ht : TpO γ0 γ) : pc (f_Od_closeSlot γ x) (fun z => OdI γ0 S z.2 → TpO γ0 z.2) := by
  unfold f_Od_closeSlot
  refine pc_c (fun _ => pc_a (pc_i (fun _ => t_b50 hX h hS hP hx h71 ht (fun j k q1 q2 => ?_)) (fun _ => pc_c (fun _ => pc_c (fun _ => pc_a (pc_c (fun _ => pc_c (fun _ => pc_c (fun _ => pc_a (t_b50 hX h hS hP hx h71 ht (fun j k q1 q2 => ?_)))))))))))
  · rw [stA, if_neg (by omega)]
  · rw [stA, if_neg (by omega), stA, if_neg (by omega)]
theorem t_advance {γ0 γ : St} {S : Int} (hX : SdX γ0 S) (h : OdI γ0 S γ) (hS : γ0 8 5 = S) (hP : 0 < γ 10 10) (ht : TpO γ0 γ) : pc (f_Od_advance γ (γ 73 (γ 10 10 - 1))) (fun z => OdI γ0 S z.2 → TpO γ0 z.2) := by
  have tx := h.2.2.1.2.2.2.1 (γ 10 10 - 1) (by omega) (by omega)
  have cl := fun q => t_close hX h hS hP (x := γ 73 (γ 10 10 - 1)) rfl q ht
  generalize hx : γ 73 (γ 10 10 - 1) = x at *
  unfold f_Od_advance
  refine pc_c (fun _ => pc_i (fun q => ?_) (fun q => pc_b (cl (by omega)) (fun r γ3 w => pc_s w)))
  refine pc_c (fun _ => pc_b (P := fun z => z.2 = γ) ?_ (fun r γ1 w => ?_))
  · unfold f_Sl_side
    exact pc_i (fun _ => pc_i (fun _ => pc_c (fun _ => pc_s rfl)) (fun _ => pc_c (fun _ => pc_s rfl))) (fun _ => pc_c (fun _ => pc_s rfl))
  have w : γ1 = γ := w
  rw [w]
  have o70 : ∀ (γ2 : St) (v : Int) (j : Nat) (k : Int), j ≠ 70 → setA γ2 70 x v j k = γ2 j k := fun γ2 v j k q => by rw [stA, if_neg (by omega)]
  have b56 : ∀ (γ2 : St) (c : Int), (∀ k, γ2 75 k = γ 75 k) → γ2 10 11 = γ 10 11 → (0 ≤ γ 10 13 → 0 ≤ γ2 10 13) → pc (f_Od_advance_b56 γ2 x c) (fun z => OdI γ0 S z.2 → TpO γ0 z.2) := fun γ2 c e1 e2 e3 => by
    have t2 := ht.fr e1 e2 e3
    unfold f_Od_advance_b56
    refine pc_c (fun _ => pc_i (fun _ => pc_c (fun _ => pc_c (fun _ => pc_c (fun _ => pc_a (pc_s (fun _ => t2.fr (fun k => ?_) ?_ (fun q => ?_))))))) (fun _ => pc_b open_r (fun r γ3 w => pc_s (fun _ => t2.fr w.1 w.2.1 (fun q => Int.le_trans q (Int.le_of_eq w.2.2.symm))))))
    · exact o70 γ2 (min (γ2 70 x) (γ2 69 c)) 75 k (by omega)
    · exact o70 γ2 (min (γ2 70 x) (γ2 69 c)) 10 11 (by omega)
    · exact Int.le_trans q (Int.le_of_eq (o70 γ2 (min (γ2 70 x) (γ2 69 c)) 10 13 (by omega)).symm)
  have o71 : ∀ (v : Int) (j : Nat) (k : Int), j ≠ 71 → setA γ 71 x v j k = γ j k := fun v j k q => by rw [stA, if_neg (by omega)]
  refine pc_c (fun _ => pc_c (fun _ => pc_c (fun _ => pc_a (pc_i (fun _ => pc_i (fun _ => b56 _ _ (fun k => o71 (γ 71 x + 1) 75 k (by omega)) (o71 (γ 71 x + 1) 10 11 (by omega)) (fun q => Int.le_trans q (Int.le_of_eq (o71 (γ 71 x + 1) 10 13 (by omega)).symm))) (fun _ => pc_b (note_pc tx.1.1) (fun r2 γ3 w3 => b56 _ _ (fun k => ?_) ?_ (fun _ => w3.1)))) (fun _ => pc_s (fun _ => ht.fr (fun k => o71 (γ 71 x + 1) 75 k (by omega)) (o71 (γ 71 x + 1) 10 11 (by omega)) (fun q => Int.le_trans q (Int.le_of_eq (o71 (γ 71 x + 1) 10 13 (by omega)).symm))))))))
  · have w4 : γ3 75 k = _ := w3.2 75 k (by omega)
    rw [w4]; exact o71 (γ 71 x + 1) 75 k (by omega)
  · have w4 : γ3 10 11 = _ := w3.2 10 11 (by omega)
    rw [w4]; exact o71 (γ 71 x + 1) 10 11 (by omega)
theorem t_sort_L81 {γ0 : St} {S : Int} {k60 : St → Int → Int → Option (Int × St)} {Q : Int × St → Prop} {r : Int} {γs : St} (hX : SdX γ0 S) (hS : γ0 8 5 = S) (hr : 0 ≤ r ∧ r < S) (hQ : ∀ γ, SoI γ0 S γ → TpO γ0 γ → VsP S γs γ → wp (k60 γ S (r + 1)) Q) : ∀ (n : Nat) (γ : St) (i : Int), OdI γ0 S γ → TpO γ0 γ → VsP S γs γ → 0 ≤ i → i + Mu S γ ≤ 4 * S → 4 * S - i < n → 0 < n → wp (f_Od_sort_L81 (f_Od_sort_b116 k60) n γ S r i) Q := by
  have hS1 := hX.1
  intro n
  induction n with
  | zero => intro γ i h h0 h1 h3 h4 h5 h6; exact absurd h6 (by omega)
  | succ n ih =>
    intro γ i h h0 h1 h3 h4 h5 h6
    have m1 := h.mu1 hX
    have cnt := h.2.1.cnt hX.1.1
    have pp := h.2.1.2.1
    unfold f_Od_sort_L81
    have hE : γ 10 10 = 0 → wp (f_Od_sort_b116 k60 γ S r) Q := fun q => by
      unfold f_Od_sort_b116
      exact wp_chk (by omega) (hQ γ ⟨h, q⟩ h0 h1)
    have p0 := h.2.1.1.2.1
    refine wp_ite (fun c => hE (by omega)) (fun c => wp_chk (by omega) (wp_ite (fun c2 => by omega) (fun c2 => ?_)))
    refine wp_chk (by omega) (wp_chk (by omega) (wp_bnd (wp_pc (w_advance hX h hS (by omega)) (t_advance hX h hS (by omega) h0)) (fun r2 γ2 q => wp_chk (by omega) ?_)))
    obtain ⟨⟨q1, q2, q3, q4⟩, q5⟩ := q
    have q2 : Mu S γ2 + 1 ≤ Mu S γ := q2
    exact ih γ2 (i + 1) q1 (q5 q1) (fun s r1 r2 r3 => q4 s r1 r2 (h1 s r1 r2 r3)) (by omega) (by omega) (by omega) (by omega)
set_option maxHeartbeats 1000000 in
theorem t_sort_L60 {γ0 : St} {S : Int} (hX : SdX γ0 S) (hS : γ0 8 5 = S) : ∀ (n : Nat) (γ : St) (r : Int), SoI γ0 S γ → TpO γ0 γ → (∀ s, 0 ≤ s → s < r → γ 69 s ≠ 0) → 0 ≤ r → r ≤ S → S - r < n → wp (f_Od_sort_L60 n γ S r) (fun z => TpO γ0 z.2) := by
  have hS1 := hX.1
  have := FU_v
  intro n
  induction n with
  | zero => intro γ r h h0 h1 h2 h3 h4; exfalso; omega
  | succ n ih =>
    intro γ r h h0 h1 h2 h3 h4
    have ⟨hI, hp⟩ := h
    have cnt := hI.2.1.cnt hX.1.1
    have tk := hI.2.1.tk
    have n1 := hI.2.1.1
    unfold f_Od_sort_L60
    refine wp_ite (fun c => wp_some h0) (fun c => ?_)
    have nxt : ∀ γ1, OdI γ0 S γ1 → TpO γ0 γ1 → VsP S γ γ1 → γ1 69 r ≠ 0 → Mu S γ1 ≤ 4 * S → wp (f_Od_sort_b79 (f_Od_sort_L60 n) γ1 S r) (fun z => TpO γ0 z.2) := by
      intro γ1 g1 g0 g2 g3 g5
      unfold f_Od_sort_b79
      refine t_sort_L81 (γs := γ1) hX hS (by omega) (fun γ2 a1 a0 a2 => ?_) FU γ1 0 g1 g0 (fun s _ _ q => q) (by omega) (by omega) (by omega) (by omega)
      refine ih γ2 (r + 1) a1 a0 (fun s q1 q2 => ?_) (by omega) (by omega) (by omega)
      by_cases q : s = r
      · rw [q]; exact a2 r (by omega) (by omega) g3
      · exact a2 s q1 (by omega) (g2 s q1 (by omega) (h1 s q1 (by omega)))
    refine wp_chk (by omega) (wp_ite (fun c2 => ?_) (fun c2 => ?_))
    · refine nxt γ hI h0 (fun s _ _ q => q) c2 ?_
      unfold Mu
      rw [hp, sm_nil (Int.le_refl _)]
      omega
    · have c2 : γ 69 r = 0 := by omega
      refine wp_bnd (P := fun z => OdI γ0 S z.2 ∧ z.2 69 r ≠ 0 ∧ VsP S γ z.2 ∧ Mu S z.2 ≤ 4 * S ∧ TpO γ0 z.2) ?_ (fun r2 γ2 q => ?_)
      · have tT := hI.2.2.1.1
        refine wp_mono (wp_pc (opn_eq (by omega) (by omega) ?_ (by omega)) open_r) (fun z s34 => ?_)
        · have t0 : γ 10 9 = 0 := by
            rcases Int.lt_or_le 0 (γ 10 9) with v | v
            · have y := tT 0 (by omega) v
              obtain ⟨i, p1, p2, _, _⟩ := hI.2.2.2.1.2.2.2.1 _ y.1.1 y.1.2 y.2
              omega
            · omega
          omega
        · obtain ⟨s3, so⟩ := s34
          have s4 : ∀ j k, z.2 j k = if j = 10 ∧ k = 10 then γ 10 10 + 1 else if j = 73 ∧ k = γ 10 10 then r else if j = 10 ∧ k = 9 then γ 10 9 + 1 else if j = 72 ∧ k = γ 10 9 then r else if j = 71 ∧ k = r then 0 else if j = 70 ∧ k = r then γ 10 8 + 1 else if j = 69 ∧ k = r then γ 10 8 + 1 else if j = 10 ∧ k = 8 then γ 10 8 + 1 else if j = 71 ∧ 0 < γ 10 10 ∧ k = γ 73 (γ 10 10 - 1) then γ 71 k + 1 else γ j k := fun j k => by
            rw [s3, if_neg (c := j = 71 ∧ 0 < γ 10 10 ∧ k = γ 73 (γ 10 10 - 1)) (by omega)]
          have a := hI.opn hX (by omega) c2 (Or.inl hp) s4
          have cn2 := a.2.1.cnt hX.1.1
          refine ⟨a, by rw [s4]; simp; omega, fun s q1 q2 q3 => ?_, ?_, h0.fr so.1 so.2.1 (fun q => Int.le_trans q (Int.le_of_eq so.2.2.symm))⟩
          · by_cases q : s = r
            · rw [s4, q]; simp; omega
            · rw [s4]; simp [q]; exact q3
          · have u10 : z.2 10 10 = 1 := by rw [s4]; simp; omega
            have u8 : z.2 10 8 = γ 10 8 + 1 := by rw [s4]; simp
            have u73 : z.2 73 0 = r := by rw [s4, hp]; simp
            have u71 : z.2 71 r = 0 := by rw [s4]; simp
            unfold Mu
            have one := sm_succ (f := fun i => 4 - z.2 71 (z.2 73 i)) (a := 0) (b := 0) (Int.le_refl _)
            rw [sm_nil (Int.le_refl _), show (0 : Int) + 1 = 1 by omega] at one
            have one2 : sm (fun i => 4 - z.2 71 (z.2 73 i)) 0 1 = 0 + (4 - z.2 71 (z.2 73 0)) := one
            rw [u10, u8, one2, u73, u71]
            omega
      · exact nxt γ2 q.1 q.2.2.2.2 q.2.2.1 q.2.1 q.2.2.2.1
theorem t_sort {γ : St} {V : Int} (h : LdI γ V) : wp (f_Od_sort γ) (fun z => TpO γ z.2) := by
  have hX := h.sd
  have ⟨a1, a2, a3, a4, a5, a6⟩ := h
  have := FU_v
  unfold f_Od_sort
  refine wp_sub (wp_chk (by omega) (wp_sub (wp_chk (by omega) (wp_sub (wp_sub (wp_sub (wp_sub (wp_sub (wp_sub (wp_sub ?_))))))))))
  generalize hS : γ 8 5 = S at *
  generalize hh : setA _ 10 13 (-1) = γ1
  have s1 : ∀ j k, γ1 j k = if j = 10 ∧ k = 13 then -1 else if j = 10 ∧ (k = 8 ∨ k = 9 ∨ k = 10 ∨ k = 11 ∨ k = 12) then 0 else if (j = 74 ∨ j = 69) ∧ 0 ≤ k ∧ k < S then 0 else γ j k := fun j k => by
    rw [← hh]
    clear a5 a6 hX h
    simp only [stA, flA]
    grind (splits := 40)
  have z69 : ∀ k, 0 ≤ k → k < S → γ1 69 k = 0 := fun k q1 q2 => by rw [s1]; simp [q1, q2]
  have c8 : γ1 10 8 = 0 := by rw [s1]; simp
  have c9 : γ1 10 9 = 0 := by rw [s1]; simp
  have c10 : γ1 10 10 = 0 := by rw [s1]; simp
  have c11 : γ1 10 11 = 0 := by rw [s1]; simp
  have c13 : γ1 10 13 = -1 := by rw [s1]; simp
  have zw : ∀ w, sm (cnW γ1 w) 0 S = 0 := fun w => sm_z (fun i q1 q2 => by unfold cnW; rw [if_neg (by rw [z69 i q1 q2]; omega)])
  have no : ∀ s, 0 ≤ s → s < S → ¬ Opn γ1 S s := fun s q1 q2 q => by have := q.1; rw [z69 s q1 q2] at this; omega
  have hI : SoI γ S γ1 := by
    refine ⟨⟨fun j k q1 q2 => ?_, ?_, ?_, ?_, ?_⟩, c10⟩
    · rw [s1, if_neg (by omega), if_neg (by omega), if_neg (by omega)]
    · refine ⟨by omega, by omega, by rw [c8, zw], fun w => by rw [zw, c11, c9, sm_nil (Int.le_refl _), sm_nil (Int.le_refl _)]; rfl, fun s q1 q2 => Or.inl (z69 s q1 q2), fun i q1 q2 => by omega⟩
    · exact ⟨fun i q1 q2 => by omega, fun i j q1 q2 q3 => by omega, fun s q1 q2 q3 => absurd q3 (no s q1 q2), fun i q1 q2 => by omega, fun i j q1 q2 q3 => by omega, fun i q1 q2 => by omega⟩
    · exact ⟨fun x q1 q2 q3 => absurd (z69 x q1 q2) q3, fun x q1 q2 q3 => by rw [z69 x q1 q2] at q3; omega, fun x q1 q2 q3 => absurd q3 (no x q1 q2), fun x q1 q2 q3 => absurd q3 (no x q1 q2), fun x i q1 q2 q3 => absurd q3 (no x q1 q2), fun x q1 q2 q3 => absurd q3 (no x q1 q2)⟩
    · exact ⟨by omega, fun q => by omega, fun s q1 q2 q3 => by rw [z69 s q1 q2] at q3; omega, fun x j q1 q2 q3 => absurd (z69 x q1 q2) q3⟩
  exact t_sort_L60 hX hS FU γ1 0 hI (Or.inr (fun k q1 q2 => by exfalso; omega)) (fun s q1 q2 => by omega) (by omega) (by omega) (by omega)
/-- the position of a slot -/
theorem SrI.pos {γ : St} {V S : Int} (h : SrI γ V S) {s : Int} (s0 : 0 ≤ s) (s1 : s < S) : ∃ k, 0 ≤ k ∧ k < S ∧ γ 75 k = s := by
  have e := h.2.2.1 (idK s)
  have g : idK s s ≤ sm (idK s) 0 S := sm_ge s0 s1 (fun k _ _ => idK_b s k)
  rw [idK_s] at g
  obtain ⟨k, k1, k2, k3⟩ := sm_ex (f := fun i => idK s (γ 75 i)) (n := S) (by omega)
  exact ⟨k, k1, k2, idK_e k3⟩
theorem sm_two {f : Int → Int} {n i j : Int} (h0 : 0 ≤ i) (h1 : i < j) (h2 : j < n) (hf : ∀ k, 0 ≤ k → k < n → 0 ≤ f k) (fi : f i = 1) (fj : f j = 1) : 2 ≤ sm f 0 n := by
  have a := sm_ge (f := f) (a := 0) (b := j) h0 h1 (fun k q1 q2 => hf k q1 (by omega))
  have b := sm_succ (f := f) (a := 0) (b := j) (by omega)
  have x : ∀ m : Nat, j + 1 + m ≤ n → sm f 0 (j + 1) ≤ sm f 0 (j + 1 + m) := by
    intro m
    induction m with
    | zero => intro _; rw [show j + 1 + ((0 : Nat) : Int) = j + 1 by omega]; omega
    | succ m ih =>
      intro hm
      have := ih (by omega)
      have := hf (j + 1 + m) (by omega) (by omega)
      rw [show j + 1 + ((m + 1 : Nat) : Int) = j + 1 + m + 1 by omega, sm_succ (f := f) (a := 0) (b := j + 1 + m) (by omega)]
      omega
  have := x (n - j - 1).toNat (by omega)
  rw [show j + 1 + (((n - j - 1).toNat : Nat) : Int) = n by omega] at this
  omega
theorem SrI.inj {γ : St} {V S : Int} (h : SrI γ V S) {i j : Int} (i0 : 0 ≤ i) (i1 : i < S) (j0 : 0 ≤ j) (j1 : j < S) (e : γ 75 i = γ 75 j) : i = j := by
  have b := h.2.1 i i0 i1
  have c := h.2.2.1 (idK (γ 75 i))
  have one : sm (idK (γ 75 i)) 0 S = 1 := by
    have u := sm_upd (f := idK (γ 75 i)) (g := fun _ => 0) (n := S) (c := γ 75 i) b.1 b.2 (fun k _ _ q => idK_n q)
    have z : sm (fun _ => (0 : Int)) 0 S = 0 := sm_z (fun _ _ _ => rfl)
    rw [u, z, idK_s]; rfl
  have nn : ∀ k, 0 ≤ k → k < S → 0 ≤ (fun i' => idK (γ 75 i) (γ 75 i')) k := fun k _ _ => idK_b _ _
  rcases Int.lt_or_le i j with q | q
  · have := sm_two (f := fun i' => idK (γ 75 i) (γ 75 i')) i0 q j1 nn (idK_s _) (by show idK (γ 75 i) (γ 75 j) = 1; rw [← e]; exact idK_s _)
    omega
  · by_cases q2 : j = i
    · exact q2.symm
    · have := sm_two (f := fun i' => idK (γ 75 i) (γ 75 i')) j0 (show j < i by omega) i1 nn (by show idK (γ 75 i) (γ 75 j) = 1; rw [← e]; exact idK_s _) (idK_s _)
      omega
