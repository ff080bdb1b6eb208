/-! the class's program: clocks, build -/
theorem slotOfC_eq {γ : St} {a V : Int} (h1 : 1 ≤ a) (h2 : a ≤ 2 * V) (hV : V ≤ 6000) : f_Sl_slotOfC γ a = some ((a - 1) / 2, γ) := by
  unfold f_Sl_slotOfC
  rw [if_pos (by omega), ishr_1 (by omega)]
  exact some_wp (wp_chk (by omega) (wp_some rfl))
/-- a state with other rows 83 to 87, and the count of clocks -/
def FrB (γb γ : St) : Prop := ∀ j k, (j ≠ 11 ∨ k ≠ 17) → (j < 83 ∨ 87 < j) → γ j k = γb j k
def ClX (γ : St) (V : Int) : Prop := (0 ≤ V ∧ V ≤ 6000) ∧ γ 8 8 = V ∧ (0 ≤ γ 8 11 ∧ γ 8 11 ≤ 6000) ∧ (∀ s, 0 ≤ s → s < V → 0 ≤ γ 59 s ∧ γ 59 s ≤ 2 * V) ∧ (∀ i, 0 ≤ i → i < γ 8 11 → 0 ≤ γ 62 i ∧ γ 62 i ≤ 2 * V) ∧ ∀ s, 0 ≤ s → s < 9001 → 0 ≤ γ 78 s ∧ γ 78 s < 9001
def Rw4 (γ : St) : Prop := ∀ i, 0 ≤ i → i < 12001 → (0 ≤ γ 84 i ∧ γ 84 i < 12001) ∧ 0 ≤ γ 85 i ∧ γ 85 i < 9001
/-- the clocks are numbered -/
def NcP (γb : St) (V : Int) (γ : St) : Prop := FrB γb γ ∧ Rw4 γ ∧ (∀ c, 0 ≤ c → c ≤ 2 * V → 0 ≤ γ 83 c ∧ γ 83 c < 12001) ∧ 1 ≤ γ 11 17 ∧ γ 11 17 ≤ 12001
theorem w_nc_L18 {γb : St} {V : Int} (hx : ClX γb V) : ∀ (n : Nat) (γ : St) (l i : Int), NcP γb V γ → 0 ≤ l → l < i → 1 ≤ i → i ≤ 2 * V + 1 → 2 * V + 1 - i < n → wp (f_Pg_numberClocks_L18 n γ (2 * V + 1) l i) (fun z => NcP γb V z.2) := by
  have ⟨x1, x2, x3, x4, x5, x6⟩ := hx
  intro n
  induction n with
  | zero => intro γ l i h h1 h2 h3 h4 h5; exfalso; omega
  | succ n ih =>
    intro γ l i h h1 h2 h3 h4 h5
    have ⟨hF, hR, h83, h17⟩ := h
    unfold f_Pg_numberClocks_L18
    refine wp_ite (fun _ => wp_some h) (fun c => wp_chk (by omega) (wp_ite (fun c2 => ?_) (fun c2 => ?_)))
    · unfold f_Pg_numberClocks_b94
      exact wp_chk (by omega) (ih γ l (i + 1) h h1 (by omega) (by omega) (by omega) (by omega))
    · refine wp_chk (by omega) (wp_chk (by omega) (wp_sub (wp_bs (slotOfC_eq (V := V) h3 (by omega) x1.2) ?_)))
      have b59 : setA γ 83 i (l + 1) 59 ((i - 1) / 2) = γb 59 ((i - 1) / 2) := by rw [stA, if_neg (by omega)]; exact hF 59 _ (by omega) (by omega)
      have z := x4 ((i - 1) / 2) (by omega) (by omega)
      have w := x6 ((i - 1) / 2) (by omega) (by omega)
      rw [b59]
      have a83 : 0 ≤ setA γ 83 i (l + 1) 83 (γb 59 ((i - 1) / 2)) ∧ setA γ 83 i (l + 1) 83 (γb 59 ((i - 1) / 2)) < 12001 := by
        rw [stA]
        split
        · omega
        · exact h83 _ z.1 z.2
      generalize hv : setA γ 83 i (l + 1) 83 (γb 59 ((i - 1) / 2)) = v at *
      refine wp_chk (by omega) (wp_chk (by omega) (wp_chk (by omega) (wp_sub (wp_chk (by omega) (wp_chk (by omega) (wp_sub (wp_chk (by omega) (wp_chk (by omega) (wp_sub ?_)))))))))
      have b78 : setA (setA γ 83 i (l + 1)) 84 (l + 1) v 78 ((i - 1) / 2) = γb 78 ((i - 1) / 2) := by rw [stA, if_neg (by omega), stA, if_neg (by omega)]; exact hF 78 _ (by omega) (by omega)
      rw [b78]
      generalize hh : setA _ 86 _ _ = γ2
      have u : ∀ j k, γ2 j k = if j = 86 ∧ k = l + 1 then iand (i - 1) 1 else if j = 85 ∧ k = l + 1 then γb 78 ((i - 1) / 2) else if j = 84 ∧ k = l + 1 then v else if j = 83 ∧ k = i then l + 1 else γ j k := fun j k => by rw [← hh, stA, stA, stA, stA]
      unfold f_Pg_numberClocks_b94
      refine wp_chk (by omega) (ih γ2 (l + 1) (i + 1) ⟨fun j k q1 q2 => ?_, fun k q1 q2 => ?_, fun k q1 q2 => ?_, ?_⟩ (by omega) (by omega) (by omega) (by omega) (by omega))
      · rw [u, if_neg (by omega), if_neg (by omega), if_neg (by omega), if_neg (by omega)]; exact hF j k q1 q2
      · by_cases q : k = l + 1
        · rw [u 84, u 85, q]; simp; omega
        · rw [u 84, u 85]; simp [q]; have := hR k q1 q2; omega
      · by_cases q : k = i
        · rw [u, q]; simp; omega
        · rw [u]; simp [q]; exact h83 k q1 q2
      · rw [u]; simp; exact h17
theorem w_numberClocks {γb γ : St} {V : Int} (hx : ClX γb V) (h : NcP γb V γ) : wp (f_Pg_numberClocks γ (2 * V + 1)) (fun z => NcP γb V z.2) := by
  have ⟨x1, x2, x3, x4, x5, x6⟩ := hx
  have ⟨hF, hR, h83, h17⟩ := h
  have := FU_v
  unfold f_Pg_numberClocks
  refine wp_chk (by omega) (wp_sub (wp_chk (by omega) (wp_sub ?_)))
  have u : ∀ j k, setA (setA γ 83 0 0) 87 0 1 j k = if j = 87 ∧ k = 0 then 1 else if j = 83 ∧ k = 0 then 0 else γ j k := fun j k => by rw [stA, stA]
  generalize setA (setA γ 83 0 0) 87 0 1 = γ2 at *
  refine w_nc_L18 hx FU γ2 0 1 ⟨fun j k q1 q2 => ?_, fun k q1 q2 => ?_, fun k q1 q2 => ?_, ?_⟩ (by omega) (by omega) (by omega) (by omega) (by omega)
  · rw [u, if_neg (by omega), if_neg (by omega)]; exact hF j k q1 q2
  · rw [u 84, u 85]; simp; have := hR k q1 q2; omega
  · rw [u]
    by_cases q : k = 0
    · rw [if_neg (by omega), if_pos ⟨rfl, q⟩]; omega
    · rw [if_neg (by omega), if_neg (fun r => q r.2)]; exact h83 k q1 q2
  · rw [u]; simp; exact h17
/-- the clocks that are used are marked -/
def MkP (γb : St) (V : Int) (γ : St) : Prop := FrB γb γ ∧ Rw4 γ ∧ ∀ c, 0 ≤ c → c ≤ 2 * V → 0 ≤ γ 83 c ∧ γ 83 c ≤ 1
theorem MkP.set {γb γ : St} {V i : Int} (h : MkP γb V γ) : MkP γb V (setA γ 83 i 1) := by
  have ⟨hF, hR, h83⟩ := h
  refine ⟨fun j k q1 q2 => by rw [stA, if_neg (by omega)]; exact hF j k q1 q2, fun k q1 q2 => by rw [stA, if_neg (by omega), stA, if_neg (by omega)]; exact hR k q1 q2, fun k q1 q2 => ?_⟩
  rw [stA]
  split
  · omega
  · exact h83 k q1 q2
theorem w_bc_L97 {γb : St} {V : Int} (hx : ClX γb V) : ∀ (n : Nat) (γ : St) (i : Int), MkP γb V γ → 1 ≤ i → i ≤ 2 * V + 1 → (1 ≤ γ 11 17 ∧ γ 11 17 ≤ i) → 2 * V + 1 - i < n → wp (f_Pg_buildClocks_L97 f_Pg_buildClocks_b123 n γ (2 * V + 1) i) (fun z => NcP γb V z.2) := by
  have ⟨x1, x2, x3, x4, x5, x6⟩ := hx
  intro n
  induction n with
  | zero => intro γ i h h1 h2 h3 h4; exfalso; omega
  | succ n ih =>
    intro γ i h h1 h2 h3 h4
    have ⟨hF, hR, h83⟩ := h
    unfold f_Pg_buildClocks_L97
    refine wp_ite (fun c => ?_) (fun c => ?_)
    · unfold f_Pg_buildClocks_b123
      exact wp_bnd (w_numberClocks hx ⟨hF, hR, fun k q1 q2 => by have := h83 k q1 q2; omega, by omega⟩) (fun r γ2 q => wp_some q)
    · have z := h83 i (by omega) (by omega)
      refine wp_chk (by omega) (wp_chk (by omega) (wp_sub (wp_chk (by omega) ?_)))
      refine ih _ (i + 1) ⟨fun j k q1 q2 => by rw [stA, if_neg (by omega)]; exact hF j k q1 q2, fun k q1 q2 => by rw [stA, if_neg (by omega), stA, if_neg (by omega)]; exact hR k q1 q2, fun k q1 q2 => by rw [stA, if_neg (by omega)]; exact h83 k q1 q2⟩ (by omega) (by omega) (by rw [stA, if_pos ⟨rfl, rfl⟩]; omega) (by omega)
theorem w_bc_L58 {γb : St} {V : Int} (hx : ClX γb V) : ∀ (n : Nat) (γ : St) (i : Int), MkP γb V γ → 0 ≤ i → i ≤ γb 8 11 → γb 8 11 - i < n → wp (f_Pg_buildClocks_L58 f_Pg_buildClocks_b90 n γ (2 * V + 1) i) (fun z => NcP γb V z.2) := by
  have ⟨x1, x2, x3, x4, x5, x6⟩ := hx
  have := FU_v
  intro n
  induction n with
  | zero => intro γ i h h1 h2 h3; exfalso; omega
  | succ n ih =>
    intro γ i h h1 h2 h3
    have ⟨hF, hR, h83⟩ := h
    unfold f_Pg_buildClocks_L58
    rw [hF 8 11 (by omega) (by omega)]
    refine wp_ite (fun c => ?_) (fun c => ?_)
    · unfold f_Pg_buildClocks_b90
      refine wp_sub (w_bc_L97 hx FU _ 1 ⟨fun j k q1 q2 => by rw [stA, if_neg (by omega)]; exact hF j k q1 q2, fun k q1 q2 => by rw [stA, if_neg (by omega), stA, if_neg (by omega)]; exact hR k q1 q2, fun k q1 q2 => by rw [stA, if_neg (by omega)]; exact h83 k q1 q2⟩ (by omega) (by omega) (by rw [stA, if_pos ⟨rfl, rfl⟩]; omega) (by omega))
    · have z := x5 i h1 (by omega)
      rw [hF 62 i (by omega) (by omega)]
      exact wp_chk (by omega) (wp_chk (by omega) (wp_sub (wp_chk (by omega) (ih _ (i + 1) h.set (by omega) (by omega) (by omega)))))
theorem w_bc_L24 {γb : St} {V : Int} (hx : ClX γb V) : ∀ (n : Nat) (γ : St) (i : Int), MkP γb V γ → 0 ≤ i → i ≤ V → V - i < n → wp (f_Pg_buildClocks_L24 f_Pg_buildClocks_b56 n γ (2 * V + 1) i) (fun z => NcP γb V z.2) := by
  have ⟨x1, x2, x3, x4, x5, x6⟩ := hx
  have := FU_v
  intro n
  induction n with
  | zero => intro γ i h h1 h2 h3; exfalso; omega
  | succ n ih =>
    intro γ i h h1 h2 h3
    have ⟨hF, hR, h83⟩ := h
    unfold f_Pg_buildClocks_L24
    rw [hF 8 8 (by omega) (by omega), x2]
    refine wp_ite (fun c => ?_) (fun c => ?_)
    · unfold f_Pg_buildClocks_b56
      exact w_bc_L58 hx FU γ 0 h (by omega) (by omega) (by omega)
    · have z := x4 i h1 (by omega)
      rw [hF 59 i (by omega) (by omega)]
      exact wp_chk (by omega) (wp_chk (by omega) (wp_sub (wp_chk (by omega) (ih _ (i + 1) h.set (by omega) (by omega) (by omega)))))
theorem w_buildClocks {γ : St} {V : Int} (hx : ClX γ V) (hR : Rw4 γ) : wp (f_Pg_buildClocks γ) (fun z => NcP γ V z.2) := by
  have ⟨x1, x2, x3, x4, x5, x6⟩ := hx
  have := FU_v
  unfold f_Pg_buildClocks
  rw [x2]
  refine wp_chk (by omega) (wp_chk (by omega) (wp_sub (wp_chk (by omega) (wp_sub ?_))))
  have u : ∀ j k, flA γ 83 0 (2 * V + 1) 0 j k = if j = 83 ∧ 0 ≤ k ∧ k < 2 * V + 1 then 0 else γ j k := fun j k => rfl
  generalize flA γ 83 0 (2 * V + 1) 0 = γ1 at *
  refine w_bc_L24 hx FU γ1 0 ⟨fun j k q1 q2 => by rw [u, if_neg (by omega)], fun k q1 q2 => by rw [u, if_neg (by omega), u, if_neg (by omega)]; exact hR k q1 q2, fun k q1 q2 => by rw [u, if_pos ⟨rfl, q1, by omega⟩]; omega⟩ (by omega) (by omega) (by omega)
/-- a program that is built -/
def PgI (γ : St) : Prop := RowI γ ∧ (0 ≤ γ 8 8 ∧ γ 8 8 ≤ 6000) ∧ (γ 8 8 + 1 ≤ γ 8 5 ∧ γ 8 5 ≤ γ 8 8 + 3001) ∧ (0 ≤ γ 8 11 ∧ γ 8 11 ≤ 6000) ∧ (0 ≤ γ 11 4 ∧ γ 11 4 ≤ 99 ∧ 0 ≤ γ 11 5 ∧ γ 11 5 ≤ 99 ∧ γ 11 5 ≤ γ 8 8) ∧ (∃ k, γ 11 9 = 6 * k ∧ 0 ≤ k ∧ k ≤ 3000) ∧ (∀ t, 0 ≤ t → 6 * t < γ 11 9 → StI γ (6 * t)) ∧ (1 ≤ γ 11 17 ∧ γ 11 17 ≤ 12001) ∧ (∀ c, 0 ≤ c → c ≤ 2 * γ 8 8 → 0 ≤ γ 83 c ∧ γ 83 c < 12001) ∧ (∀ s, 0 ≤ s → s < γ 8 8 → 0 ≤ γ 59 s ∧ γ 59 s ≤ 2 * γ 8 8) ∧ (∀ i, 0 ≤ i → i < γ 8 11 → (0 ≤ γ 61 i ∧ γ 61 i < 9001) ∧ 0 ≤ γ 62 i ∧ γ 62 i < 12001) ∧ (∀ s j, 0 ≤ s → s < γ 8 5 → 0 ≤ j → j < 3 → -1 ≤ sdV γ s j ∧ sdV γ s j < γ 8 5)
/-- what build changes -/
def FrG (γ γ' : St) : Prop := ∀ j k, j ≠ 11 → j ≠ 61 → j ≠ 62 → (j < 76 ∨ 87 < j) → γ' j k = γ j k
theorem w_bd_L20 {γb : St} {Q : Int × St → Prop} (h811 : 0 ≤ γb 8 11 ∧ γb 8 11 ≤ 6000) (hR : RowI γb) {V : Int} (hV : 0 ≤ V ∧ V ≤ 6000) (h83 : ∀ c, 0 ≤ c → c ≤ 2 * V → 0 ≤ γb 83 c ∧ γb 83 c < 12001) (hc : ∀ i, 0 ≤ i → i < γb 8 11 → (0 ≤ γb 61 i ∧ γb 61 i < 9001) ∧ 0 ≤ γb 62 i ∧ γb 62 i ≤ 2 * V) (hQ : ∀ γ, (∀ j k, j ≠ 61 → j ≠ 62 → j ≠ 81 → γ j k = γb j k) → (∀ i, 0 ≤ i → i < γb 8 11 → (0 ≤ γ 61 i ∧ γ 61 i < 9001) ∧ 0 ≤ γ 62 i ∧ γ 62 i < 12001) → Q (0, γ)) : ∀ (n : Nat) (γ : St) (i : Int), (∀ j k, j ≠ 61 → j ≠ 62 → j ≠ 81 → γ j k = γb j k) → (∀ k, 0 ≤ k → k < i → (0 ≤ γ 61 k ∧ γ 61 k < 9001) ∧ 0 ≤ γ 62 k ∧ γ 62 k < 12001) → (∀ k, i ≤ k → γ 61 k = γb 61 k ∧ γ 62 k = γb 62 k) → 0 ≤ i → i ≤ γb 8 11 → γb 8 11 - i < n → wp (f_Pg_build_L20 f_Pg_build_b83 n γ i) Q := by
  intro n
  induction n with
  | zero => intro γ i h1 h2 h3 h4 h5 h6; exfalso; omega
  | succ n ih =>
    intro γ i h1 h2 h3 h4 h5 h6
    unfold f_Pg_build_L20
    have e := h1 8 11 (by omega) (by omega) (by omega)
    rw [e]
    refine wp_ite (fun c => ?_) (fun c => ?_)
    · unfold f_Pg_build_b83 f_Pg_clear
      rw [e]
      refine wp_bnd (P := fun z => ∀ j k, j ≠ 81 → z.2 j k = γ j k) (wp_chk (by omega) (wp_sub (wp_some (fun j k q => ?_)))) (fun r γ2 q => wp_some (hQ γ2 (fun j k q1 q2 q3 => (q j k q3).trans (h1 j k q1 q2 q3)) (fun k q1 q2 => ?_)))
      · show (if _ then _ else _) = _
        rw [if_neg (by omega)]
      · have q : ∀ j k, j ≠ 81 → γ2 j k = γ j k := q
        rw [q 61 k (by omega), q 62 k (by omega)]
        exact h2 k q1 (by omega)
    · have z := hc i h4 (by omega)
      have y := h3 i (Int.le_refl _)
      rw [y.1]
      have m := hR.1 (γb 61 i) z.1.1 z.1.2
      have w := h83 (γb 62 i) z.2.1 z.2.2
      rw [h1 78 _ (by omega) (by omega) (by omega)]
      refine wp_chk (by omega) (wp_chk (by omega) (wp_chk (by omega) (wp_sub (wp_chk (by omega) ?_))))
      have v62 : setA γ 61 i (γb 78 (γb 61 i)) 62 i = γb 62 i := by rw [stA, if_neg (by omega)]; exact y.2
      have v83 : setA γ 61 i (γb 78 (γb 61 i)) 83 (γb 62 i) = γb 83 (γb 62 i) := by rw [stA, if_neg (by omega)]; exact h1 83 _ (by omega) (by omega) (by omega)
      rw [v62, v83]
      refine wp_chk (by omega) (wp_chk (by omega) (wp_sub (wp_chk (by omega) ?_)))
      have u : ∀ j k, setA (setA γ 61 i (γb 78 (γb 61 i))) 62 i (γb 83 (γb 62 i)) j k = if j = 62 ∧ k = i then γb 83 (γb 62 i) else if j = 61 ∧ k = i then γb 78 (γb 61 i) else γ j k := fun j k => by rw [stA, stA]
      generalize setA (setA γ 61 i (γb 78 (γb 61 i))) 62 i (γb 83 (γb 62 i)) = γ2 at *
      refine ih γ2 (i + 1) (fun j k q1 q2 q3 => by rw [u, if_neg (by omega), if_neg (by omega)]; exact h1 j k q1 q2 q3) (fun k q1 q2 => ?_) (fun k q => by rw [u 61, u 62, if_neg (by omega), if_neg (by omega), if_neg (by omega), if_neg (by omega)]; exact h3 k (by omega)) (by omega) (by omega) (by omega)
      by_cases q : k = i
      · rw [u 61, u 62, q]; simp; omega
      · rw [u 61, u 62]; simp [q]; have := h2 k q1 (by omega); omega
theorem op_le {γ : St} {V S : Int} (hL : LdI γ V) (hS : S = γ 8 5) : sm (opW γ) 0 S ≤ 3000 := by
  have ⟨l1, l2, l3, l4, l5, l6⟩ := hL
  have z0 : sm (opW γ) 0 (V + 1) = 0 := by
    have x : ∀ m : Nat, (m : Int) ≤ V + 1 → sm (opW γ) 0 m = 0 := by
      intro m
      induction m with
      | zero => intro _; exact sm_nil (by omega)
      | succ m ih =>
        intro hm
        have y := l5 m (by omega) (by omega)
        have o : opW γ m = 0 := by
          unfold opW
          by_cases q : (m : Int) < V
          · rw [if_pos (y.2.2.2.1 q).1]
          · have := y.2.2.2.2.1 (by omega)
            rw [if_neg (by omega), if_pos this]
        rw [show ((m + 1 : Nat) : Int) = (m : Int) + 1 by omega, sm_succ (by omega), ih (by omega), o]
        rfl
    have := x (V + 1).toNat (by omega)
    rw [show (((V + 1).toNat : Nat) : Int) = V + 1 by omega] at this
    exact this
  have x : ∀ m : Nat, V + 1 + m ≤ S → sm (opW γ) 0 (V + 1 + m) ≤ m := by
    intro m
    induction m with
    | zero => intro _; rw [show V + 1 + ((0 : Nat) : Int) = V + 1 by omega, z0]; omega
    | succ m ih =>
      intro hm
      have := ih (by omega)
      have := opW_b γ (V + 1 + m)
      rw [show V + 1 + ((m + 1 : Nat) : Int) = V + 1 + m + 1 by omega, sm_succ (by omega)]
      omega
  have := x (S - V - 1).toNat (by omega)
  rw [show V + 1 + (((S - V - 1).toNat : Nat) : Int) = S by omega] at this
  omega
set_option maxHeartbeats 1000000 in
theorem w_build {γ : St} {V a0 a1 : Int} (hL : LdI γ V) (hS : SrI γ V (γ 8 5)) (hR : RowI γ) (h0 : 0 ≤ a0 ∧ a0 ≤ 99) (h1 : 0 ≤ a1 ∧ a1 ≤ 99 ∧ a1 ≤ V) : wp (f_Pg_build γ a0 a1) (fun z => PgI z.2 ∧ FrG γ z.2 ∧ z.2 11 5 = a1 ∧ z.2 11 4 = a0) := by
  have ⟨l1, l2, l3, l4, l5, l6⟩ := hL
  have := FU_v
  have hX := hL.sd
  unfold f_Pg_build
  refine wp_sub (wp_sub ?_)
  have u : ∀ j k, setA (setA γ 11 4 a0) 11 5 a1 j k = if j = 11 ∧ k = 5 then a1 else if j = 11 ∧ k = 4 then a0 else γ j k := fun j k => by rw [stA, stA]
  generalize setA (setA γ 11 4 a0) 11 5 a1 = γ1 at *
  have uo : ∀ j k, j ≠ 11 → γ1 j k = γ j k := fun j k q => by rw [u, if_neg (by omega), if_neg (by omega)]
  have hL1 : LdI γ1 V := by
    refine ⟨l1, by rw [uo 8 5 (by omega)]; exact l2, by rw [uo 8 8 (by omega)]; exact l3, by rw [uo 8 11 (by omega)]; exact l4, fun s q1 q2 => ?_, fun i q1 q2 => ?_⟩
    · rw [uo 8 5 (by omega)] at q2
      exact (l5 s q1 q2).up (fun j _ _ => uo j s (by omega)) (Int.le_of_eq (uo 8 5 (by omega)).symm) (Int.le_of_eq (uo 8 11 (by omega)).symm)
    · rw [uo 8 11 (by omega)] at q2
      rw [uo 61 i (by omega), uo 62 i (by omega), uo 8 5 (by omega)]
      exact l6 i q1 q2
  have e85 := uo 8 5 (by omega)
  have hS1 : SrI γ1 V (γ1 8 5) := by
    have ⟨a, b, c, d, e, f⟩ := hS
    rw [e85]
    refine ⟨by rw [uo 10 11 (by omega)]; exact a, fun i q1 q2 => by rw [uo 75 i (by omega)]; exact b i q1 q2, fun w => ?_, fun k q1 q2 => by rw [uo 74 k (by omega)]; exact d k q1 q2, by rw [uo 10 12 (by omega)]; exact e, by rw [uo 10 13 (by omega)]; exact f⟩
    rw [show (fun i => w (γ1 75 i)) = (fun i => w (γ 75 i)) from funext fun i => by rw [uo 75 i (by omega)]]
    exact c w
  have hop : sm (fun k => opW γ1 (γ1 75 k)) 0 (γ1 8 5) ≤ 3000 := by
    rw [hS1.2.2.1 (opW γ1)]
    exact op_le hL1 rfl
  unfold f_Pg_buildSteps
  refine wp_bnd (P := fun z => BsI γ1 V z.2 (γ1 8 5)) (wp_sub (w_bs_L7 hL1 hS1 hop FU _ 0 ⟨fun j k q1 q2 => by rw [stA, if_neg (by omega)], ⟨fun x q1 q2 => by rw [stA, if_neg (by omega), uo 78 x (by omega)]; exact hR.1 x q1 q2, fun x q1 q2 => by rw [stA, if_neg (by omega), stA, if_neg (by omega), uo 84 x (by omega), uo 85 x (by omega)]; exact hR.2 x q1 q2⟩, by rw [stA, if_pos ⟨rfl, rfl⟩, sm_nil (Int.le_refl _)]; rfl, fun j k q1 q2 => by rw [stA, if_neg (by omega)], fun j k q1 q2 q3 => by rw [stA, if_neg (by omega)], fun t q1 q2 => by rw [stA, if_pos ⟨rfl, rfl⟩] at q2; omega⟩ (by omega) (by omega) (by omega))) (fun r γ2 q => ?_)
  obtain ⟨b1, b2, b3, b4, b5, b6⟩ := q
  have b1 : FrP γ1 γ2 := b1
  have b2 : RowI γ2 := b2
  have b3 : γ2 11 9 = 6 * sm (fun k => opW γ1 (γ1 75 k)) 0 (γ1 8 5) := b3
  have b4 : ∀ j k, j = 11 → k ≠ 9 → γ2 j k = γ1 j k := b4
  have b6 : ∀ t, 0 ≤ t → 6 * t < γ2 11 9 → StI γ2 (6 * t) := b6
  have g2 : ∀ j k, j ≠ 11 → (j < 76 ∨ 87 < j) → γ2 j k = γ j k := fun j k q1 q2 => by rw [b1 j k q1 q2]; exact uo j k q1
  have hC : ClX γ2 V := by
    refine ⟨l1, by rw [g2 8 8 (by omega) (by omega)]; exact l3, by rw [g2 8 11 (by omega) (by omega)]; exact l4, fun s q1 q2 => ?_, fun i q1 q2 => ?_, b2.1⟩
    · rw [g2 59 s (by omega) (by omega)]; exact ((l5 s q1 (by omega)).2.2.2.1 q2).2
    · rw [g2 8 11 (by omega) (by omega)] at q2
      rw [g2 62 i (by omega) (by omega)]; exact (l6 i q1 q2).2
  refine wp_bnd (w_buildClocks hC b2.2) (fun r2 γ3 q => ?_)
  obtain ⟨c1, c2, c3, c4⟩ := q
  have c1 : FrB γ2 γ3 := c1
  have c3 : ∀ c, 0 ≤ c → c ≤ 2 * V → 0 ≤ γ3 83 c ∧ γ3 83 c < 12001 := c3
  have c4 : 1 ≤ γ3 11 17 ∧ γ3 11 17 ≤ 12001 := c4
  have g3 : ∀ j k, j ≠ 11 → (j < 76 ∨ 87 < j) → γ3 j k = γ j k := fun j k q1 q2 => by rw [c1 j k (by omega) (by omega)]; exact g2 j k q1 q2
  have hR3 : RowI γ3 := ⟨fun x q1 q2 => by rw [c1 78 x (by omega) (by omega)]; exact b2.1 x q1 q2, c2⟩
  have n0 := sm_nn (f := fun k => opW γ1 (γ1 75 k)) (a := 0) (b := γ1 8 5) (fun k _ _ => (opW_b γ1 _).1)
  refine w_bd_L20 (γb := γ3) (V := V) (by rw [g3 8 11 (by omega) (by omega)]; exact l4) hR3 l1 c3 (fun i q1 q2 => ?_) (fun γ4 d1 d2 => ⟨?_, ?_, ?_, ?_⟩) FU γ3 0 (fun _ _ _ _ _ => rfl) (fun k q1 q2 => by omega) (fun _ _ => ⟨rfl, rfl⟩) (by omega) (by rw [g3 8 11 (by omega) (by omega)]; omega) (by rw [g3 8 11 (by omega) (by omega)]; omega)
  · rw [g3 8 11 (by omega) (by omega)] at q2
    have := l6 i q1 q2
    rw [g3 61 i (by omega) (by omega), g3 62 i (by omega) (by omega)]
    omega
  · have k88 : γ4 8 8 = V := by rw [d1 8 8 (by omega) (by omega) (by omega), g3 8 8 (by omega) (by omega)]; exact l3
    have k85 : γ4 8 5 = γ 8 5 := by rw [d1 8 5 (by omega) (by omega) (by omega), g3 8 5 (by omega) (by omega)]
    have k811 : γ4 8 11 = γ3 8 11 := d1 8 11 (by omega) (by omega) (by omega)
    have k811' : γ3 8 11 = γ 8 11 := g3 8 11 (by omega) (by omega)
    have k114 : γ4 11 4 = a0 := by rw [d1 11 4 (by omega) (by omega) (by omega), c1 11 4 (by omega) (by omega), b4 11 4 rfl (by omega), u]; simp
    have k115 : γ4 11 5 = a1 := by rw [d1 11 5 (by omega) (by omega) (by omega), c1 11 5 (by omega) (by omega), b4 11 5 rfl (by omega), u]; simp
    have k119 : γ4 11 9 = γ2 11 9 := by rw [d1 11 9 (by omega) (by omega) (by omega), c1 11 9 (by omega) (by omega)]
    have k1117 : γ4 11 17 = γ3 11 17 := d1 11 17 (by omega) (by omega) (by omega)
    have k80 : ∀ k, γ4 80 k = γ2 80 k := fun k => by rw [d1 80 k (by omega) (by omega) (by omega), c1 80 k (by omega) (by omega)]
    have s811 : γ2 8 11 = γ4 8 11 := by rw [k811, k811']; exact g2 8 11 (by omega) (by omega)
    show PgI γ4
    unfold PgI
    rw [k88, k85, k114, k115, k1117]
    refine ⟨⟨fun x q1 q2 => by rw [d1 78 x (by omega) (by omega) (by omega)]; exact hR3.1 x q1 q2, fun x q1 q2 => by rw [d1 84 x (by omega) (by omega) (by omega), d1 85 x (by omega) (by omega) (by omega)]; exact hR3.2 x q1 q2⟩, l1, l2, by omega, by omega, ⟨_, by rw [k119]; exact b3, n0, hop⟩, fun t q1 q2 => ?_, c4, fun c q1 q2 => by rw [d1 83 c (by omega) (by omega) (by omega)]; exact c3 c q1 q2, fun s q1 q2 => ?_, fun i q1 q2 => d2 i q1 (by omega), fun s j q1 q2 q3 q4 => ?_⟩
    · rw [k119] at q2
      have y := b6 t q1 q2
      unfold StI at y ⊢
      rw [k80, k80, k80, k80, k80, k80, ← s811]
      exact y
    · rw [d1 59 s (by omega) (by omega) (by omega), g3 59 s (by omega) (by omega)]
      exact ((l5 s q1 (by omega)).2.2.2.1 q2).2
    · have := hX.2 s j q1 q2 q3 q4
      unfold sdV at this ⊢
      rw [d1 55 s (by omega) (by omega) (by omega), d1 56 s (by omega) (by omega) (by omega), d1 57 s (by omega) (by omega) (by omega), g3 55 s (by omega) (by omega), g3 56 s (by omega) (by omega), g3 57 s (by omega) (by omega)]
      exact this
  · intro j k q1 q2 q3 q4
    show γ4 j k = γ j k
    rw [d1 j k q2 q3 (by omega), c1 j k (by omega) (by omega)]
    exact g2 j k q1 q4
  · show γ4 11 5 = a1
    rw [d1 11 5 (by omega) (by omega) (by omega), c1 11 5 (by omega) (by omega), b4 11 5 rfl (by omega), u]; simp
  · show γ4 11 4 = a0
    rw [d1 11 4 (by omega) (by omega) (by omega), c1 11 4 (by omega) (by omega), b4 11 4 rfl (by omega), u]; simp
