/-! the class's program, exactly: clocks and cells -/
theorem iand_one {x : Int} (h0 : 0 ≤ x) (h1 : x ≤ 2147483647) : iand x 1 = x % 2 := by
  unfold iand
  have b1 : (iI 1).toBitVec.toNat = 1 := by decide
  have bx : (iI x).toBitVec.toNat = x.toNat := by
    show (BitVec.ofInt 32 x).toNat = x.toNat
    rw [BitVec.toNat_ofInt, Int.emod_eq_of_lt h0 (by omega)]
  have ha : (iI x &&& iI 1).toBitVec.toNat = x.toNat % 2 := by
    show ((iI x).toBitVec &&& (iI 1).toBitVec).toNat = x.toNat % 2
    rw [BitVec.toNat_and, b1, bx, Nat.and_one_is_mod]
  have h2 : (iI x &&& iI 1).toInt = ((iI x &&& iI 1).toBitVec.toNat : Int) := by
    show (iI x &&& iI 1).toBitVec.toInt = _
    rw [BitVec.toInt_eq_toNat_cond, if_pos (by omega)]
  rw [h2, ha]
  omega
def NcI (γb : St) (M : Int → Int) (γ : St) (last i : Int) : Prop := (∀ j k, j ≠ 83 → j ≠ 84 → j ≠ 85 → j ≠ 86 → γ j k = γb j k) ∧ (last = sm M 1 i ∧ 0 ≤ last) ∧ (γ 83 0 = 0 ∧ ∀ c, i ≤ c → γ 83 c = M c) ∧ (∀ c, 1 ≤ c → c < i → M c = 1 → (1 ≤ γ 83 c ∧ γ 83 c ≤ last) ∧ γ 84 (γ 83 c) = γ 83 (γb 59 (slC c)) ∧ γ 85 (γ 83 c) = γb 78 (slC c) ∧ γ 86 (γ 83 c) = iand (c - 1) 1) ∧ ∀ m, 1 ≤ m → m ≤ last → 0 ≤ γ 84 m ∧ γ 84 m < m
theorem slC_p {c : Int} (h : 1 ≤ c) : slC c = (c - 1) / 2 := by unfold slC; rw [if_neg (by omega)]
theorem nc_L18 {γb : St} {M : Int → Int} {V : Int} (cko : ∀ u, 0 ≤ u → u < V → 0 ≤ γb 59 u ∧ γb 59 u ≤ 2 * u) (mv : ∀ u, 0 ≤ u → u < V → M (γb 59 u) = 1) (mb : ∀ c, 0 ≤ c → c ≤ 2 * V → M c = 0 ∨ M c = 1) : ∀ (n : Nat) (γ : St) (last i : Int), NcI γb M γ last i → 1 ≤ i → i ≤ 2 * V + 1 → pc (f_Pg_numberClocks_L18 n γ (2 * V + 1) last i) (fun z => ∃ l, NcI γb M z.2 l (2 * V + 1)) := by
  intro n
  induction n with
  | zero => intro γ last i _ _ _; exact pc_n
  | succ n ih =>
    intro γ last i h h1 h2
    have ⟨f, ⟨l1, l2⟩, ⟨z0, z1⟩, p, m⟩ := h
    unfold f_Pg_numberClocks_L18
    refine pc_i (fun c => pc_s ⟨last, by rw [show i = 2 * V + 1 by omega] at h; exact h⟩) (fun c => pc_c (fun _ => ?_))
    rw [z1 i (Int.le_refl _)]
    have sm1 := sm_succ (f := M) (a := 1) (b := i) h1
    refine pc_i (fun c2 => ?_) (fun c2 => ?_)
    · unfold f_Pg_numberClocks_b94
      have mi := mb i (by omega) (by omega)
      refine pc_c (fun _ => ih γ last (i + 1) ⟨f, ⟨by omega, l2⟩, ⟨z0, fun c w => z1 c (by omega)⟩, fun c w1 w2 w3 => ?_, m⟩ (by omega) (by omega))
      by_cases e : c = i
      · rw [e] at w3; exact absurd w3 c2
      · exact p c w1 (by omega) w3
    · have c2 : M i = 1 := by omega
      refine pc_c (fun _ => pc_c (fun _ => pc_a (pc_b (slc_pc (by omega)) (fun r γ1 w => ?_))))
      cases w
      have u := slC_p h1
      have u0 : 0 ≤ slC i ∧ slC i < V := by omega
      have ck := cko _ u0.1 u0.2
      have e59 : setA γ 83 i (last + 1) 59 (slC i) = γb 59 (slC i) := by rw [stA, if_neg (by omega)]; exact f 59 _ (by omega) (by omega) (by omega) (by omega)
      have e83 : setA γ 83 i (last + 1) 83 (γb 59 (slC i)) = γ 83 (γb 59 (slC i)) := by rw [stA, if_neg (by omega)]
      rw [e59, e83]
      refine pc_c (fun _ => pc_c (fun _ => pc_c (fun _ => pc_a (pc_c (fun _ => pc_c (fun _ => pc_a (pc_c (fun _ => pc_c (fun _ => pc_a ?_)))))))))
      have e78 : setA (setA γ 83 i (last + 1)) 84 (last + 1) (γ 83 (γb 59 (slC i))) 78 (slC i) = γb 78 (slC i) := by rw [stA, if_neg (by omega), stA, if_neg (by omega)]; exact f 78 _ (by omega) (by omega) (by omega) (by omega)
      rw [e78]
      generalize hg : setA (setA (setA (setA γ 83 i (last + 1)) 84 (last + 1) (γ 83 (γb 59 (slC i)))) 85 (last + 1) (γb 78 (slC i))) 86 (last + 1) (iand (i - 1) 1) = γ2
      have s : ∀ j k, γ2 j k = if j = 86 ∧ k = last + 1 then iand (i - 1) 1 else if j = 85 ∧ k = last + 1 then γb 78 (slC i) else if j = 84 ∧ k = last + 1 then γ 83 (γb 59 (slC i)) else if j = 83 ∧ k = i then last + 1 else γ j k := fun j k => by rw [← hg, stA, stA, stA, stA]
      have s83 : ∀ k, k ≠ i → γ2 83 k = γ 83 k := fun k w => by rw [s, if_neg (by omega), if_neg (by omega), if_neg (by omega), if_neg (by omega)]
      have n83 : γ2 83 i = last + 1 := by rw [s, if_neg (by omega), if_neg (by omega), if_neg (by omega), if_pos ⟨rfl, rfl⟩]
      have so : ∀ (j : Nat) k, (j = 84 ∨ j = 85 ∨ j = 86) → k ≠ last + 1 → γ2 j k = γ j k := fun j k w w2 => by rw [s, if_neg (by omega), if_neg (by omega), if_neg (by omega), if_neg (by omega)]
      have n84 : γ2 84 (last + 1) = γ 83 (γb 59 (slC i)) := by rw [s, if_neg (by omega), if_neg (by omega), if_pos ⟨rfl, rfl⟩]
      have n85 : γ2 85 (last + 1) = γb 78 (slC i) := by rw [s, if_neg (by omega), if_pos ⟨rfl, rfl⟩]
      have n86 : γ2 86 (last + 1) = iand (i - 1) 1 := by rw [s, if_pos ⟨rfl, rfl⟩]
      have b84 : 0 ≤ γ 83 (γb 59 (slC i)) ∧ γ 83 (γb 59 (slC i)) ≤ last := by
        by_cases e : γb 59 (slC i) = 0
        · rw [e, z0]; omega
        · have := (p _ (show 1 ≤ γb 59 (slC i) by omega) (by omega) (mv _ u0.1 u0.2)).1
          omega
      unfold f_Pg_numberClocks_b94
      refine pc_c (fun _ => ih γ2 (last + 1) (i + 1) ⟨fun j k w1 w2 w3 w4 => by rw [s, if_neg (by omega), if_neg (by omega), if_neg (by omega), if_neg (by omega)]; exact f j k w1 w2 w3 w4, ⟨by omega, by omega⟩, ⟨by rw [s83 0 (by omega)]; exact z0, fun c w => by rw [s83 c (by omega)]; exact z1 c (by omega)⟩, fun c w1 w2 w3 => ?_, fun k w1 w2 => ?_⟩ (by omega) (by omega))
      · by_cases e : c = i
        · rw [e, n83, n84, n85, n86, s83 _ (by omega)]
          exact ⟨by omega, rfl, rfl, rfl⟩
        · have q := p c w1 (by omega) w3
          have uc := slC_p w1
          have ckc := cko (slC c) (by omega) (by omega)
          rw [s83 c e, so 84 _ (by omega) (by omega), so 85 _ (by omega) (by omega), so 86 _ (by omega) (by omega), s83 _ (by omega)]
          exact ⟨by omega, q.2⟩
      · by_cases e : k = last + 1
        · rw [e, n84]; omega
        · rw [so 84 k (by omega) e]; exact m k w1 (by omega)
/-- the clocks by their numbers -/
def ClN (G γ : St) (c : Int) : Prop := (1 ≤ γ 83 c ∧ γ 83 c < γ 11 17) ∧ γ 84 (γ 83 c) = γ 83 (G 59 (slC c)) ∧ γ 85 (γ 83 c) = γ 78 (slC c) ∧ γ 86 (γ 83 c) = iand (c - 1) 1
def ClB (G γ : St) (V : Int) : Prop := γ 83 0 = 0 ∧ γ 87 0 = 1 ∧ (∀ m, 1 ≤ m → m < γ 11 17 → 0 ≤ γ 84 m ∧ γ 84 m < m) ∧ (∀ s, 0 ≤ s → s < V → G 59 s ≠ 0 → ClN G γ (G 59 s)) ∧ ∀ i, 0 ≤ i → i < G 8 11 → G 62 i ≠ 0 → ClN G γ (G 62 i)
def Fr83 (γ0 γ : St) : Prop := ∀ j k, (j = 11 → k ≠ 17) → j ≠ 83 → j ≠ 84 → j ≠ 85 → j ≠ 86 → j ≠ 87 → γ j k = γ0 j k
theorem bc_b123 {G γ : St} {V : Int} (cko : ∀ u, 0 ≤ u → u < V → 0 ≤ γ 59 u ∧ γ 59 u ≤ 2 * u) (mv : ∀ u, 0 ≤ u → u < V → γ 83 (γ 59 u) = 1) (mc : ∀ i, 0 ≤ i → i < G 8 11 → γ 83 (G 62 i) = 1 ∧ 0 ≤ G 62 i ∧ G 62 i ≤ 2 * V) (mb : ∀ c, 0 ≤ c → c ≤ 2 * V → γ 83 c = 0 ∨ γ 83 c = 1) (h17 : γ 11 17 = 1 + sm (γ 83) 1 (2 * V + 1)) (g59 : ∀ s, γ 59 s = G 59 s) (hV : 0 ≤ V) : pc (f_Pg_buildClocks_b123 γ (2 * V + 1)) (fun z => ClB G z.2 V ∧ Fr83 γ z.2) := by
  unfold f_Pg_buildClocks_b123
  refine pc_b (P := fun z => ClB G z.2 V ∧ Fr83 γ z.2) ?_ (fun r γ1 w => pc_s w)
  unfold f_Pg_numberClocks
  refine pc_c (fun _ => pc_a (pc_c (fun _ => pc_a ?_)))
  generalize hg : setA (setA γ 83 0 0) 87 0 1 = γ1
  have s : ∀ j k, γ1 j k = if j = 87 ∧ k = 0 then 1 else if j = 83 ∧ k = 0 then 0 else γ j k := fun j k => by rw [← hg, stA, stA]
  have s0 : ∀ j k, j ≠ 87 → (j = 83 → k ≠ 0) → γ1 j k = γ j k := fun j k w1 w2 => by rw [s, if_neg (by omega), if_neg (by omega)]
  have smz : sm (γ 83) 1 1 = 0 := sm_nil (by omega)
  have use : ∀ c, c ≠ 0 → γ 83 c = γ1 83 c := fun c w => (s0 83 c (by omega) (fun _ => w)).symm
  -- the mark of the base does not matter
  have key := nc_L18 (γb := γ1) (M := γ 83) (V := V) (fun u w1 w2 => by rw [s0 59 u (by omega) (by omega)]; exact cko u w1 w2) (fun u w1 w2 => by rw [s0 59 u (by omega) (by omega)]; exact mv u w1 w2) mb FU γ1 0 1 ⟨fun _ _ _ _ _ _ => rfl, ⟨smz.symm, by omega⟩, ⟨by rw [s, if_neg (by omega), if_pos ⟨rfl, rfl⟩], fun c w => s0 83 c (by omega) (by omega)⟩, fun c w1 w2 => by exfalso; omega, fun m w1 w2 => by exfalso; omega⟩ (by omega) (by omega)
  refine pc_m key (fun z hz => ?_)
  obtain ⟨l, f, ⟨l1, l2⟩, ⟨z0, z1⟩, p, m⟩ := hz
  have e17 : z.2 11 17 = 1 + l := by rw [f 11 17 (by omega) (by omega) (by omega) (by omega), s0 11 17 (by omega) (by omega), h17, l1]
  have e78 : ∀ k, z.2 78 k = γ1 78 k := fun k => f 78 k (by omega) (by omega) (by omega) (by omega)
  have e59 : ∀ k, γ1 59 k = G 59 k := fun k => by rw [s0 59 k (by omega) (by omega)]; exact g59 k
  have fin : ∀ c, 1 ≤ c → c ≤ 2 * V → γ 83 c = 1 → ClN G z.2 c := fun c w1 w2 w3 => by
    have q := p c w1 (by omega) w3
    unfold ClN
    rw [e17, e78, ← e59]
    exact ⟨by omega, q.2⟩
  refine ⟨⟨z0, ?_, fun k w1 w2 => m k w1 (by omega), fun u w1 w2 w3 => ?_, fun i w1 w2 w3 => ?_⟩, fun j k w1 w2 w3 w4 w5 w6 => ?_⟩
  · rw [f 87 0 (by omega) (by omega) (by omega) (by omega), s, if_pos ⟨rfl, rfl⟩]
  · have c := cko u w1 w2
    have v := mv u w1 w2
    rw [g59] at c v
    exact fin _ (by omega) (by omega) v
  · have c := mc i w1 w2
    exact fin _ (by omega) (by omega) c.1
  · rw [f j k w2 w3 w4 w5, s0 j k w6 (by omega)]
theorem bc_L97 {e123 : St → Int → Option (Int × St)} {N : Int} {γ0 : St} {Q : Int × St → Prop} (hN : 1 ≤ N) (hQ : ∀ γ, (∀ j k, (j = 11 → k ≠ 17) → γ j k = γ0 j k) → γ 11 17 = 1 + sm (γ0 83) 1 N → pc (e123 γ N) Q) : ∀ (n : Nat) (γ : St) (i : Int), (∀ j k, (j = 11 → k ≠ 17) → γ j k = γ0 j k) → γ 11 17 = 1 + sm (γ0 83) 1 i → 1 ≤ i → i ≤ N → pc (f_Pg_buildClocks_L97 e123 n γ N i) Q := by
  intro n
  induction n with
  | zero => intro γ i _ _ _ _; exact pc_n
  | succ n ih =>
    intro γ i f h h1 h2
    unfold f_Pg_buildClocks_L97
    refine pc_i (fun c => hQ γ f (by rw [show N = i by omega]; exact h)) (fun c => pc_c (fun _ => pc_c (fun _ => pc_a (pc_c (fun _ => ih _ (i + 1) (fun j k w => ?_) ?_ (by omega) (by omega))))))
    · rw [stA, if_neg (by omega)]; exact f j k w
    · rw [stA, if_pos ⟨rfl, rfl⟩, h, f 83 i (by omega), sm_succ h1]
      omega
theorem bc_L58 {e90 : St → Int → Option (Int × St)} {N V : Int} {γ0 : St} {Q : Int × St → Prop} (hQ : ∀ γ, (∀ j k, j ≠ 83 → γ j k = γ0 j k) → (∀ c, 0 ≤ c → c ≤ 2 * V → γ 83 c = 0 ∨ γ 83 c = 1) → (∀ k, γ0 83 k = 1 → γ 83 k = 1) → (∀ i, 0 ≤ i → i < γ0 8 11 → γ 83 (γ0 62 i) = 1) → pc (e90 γ N) Q) : ∀ (n : Nat) (γ : St) (i : Int), (∀ j k, j ≠ 83 → γ j k = γ0 j k) → (∀ c, 0 ≤ c → c ≤ 2 * V → γ 83 c = 0 ∨ γ 83 c = 1) → (∀ k, γ0 83 k = 1 → γ 83 k = 1) → (∀ k, 0 ≤ k → k < i → γ 83 (γ0 62 k) = 1) → 0 ≤ i → pc (f_Pg_buildClocks_L58 e90 n γ N i) Q := by
  intro n
  induction n with
  | zero => intro γ i _ _ _ _ _; exact pc_n
  | succ n ih =>
    intro γ i f b o h h1
    unfold f_Pg_buildClocks_L58
    rw [f 8 11 (by omega), f 62 i (by omega)]
    refine pc_i (fun c => hQ γ f b o (fun k w1 w2 => h k w1 (by omega))) (fun c => pc_c (fun _ => pc_c (fun _ => pc_a (pc_c (fun _ => ?_)))))
    have s : ∀ j k, setA γ 83 (γ0 62 i) 1 j k = if j = 83 ∧ k = γ0 62 i then 1 else γ j k := fun j k => by rw [stA]
    generalize setA γ 83 (γ0 62 i) 1 = γ1 at *
    have one : ∀ k, γ 83 k = 1 → γ1 83 k = 1 := fun k w => by
      rw [s]
      by_cases e : k = γ0 62 i
      · rw [if_pos ⟨rfl, e⟩]
      · rw [if_neg (fun q => e q.2)]; exact w
    refine ih γ1 (i + 1) (fun j k w => by rw [s, if_neg (by omega)]; exact f j k w) (fun c w1 w2 => ?_) (fun k w => one k (o k w)) (fun k w1 w2 => ?_) (by omega)
    · rw [s]
      by_cases e : c = γ0 62 i
      · rw [if_pos ⟨rfl, e⟩]; exact Or.inr rfl
      · rw [if_neg (fun q => e q.2)]; exact b c w1 w2
    · by_cases e : k = i
      · rw [e, s, if_pos ⟨rfl, rfl⟩]
      · exact one _ (h k w1 (by omega))
theorem bc_L24 {e56 : St → Int → Option (Int × St)} {N V : Int} {γ0 : St} {Q : Int × St → Prop} (hQ : ∀ γ, (∀ j k, j ≠ 83 → γ j k = γ0 j k) → (∀ c, 0 ≤ c → c ≤ 2 * V → γ 83 c = 0 ∨ γ 83 c = 1) → (∀ i, 0 ≤ i → i < γ0 8 8 → γ 83 (γ0 59 i) = 1) → pc (e56 γ N) Q) : ∀ (n : Nat) (γ : St) (i : Int), (∀ j k, j ≠ 83 → γ j k = γ0 j k) → (∀ c, 0 ≤ c → c ≤ 2 * V → γ 83 c = 0 ∨ γ 83 c = 1) → (∀ k, 0 ≤ k → k < i → γ 83 (γ0 59 k) = 1) → 0 ≤ i → pc (f_Pg_buildClocks_L24 e56 n γ N i) Q := by
  intro n
  induction n with
  | zero => intro γ i _ _ _ _; exact pc_n
  | succ n ih =>
    intro γ i f b h h1
    unfold f_Pg_buildClocks_L24
    rw [f 8 8 (by omega), f 59 i (by omega)]
    refine pc_i (fun c => hQ γ f b (fun k w1 w2 => h k w1 (by omega))) (fun c => pc_c (fun _ => pc_c (fun _ => pc_a (pc_c (fun _ => ?_)))))
    have s : ∀ j k, setA γ 83 (γ0 59 i) 1 j k = if j = 83 ∧ k = γ0 59 i then 1 else γ j k := fun j k => by rw [stA]
    generalize setA γ 83 (γ0 59 i) 1 = γ1 at *
    refine ih γ1 (i + 1) (fun j k w => by rw [s, if_neg (by omega)]; exact f j k w) (fun c w1 w2 => ?_) (fun k w1 w2 => ?_) (by omega)
    · rw [s]
      by_cases e : c = γ0 59 i
      · rw [if_pos ⟨rfl, e⟩]; exact Or.inr rfl
      · rw [if_neg (fun q => e q.2)]; exact b c w1 w2
    · rw [s]
      by_cases e : γ0 59 k = γ0 59 i
      · rw [if_pos ⟨rfl, e⟩]
      · rw [if_neg (fun q => e q.2)]
        by_cases e2 : k = i
        · rw [e2] at e; exact absurd rfl e
        · exact h k w1 (by omega)
theorem bc_pc {G γ : St} {V : Int} (hV : 0 ≤ V) (h88 : γ 8 8 = V) (g59 : ∀ s, γ 59 s = G 59 s) (g62 : ∀ s, γ 62 s = G 62 s) (g811 : γ 8 11 = G 8 11) (cko : ∀ u, 0 ≤ u → u < V → 0 ≤ G 59 u ∧ G 59 u ≤ 2 * u) (mc : ∀ i, 0 ≤ i → i < G 8 11 → 0 ≤ G 62 i ∧ G 62 i ≤ 2 * V) : pc (f_Pg_buildClocks γ) (fun z => ClB G z.2 V ∧ Fr83 γ z.2) := by
  unfold f_Pg_buildClocks
  rw [h88]
  refine pc_c (fun _ => pc_c (fun _ => pc_a (pc_c (fun _ => pc_a ?_))))
  have u : ∀ j k, flA γ 83 0 (2 * V + 1) 0 j k = if j = 83 ∧ 0 ≤ k ∧ k < 2 * V + 1 then 0 else γ j k := fun j k => rfl
  generalize flA γ 83 0 (2 * V + 1) 0 = γ1 at *
  have uo : ∀ j k, j ≠ 83 → γ1 j k = γ j k := fun j k w => by rw [u, if_neg (by omega)]
  refine bc_L24 (V := V) (γ0 := γ1) (fun γ2 f2 b2 m2 => ?_) FU γ1 0 (fun _ _ _ => rfl) (fun c w1 w2 => Or.inl (by rw [u, if_pos ⟨rfl, w1, by omega⟩])) (fun k w1 w2 => by exfalso; omega) (Int.le_refl _)
  rw [uo 8 8 (by omega), h88] at m2
  unfold f_Pg_buildClocks_b56
  refine bc_L58 (V := V) (γ0 := γ2) (fun γ3 f3 b3 o3 m3 => ?_) FU γ2 0 (fun _ _ _ => rfl) b2 (fun _ w => w) (fun k w1 w2 => by exfalso; omega) (Int.le_refl _)
  unfold f_Pg_buildClocks_b90
  refine pc_a ?_
  have g3 : ∀ j k, j ≠ 83 → γ3 j k = γ j k := fun j k w => by rw [f3 j k w, f2 j k w]; exact uo j k w
  have s : ∀ j k, setA γ3 11 17 1 j k = if j = 11 ∧ k = 17 then 1 else γ3 j k := fun j k => by rw [stA]
  generalize setA γ3 11 17 1 = γ4 at *
  have s0 : ∀ j k, (j = 11 → k ≠ 17) → γ4 j k = γ3 j k := fun j k w => by rw [s, if_neg (by omega)]
  have r83 : γ4 83 = γ3 83 := funext fun k => s0 83 k (by omega)
  have z1 : sm (γ4 83) 1 1 = 0 := sm_nil (by omega)
  refine bc_L97 (γ0 := γ4) (by omega) (fun γ5 f5 h5 => ?_) FU γ4 1 (fun _ _ _ => rfl) (by rw [z1, s, if_pos ⟨rfl, rfl⟩]; rfl) (by omega) (by omega)
  have r5 : γ5 83 = γ3 83 := funext fun k => by rw [f5 83 k (by omega), r83]
  have g5 : ∀ j k, j ≠ 83 → (j = 11 → k ≠ 17) → γ5 j k = γ j k := fun j k w1 w2 => by rw [f5 j k w2, s0 j k w2]; exact g3 j k w1
  rw [r83] at h5
  have b := bc_b123 (G := G) (γ := γ5) (V := V) (fun x w1 w2 => by rw [g5 59 x (by omega) (by omega), g59]; exact cko x w1 w2) (fun x w1 w2 => by
      rw [g5 59 x (by omega) (by omega), r5]
      have := m2 x w1 w2
      rw [uo 59 x (by omega)] at this
      exact o3 _ this) (fun i w1 w2 => ⟨by
      rw [r5]
      have := m3 i w1 (by rw [f2 8 11 (by omega), uo 8 11 (by omega), g811]; exact w2)
      rw [f2 62 i (by omega), uo 62 i (by omega), g62] at this
      exact this, mc i w1 w2⟩) (by rw [r5]; exact b3) (by rw [r5]; exact h5) (fun x => by rw [g5 59 x (by omega) (by omega)]; exact g59 x) hV
  refine pc_m b (fun z hz => ⟨hz.1, fun j k w1 w2 w3 w4 w5 w6 => ?_⟩)
  rw [hz.2 j k w1 w2 w3 w4 w5 w6]
  exact g5 j k w2 w1
/-- the program that is built of G -/
def BldX (G γ : St) (S V : Int) : Prop := (∀ j k, j ≠ 11 → (j < 61 ∨ 62 < j ∧ j < 76) → γ j k = G j k) ∧ (∀ k, 0 ≤ k → k < S → MdE G γ k) ∧ (∃ n q, StL G γ S n q) ∧ ClB G γ V ∧ (∀ i, 0 ≤ i → i < G 8 11 → γ 61 i = γ 78 (G 61 i) ∧ γ 62 i = γ 83 (G 62 i)) ∧ ∀ i, 0 ≤ i → i < G 8 11 → γ 81 i = 0
theorem bl_L20 {G γ0 : St} {Q : Int × St → Prop} (h8 : γ0 8 11 = G 8 11) (h61 : ∀ i, γ0 61 i = G 61 i) (h62 : ∀ i, γ0 62 i = G 62 i) (hQ : ∀ γ, (∀ j k, j ≠ 61 → j ≠ 62 → j ≠ 81 → γ j k = γ0 j k) → (∀ i, 0 ≤ i → i < G 8 11 → γ 61 i = γ 78 (G 61 i) ∧ γ 62 i = γ 83 (G 62 i)) → (∀ i, 0 ≤ i → i < G 8 11 → γ 81 i = 0) → Q (0, γ)) : ∀ (n : Nat) (γ : St) (i : Int), (∀ j k, j ≠ 61 → j ≠ 62 → γ j k = γ0 j k) → (∀ k, 0 ≤ k → k < i → γ 61 k = γ0 78 (G 61 k) ∧ γ 62 k = γ0 83 (G 62 k)) → (∀ k, i ≤ k → γ 61 k = G 61 k ∧ γ 62 k = G 62 k) → 0 ≤ i → pc (f_Pg_build_L20 f_Pg_build_b83 n γ i) Q := by
  intro n
  induction n with
  | zero => intro γ i _ _ _ _; exact pc_n
  | succ n ih =>
    intro γ i f h1 h2 h3
    unfold f_Pg_build_L20
    rw [f 8 11 (by omega) (by omega), h8]
    refine pc_i (fun c => ?_) (fun c => ?_)
    · unfold f_Pg_build_b83 f_Pg_clear
      refine pc_b (P := fun z => z.2 = flA γ 81 0 (γ 8 11) 0) (pc_c (fun _ => pc_a (pc_s rfl))) (fun r γ1 w => pc_s ?_)
      have w : γ1 = flA γ 81 0 (γ 8 11) 0 := w
      have u : ∀ j k, γ1 j k = if j = 81 ∧ 0 ≤ k ∧ k < γ 8 11 then 0 else γ j k := fun j k => by rw [w]; rfl
      have uo : ∀ j k, j ≠ 81 → γ1 j k = γ j k := fun j k q => by rw [u, if_neg (by omega)]
      refine hQ γ1 (fun j k q1 q2 q3 => by rw [uo j k q3]; exact f j k q1 q2) (fun k q1 q2 => ?_) (fun k q1 q2 => ?_)
      · rw [uo 61 k (by omega), uo 62 k (by omega), uo 78 _ (by omega), uo 83 _ (by omega), f 78 _ (by omega) (by omega), f 83 _ (by omega) (by omega)]
        exact h1 k q1 (by omega)
      · rw [u, if_pos ⟨rfl, q1, by rw [f 8 11 (by omega) (by omega), h8]; exact q2⟩]
    · have e := h2 i (Int.le_refl _)
      rw [e.1, f 78 _ (by omega) (by omega)]
      refine pc_c (fun _ => pc_c (fun _ => pc_c (fun _ => pc_a ?_)))
      have e62 : setA γ 61 i (γ0 78 (G 61 i)) 62 i = G 62 i := by rw [stA, if_neg (by omega)]; exact e.2
      have e83 : setA γ 61 i (γ0 78 (G 61 i)) 83 (G 62 i) = γ0 83 (G 62 i) := by rw [stA, if_neg (by omega)]; exact f 83 _ (by omega) (by omega)
      rw [e62, e83]
      refine pc_c (fun _ => pc_c (fun _ => pc_c (fun _ => pc_a (pc_c (fun _ => ?_)))))
      have s : ∀ j k, setA (setA γ 61 i (γ0 78 (G 61 i))) 62 i (γ0 83 (G 62 i)) j k = if j = 62 ∧ k = i then γ0 83 (G 62 i) else if j = 61 ∧ k = i then γ0 78 (G 61 i) else γ j k := fun j k => by rw [stA, stA]
      generalize setA (setA γ 61 i (γ0 78 (G 61 i))) 62 i (γ0 83 (G 62 i)) = γ1 at *
      refine ih γ1 (i + 1) (fun j k q1 q2 => by rw [s, if_neg (by omega), if_neg (by omega)]; exact f j k q1 q2) (fun k q1 q2 => ?_) (fun k q => by rw [s 61, s 62, if_neg (by omega), if_neg (by omega), if_neg (by omega), if_neg (by omega)]; exact h2 k (by omega)) (by omega)
      by_cases q : k = i
      · rw [q, s 61, s 62, if_neg (by omega), if_pos ⟨rfl, rfl⟩, if_pos ⟨rfl, rfl⟩]; exact ⟨rfl, rfl⟩
      · rw [s 61, s 62, if_neg (by omega), if_neg (by omega), if_neg (by omega), if_neg (by omega)]; exact h1 k q1 (by omega)
theorem bl_pc {G : St} {S V a0 a1 : Int} (o : OrdX G S) (hV : 0 ≤ V) (h88 : G 8 8 = V) (cko : ∀ u, 0 ≤ u → u < V → 0 ≤ G 59 u ∧ G 59 u ≤ 2 * u) (mc : ∀ i, 0 ≤ i → i < G 8 11 → 0 ≤ G 62 i ∧ G 62 i ≤ 2 * V) : pc (f_Pg_build G a0 a1) (fun z => BldX G z.2 S V ∧ z.2 11 4 = a0 ∧ z.2 11 5 = a1) := by
  unfold f_Pg_build
  refine pc_a (pc_a ?_)
  have u : ∀ j k, setA (setA G 11 4 a0) 11 5 a1 j k = if j = 11 ∧ k = 5 then a1 else if j = 11 ∧ k = 4 then a0 else G j k := fun j k => by rw [stA, stA]
  generalize setA (setA G 11 4 a0) 11 5 a1 = G1 at *
  have uo : ∀ j k, j ≠ 11 → G1 j k = G j k := fun j k w => by rw [u, if_neg (by omega), if_neg (by omega)]
  have ro : ∀ j : Nat, j ≠ 11 → G1 j = G j := fun j w => funext fun k => uo j k w
  have o1 : OrdX G1 S := by
    unfold OrdX Ed at o ⊢
    rw [ro 75 (by omega), ro 55 (by omega), ro 56 (by omega), ro 57 (by omega), ro 54 (by omega), ro 10 (by omega)]
    exact o
  unfold f_Pg_buildSteps
  refine pc_b (P := fun z => BsX G1 z.2 S) (pc_a (bs_L7 o1 FU _ 0 ⟨fun j k w1 w2 w3 w4 => by rw [stA, if_neg (by omega)], fun k w1 w2 => by exfalso; omega, 0, fun _ => 0, ⟨by omega, by rw [stA, if_pos ⟨rfl, rfl⟩]; rfl⟩, fun t w1 w2 => by exfalso; omega, fun t u w1 w2 w3 => by exfalso; omega, fun k w1 w2 => by exfalso; omega⟩ (by omega) (by have := o.2.2.2.2.2.2; omega))) (fun r γ1 w => ?_)
  obtain ⟨f1, md1, n, q, st1⟩ := w
  have f1 : ∀ j k, (j = 11 → k ≠ 9) → j ≠ 78 → j ≠ 79 → j ≠ 80 → γ1 j k = G1 j k := f1
  have g1 : ∀ j k, j ≠ 11 → j ≠ 78 → j ≠ 79 → j ≠ 80 → γ1 j k = G j k := fun j k w1 w2 w3 w4 => by rw [f1 j k (by omega) w2 w3 w4]; exact uo j k w1
  refine pc_b (bc_pc (G := G) hV (by rw [g1 8 8 (by omega) (by omega) (by omega) (by omega)]; exact h88) (fun s => g1 59 s (by omega) (by omega) (by omega) (by omega)) (fun s => g1 62 s (by omega) (by omega) (by omega) (by omega)) (g1 8 11 (by omega) (by omega) (by omega) (by omega)) cko mc) (fun r γ2 w => ?_)
  obtain ⟨cb, f2⟩ := w
  have cb : ClB G γ2 V := cb
  have f2 : Fr83 γ1 γ2 := f2
  have e2 : ∀ j k, (j = 11 → k ≠ 17) → (j < 83 ∨ 87 < j) → γ2 j k = γ1 j k := fun j k w1 w2 => f2 j k w1 (by omega) (by omega) (by omega) (by omega) (by omega)
  have g2 : ∀ j k, j ≠ 11 → (j < 78) → γ2 j k = G j k := fun j k w1 w2 => by rw [e2 j k (by omega) (by omega)]; exact g1 j k w1 (by omega) (by omega) (by omega)
  refine bl_L20 (G := G) (γ0 := γ2) (g2 8 11 (by omega) (by omega)) (fun i => g2 61 i (by omega) (by omega)) (fun i => g2 62 i (by omega) (by omega)) (fun γ3 f3 c3 z3 => ?_) FU γ2 0 (fun _ _ _ _ => rfl) (fun k w1 w2 => by exfalso; omega) (fun k _ => ⟨g2 61 k (by omega) (by omega), g2 62 k (by omega) (by omega)⟩) (Int.le_refl _)
  have e3 : ∀ j k, j ≠ 61 → j ≠ 62 → j ≠ 81 → γ3 j k = γ2 j k := f3
  have t78 : ∀ k, γ3 78 k = γ1 78 k := fun k => by rw [e3 78 k (by omega) (by omega) (by omega)]; exact e2 78 k (by omega) (by omega)
  have t79 : ∀ k, γ3 79 k = γ1 79 k := fun k => by rw [e3 79 k (by omega) (by omega) (by omega)]; exact e2 79 k (by omega) (by omega)
  have t80 : ∀ k, γ3 80 k = γ1 80 k := fun k => by rw [e3 80 k (by omega) (by omega) (by omega)]; exact e2 80 k (by omega) (by omega)
  have t11 : ∀ k, k ≠ 17 → γ3 11 k = γ1 11 k := fun k w => by rw [e3 11 k (by omega) (by omega) (by omega)]; exact e2 11 k (by omega) (by omega)
  have st1 : StL G1 γ1 S n q := st1
  show BldX G γ3 S V ∧ γ3 11 4 = a0 ∧ γ3 11 5 = a1
  refine ⟨⟨fun j k w1 w2 => by rw [e3 j k (by omega) (by omega) (by omega)]; exact g2 j k w1 (by omega), fun k w1 w2 => ?_, ⟨n, q, ?_⟩, ?_, c3, z3⟩, ?_, ?_⟩
  · have m := (md1 k w1 w2).ag (γ' := γ3) (t78 _) (fun c _ => t78 c) (t79 _)
    unfold MdE at m ⊢
    rw [ro 75 (by omega), ro 54 (by omega), ro 55 (by omega), ro 58 (by omega)] at m
    exact m
  · obtain ⟨a, b, c, d⟩ := st1
    rw [ro 75 (by omega)] at b d
    rw [ro 54 (by omega)] at d
    refine ⟨⟨a.1, by rw [t11 9 (by omega)]; exact a.2⟩, fun t w1 w2 => ⟨(b t w1 w2).1, ?_⟩, c, d⟩
    have m := (b t w1 w2).2.ag (γ' := γ3) (fun k _ _ => t80 k) (fun c _ => t78 c)
    unfold StE at m ⊢
    rw [ro 54 (by omega), ro 55 (by omega), ro 56 (by omega), ro 57 (by omega), ro 58 (by omega)] at m
    exact m
  · obtain ⟨a, b, c, d, e⟩ := cb
    have k83 : ∀ k, γ3 83 k = γ2 83 k := fun k => e3 83 k (by omega) (by omega) (by omega)
    have k84 : ∀ k, γ3 84 k = γ2 84 k := fun k => e3 84 k (by omega) (by omega) (by omega)
    have k17 : γ3 11 17 = γ2 11 17 := e3 11 17 (by omega) (by omega) (by omega)
    have kk : ∀ c, ClN G γ2 c → ClN G γ3 c := fun c w => by
      unfold ClN at w ⊢
      rw [k83, k83, k84, k17, e3 85 _ (by omega) (by omega) (by omega), e3 86 _ (by omega) (by omega) (by omega), e3 78 _ (by omega) (by omega) (by omega)]
      exact w
    exact ⟨by rw [k83]; exact a, by rw [e3 87 0 (by omega) (by omega) (by omega)]; exact b, fun m w1 w2 => by rw [k84]; rw [k17] at w2; exact c m w1 w2, fun s w1 w2 w3 => kk _ (d s w1 w2 w3), fun i w1 w2 w3 => kk _ (e i w1 w2 w3)⟩
  · show γ3 11 4 = a0
    rw [t11 4 (by omega), f1 11 4 (by omega) (by omega) (by omega) (by omega), u, if_neg (by omega), if_pos ⟨rfl, rfl⟩]
  · show γ3 11 5 = a1
    rw [t11 5 (by omega), f1 11 5 (by omega) (by omega) (by omega) (by omega), u, if_pos ⟨rfl, rfl⟩]
