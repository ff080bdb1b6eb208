/-! equality: the class's linker: calls, definitions, a step -/
theorem call_L115 {γb : St} {g x2 x3 T : Int} : ∀ (n : Nat) (γ : St) (i : Int), 0 ≤ i → γ 9 10 = T + i → (∀ t, 0 ≤ t → t < i → γ 68 (T + t) = x3 + x2 + t) → (∀ j k, (j ≠ 9 ∨ k ≠ 10) → (j ≠ 68 ∨ k < T) → γ j k = γb j k) → i ≤ max 0 (γb 27 g) → pc (f_Lk_takeCall_L115 n γ g x2 x3 i) (fun z => z.2 9 10 = T + max 0 (γb 27 g) ∧ (∀ t, 0 ≤ t → t < γb 27 g → z.2 68 (T + t) = x3 + x2 + t) ∧ ∀ j k, (j ≠ 9 ∨ k ≠ 10) → (j ≠ 68 ∨ k < T) → z.2 j k = γb j k) := by
  intro n
  induction n with
  | zero => intro γ i _ _ _ _ _; exact pc_n
  | succ n ih =>
    intro γ i h0 h10 h68 hf hi
    unfold f_Lk_takeCall_L115
    rw [hf 27 g (by omega) (by omega)]
    refine pc_c (fun _ => pc_i (fun q => pc_s ⟨by show γ 9 10 = _; omega, fun t q1 q2 => h68 t q1 (by omega), hf⟩) (fun q => pc_c (fun _ => pc_c (fun _ => pc_b lpush_pc (fun r γ1 e => ?_)))))
    have s : ∀ j k, γ1 j k = if j = 9 ∧ k = 10 then T + i + 1 else if j = 68 ∧ k = T + i then x3 + x2 + i else γ j k := fun j k => by cases e; rw [h10, stA, stA]
    clear e
    refine pc_c (fun _ => ih γ1 (i + 1) (by omega) (by rw [s, if_pos ⟨rfl, rfl⟩]; omega) (fun t q1 q2 => ?_) (fun j k q1 q2 => by rw [s, if_neg (by omega), if_neg (by omega)]; exact hf j k q1 q2) (by omega))
    by_cases q3 : t = i
    · rw [q3, s, if_neg (by omega), if_pos ⟨rfl, rfl⟩]
    · rw [s, if_neg (by omega), if_neg (by omega)]; exact h68 t q1 (by omega)
theorem call_L74 {γb : St} {g x2 x3 T : Int} {Q : Int × St → Prop} (e10 : γb 9 10 = T) (hx : ∀ γ, (∀ j k, (j ≠ 55 ∨ k < x3 ∨ x3 + x2 ≤ k) → γ j k = γb j k) → (∀ t, 0 ≤ t → t < x2 → γ 55 (x3 + t) = γb 68 (T + t)) → pc (f_Lk_takeCall_b112 γ g x2 x3) Q) : ∀ (n : Nat) (γ : St) (i : Int), 0 ≤ i → (∀ j k, (j ≠ 55 ∨ k < x3 ∨ x3 + x2 ≤ k) → γ j k = γb j k) → (∀ t, 0 ≤ t → t < i → t < x2 → γ 55 (x3 + t) = γb 68 (T + t)) → pc (f_Lk_takeCall_L74 f_Lk_takeCall_b112 n γ g x2 x3 i) Q := by
  intro n
  induction n with
  | zero => intro γ i _ _ _; exact pc_n
  | succ n ih =>
    intro γ i h0 hf h55
    unfold f_Lk_takeCall_L74
    rw [hf 9 10 (by omega), e10, hf 68 _ (by omega)]
    refine pc_i (fun q => hx γ hf (fun t q1 q2 => h55 t q1 (by omega) q2)) (fun q => pc_c (fun _ => pc_c (fun _ => pc_c (fun _ => pc_c (fun _ => pc_a ?_)))))
    have s : ∀ j k, setA γ 55 (x3 + i) (γb 68 (T + i)) j k = if j = 55 ∧ k = x3 + i then γb 68 (T + i) else γ j k := fun j k => by rw [stA]
    generalize setA γ 55 (x3 + i) (γb 68 (T + i)) = γ1 at *
    refine pc_c (fun _ => ih γ1 (i + 1) (by omega) (fun j k q1 => by rw [s, if_neg (by omega)]; exact hf j k q1) (fun t q1 q2 q3 => ?_))
    by_cases q4 : t = i
    · rw [q4, s, if_pos ⟨rfl, rfl⟩]
    · rw [s, if_neg (by omega)]; exact h55 t q1 (by omega) q3
/-- a call is taken: the node that it calls opens -/
def CaX (γ γ' : St) (g clk pl T : Int) : Prop := (γ' 9 8 = γ 9 8 + 1 ∧ γ' 9 11 = γ 9 11 + γ 28 g ∧ γ' 9 10 = T + γ 27 g) ∧ (γ' 63 (γ 9 8) = g ∧ γ' 64 (γ 9 8) = γ 9 11 ∧ γ' 65 (γ 9 8) = clk ∧ γ' 66 (γ 9 8) = γ 29 g ∧ γ' 67 (γ 9 8) = γ 43 (γ 29 g)) ∧ (∀ t, 0 ≤ t → t < γ 27 g → γ' 68 (T + t) = γ 9 11 + γ 26 g + t) ∧ (∀ j k, (j ≠ 9 ∨ k ≠ 8 ∧ k ≠ 10 ∧ k ≠ 11) → (j < 54 ∨ 60 < j ∨ k < γ 9 11 ∨ γ 9 11 + γ 28 g ≤ k) → (j < 63 ∨ 67 < j ∨ k ≠ γ 9 8) → (j ≠ 68 ∨ k < T) → γ' j k = γ j k) ∧ ∀ i, 0 ≤ i → i < γ 28 g → γ' 54 (γ 9 11 + i) = 2 ∧ γ' 55 (γ 9 11 + i) = (if i < γ 26 g then γ 68 (T + i) else -1) ∧ γ' 57 (γ 9 11 + i) = -1 ∧ γ' 59 (γ 9 11 + i) = ccK (γ 9 11) clk (γ 34 (γ 25 g + i)) ∧ γ' 56 (γ 9 11 + i) = slC (γ' 59 (γ 9 11 + i)) ∧ γ' 60 (γ 9 11 + i) = (if i < γ 26 g then pl else γ 37 (γ 25 g + i))
theorem call_pc {γ : St} {f p : Int} (hk : 0 ≤ ccK (γ 64 f) (γ 65 f) (γ 41 p)) (hB : 0 ≤ γ 9 11) (h34 : ∀ i, 0 ≤ i → i < γ 28 (γ 39 p) → -1 ≤ γ 34 (γ 25 (γ 39 p) + i)) (h27 : 0 ≤ γ 27 (γ 39 p)) (h28 : 0 ≤ γ 26 (γ 39 p) ∧ γ 26 (γ 39 p) ≤ γ 28 (γ 39 p)) : pc (f_Lk_takeCall γ f p) (fun z => CaX γ z.2 (γ 39 p) (ccK (γ 64 f) (γ 65 f) (γ 41 p)) (γ 42 (γ 66 f)) (γ 9 10 - γ 26 (γ 39 p))) := by
  unfold f_Lk_takeCall
  refine pc_c (fun _ => pc_a (pc_c (fun _ => pc_a (pc_a (pc_c (fun _ => pc_b pic_pc (fun r γ1 e => ?_)))))))
  cases e
  generalize ccK (γ 64 f) (γ 65 f) (γ 41 p) = clk at *
  generalize γ 39 p = g at *
  generalize γ 42 (γ 66 f) = pl at *
  refine pc_c (fun _ => pc_c (fun _ => pc_b (lkOpen_pc hk hB h34) (fun r γ1 o => ?_)))
  obtain ⟨o1, o2, ⟨o3, o4, o5, o6, o7⟩, o8, o9⟩ := o
  have o1 : γ1 9 8 = γ 9 8 + 1 := o1
  have o2 : γ1 9 11 = γ 9 11 + γ 28 g := o2
  have o3 : γ1 63 (γ 9 8) = g := o3
  have o4 : γ1 64 (γ 9 8) = γ 9 11 := o4
  have o5 : γ1 65 (γ 9 8) = clk := o5
  have o6 : γ1 66 (γ 9 8) = γ 29 g := o6
  have o7 : γ1 67 (γ 9 8) = γ 43 (γ 29 g) := o7
  have o8 : ∀ j k, (j ≠ 9 ∨ k ≠ 8 ∧ k ≠ 11) → (j < 54 ∨ 60 < j ∨ k < γ 9 11 ∨ γ 9 11 + γ 28 g ≤ k) → (j < 63 ∨ 67 < j ∨ k ≠ γ 9 8) → γ1 j k = γ j k := o8
  have o9 : ∀ i, 0 ≤ i → i < γ 28 g → VrS γ γ1 g (γ 9 11) clk pl i := o9
  rw [o8 9 10 (by omega) (by omega) (by omega)]
  generalize hT : γ 9 10 - γ 26 g = T
  refine pc_c (fun _ => pc_a ?_)
  have s2 : ∀ j k, setA γ1 9 10 T j k = if j = 9 ∧ k = 10 then T else γ1 j k := fun j k => by rw [stA]
  generalize setA γ1 9 10 T = γ2 at *
  have p2 : ∀ j k, (j ≠ 9 ∨ k ≠ 10) → γ2 j k = γ1 j k := fun j k q => by rw [s2, if_neg (by omega)]
  refine call_L74 (γb := γ2) (T := T) (by rw [s2, if_pos ⟨rfl, rfl⟩]) (fun γ3 f1 f2 => ?_) FU γ2 0 (Int.le_refl _) (fun _ _ _ => rfl) (fun t q1 q2 => by omega)
  unfold f_Lk_takeCall_b112
  have e27 : γ3 27 g = γ 27 g := by rw [f1 27 g (by omega), p2 27 g (by omega), o8 27 g (by omega) (by omega) (by omega)]
  refine pc_m (call_L115 (γb := γ3) (T := T) FU γ3 0 (Int.le_refl _) (by rw [f1 9 10 (by omega), s2, if_pos ⟨rfl, rfl⟩]; omega) (fun t q1 q2 => by omega) (fun _ _ _ _ => rfl) (by omega)) (fun z hz => ?_)
  obtain ⟨z1, z2, z3⟩ := hz
  rw [e27] at z1 z2
  have w : ∀ j k, (j ≠ 9 ∨ k ≠ 10) → (j ≠ 68 ∨ k < T) → (j ≠ 55 ∨ k < γ 9 11 ∨ γ 9 11 + γ 26 g ≤ k) → z.2 j k = γ1 j k := fun j k q1 q2 q3 => by rw [z3 j k q1 q2, f1 j k q3, p2 j k q1]
  have c68 : ∀ k, γ2 68 k = γ 68 k := fun k => by rw [p2 68 k (by omega), o8 68 k (by omega) (by omega) (by omega)]
  refine ⟨⟨by rw [w 9 8 (by omega) (by omega) (by omega)]; exact o1, by rw [w 9 11 (by omega) (by omega) (by omega)]; exact o2, by rw [z1]; omega⟩, ⟨by rw [w 63 _ (by omega) (by omega) (by omega)]; exact o3, by rw [w 64 _ (by omega) (by omega) (by omega)]; exact o4, by rw [w 65 _ (by omega) (by omega) (by omega)]; exact o5, by rw [w 66 _ (by omega) (by omega) (by omega)]; exact o6, by rw [w 67 _ (by omega) (by omega) (by omega)]; exact o7⟩, fun t q1 q2 => z2 t q1 q2, fun j k q1 q2 q3 q4 => by rw [w j k (by omega) q4 (by omega)]; exact o8 j k (by omega) q2 q3, fun i q1 q2 => ?_⟩
  obtain ⟨v1, v2, v3, v4, v5, v6⟩ := o9 i q1 q2
  rw [w 54 _ (by omega) (by omega) (by omega), w 56 _ (by omega) (by omega) (by omega), w 57 _ (by omega) (by omega) (by omega), w 59 _ (by omega) (by omega) (by omega), w 60 _ (by omega) (by omega) (by omega)]
  refine ⟨v1, ?_, v3, v4, v5, v6⟩
  by_cases q : i < γ 26 g
  · rw [if_pos q, z3 55 _ (by omega) (by omega), f2 i q1 q, c68]
  · rw [if_neg q, w 55 _ (by omega) (by omega) (by omega)]; exact v2
/-- an equation's lefts get what stands on the stack -/
theorem define_L23 {γb : St} {f q B T l : Int} (h64 : γb 64 f = B) (h10 : γb 9 10 = T) (hd : ∀ i i', 0 ≤ i → i < i' → i' < l → γb 47 (γb 45 q + i) ≠ γb 47 (γb 45 q + i')) : ∀ (n : Nat) (γ : St) (i : Int), 0 ≤ i → (∀ j k, j ≠ 55 → γ j k = γb j k) → (∀ k, (∀ t, 0 ≤ t → t < l → k ≠ B + γb 47 (γb 45 q + t)) → γ 55 k = γb 55 k) → (∀ t, 0 ≤ t → t < i → t < l → γ 55 (B + γb 47 (γb 45 q + t)) = γb 68 (T + t)) → pc (f_Lk_define_L23 n γ f q l i) (fun z => (∀ j k, j ≠ 55 → z.2 j k = γb j k) ∧ (∀ k, (∀ t, 0 ≤ t → t < l → k ≠ B + γb 47 (γb 45 q + t)) → z.2 55 k = γb 55 k) ∧ ∀ t, 0 ≤ t → t < l → z.2 55 (B + γb 47 (γb 45 q + t)) = γb 68 (T + t)) := by
  intro n
  induction n with
  | zero => intro γ i _ _ _ _; exact pc_n
  | succ n ih =>
    intro γ i h0 hf ho hv
    unfold f_Lk_define_L23
    rw [hf 45 q (by omega), hf 64 f (by omega), h64, hf 47 _ (by omega), hf 9 10 (by omega), h10, hf 68 _ (by omega)]
    refine pc_i (fun r => pc_s ⟨hf, ho, fun t q1 q2 => hv t q1 (by omega) q2⟩) (fun r => pc_c (fun _ => pc_c (fun _ => pc_c (fun _ => pc_c (fun _ => pc_c (fun _ => pc_c (fun _ => pc_c (fun _ => pc_c (fun _ => pc_a ?_)))))))))
    have s : ∀ j k, setA γ 55 (B + γb 47 (γb 45 q + i)) (γb 68 (T + i)) j k = if j = 55 ∧ k = B + γb 47 (γb 45 q + i) then γb 68 (T + i) else γ j k := fun j k => by rw [stA]
    generalize setA γ 55 (B + γb 47 (γb 45 q + i)) (γb 68 (T + i)) = γ1 at *
    refine pc_c (fun _ => ih γ1 (i + 1) (by omega) (fun j k q1 => by rw [s, if_neg (by omega)]; exact hf j k q1) (fun k q1 => ?_) (fun t q1 q2 q3 => ?_))
    · have := q1 i h0 (by omega)
      rw [s, if_neg (by omega)]; exact ho k q1
    · by_cases q4 : t = i
      · rw [q4, s, if_pos ⟨rfl, rfl⟩]
      · have := hd t i q1 (by omega) (by omega)
        rw [s, if_neg (by omega)]; exact hv t q1 (by omega) q3
def DfX (γ γ' : St) (f q : Int) : Prop := (∀ j k, j ≠ 55 → (j ≠ 9 ∨ k ≠ 10) → (j ≠ 66 ∨ k ≠ f) → γ' j k = γ j k) ∧ γ' 9 10 = γ 9 10 - γ 46 q ∧ γ' 66 f = q + 1 ∧ (∀ k, (∀ t, 0 ≤ t → t < γ 46 q → k ≠ γ 64 f + γ 47 (γ 45 q + t)) → γ' 55 k = γ 55 k) ∧ ∀ t, 0 ≤ t → t < γ 46 q → γ' 55 (γ 64 f + γ 47 (γ 45 q + t)) = γ 68 (γ 9 10 - γ 46 q + t)
/-- a step of the linker at a part -/
theorem goOn_tk {γ : St} {f : Int} {P : St → Prop} (h1 : γ 66 f ≠ γ 29 (γ 63 f) + γ 30 (γ 63 f)) (h2 : γ 67 f < γ 44 (γ 66 f)) (hP : ∀ γ1, PrS γ γ1 f → pc (f_Lk_take γ1 f (γ 67 f)) (fun z => P z.2)) : pc (f_Lk_goOn γ f) (fun z => P z.2) := by
  unfold f_Lk_goOn
  refine pc_c (fun _ => pc_a (pc_c (fun _ => pc_a (pc_c (fun _ => pc_c (fun _ => pc_c (fun _ => ?_)))))))
  rw [if_pos h1]
  refine pc_c (fun _ => pc_c (fun _ => ?_))
  rw [if_neg (by omega)]
  refine pc_c (fun _ => pc_c (fun _ => pc_c (fun _ => pc_a ?_)))
  have v67 : setA γ 67 f (γ 67 f + 1) 67 f = γ 67 f + 1 := by rw [stA, if_pos ⟨rfl, rfl⟩]
  rw [v67, show γ 67 f + 1 - 1 = γ 67 f by omega]
  exact pc_c (fun _ => pc_c (fun _ => pc_b (hP _ (fun j k => by rw [stA])) (fun r γ2 q => pc_s q)))
theorem goOn_df {γ : St} {f q : Int} (hq : γ 66 f = q) (h1 : q ≠ γ 29 (γ 63 f) + γ 30 (γ 63 f)) (h2 : γ 44 q ≤ γ 67 f) (hd : ∀ i i', 0 ≤ i → i < i' → i' < γ 46 q → γ 47 (γ 45 q + i) ≠ γ 47 (γ 45 q + i')) : pc (f_Lk_goOn γ f) (fun z => DfX γ z.2 f q) := by
  unfold f_Lk_goOn
  refine pc_c (fun _ => pc_a (pc_c (fun _ => pc_a (pc_c (fun _ => pc_c (fun _ => pc_c (fun _ => ?_)))))))
  rw [hq, if_pos h1]
  refine pc_c (fun _ => pc_c (fun _ => ?_))
  rw [if_pos h2]
  refine pc_b (P := fun z => DfX γ (setA z.2 66 f (q + 1)) f q ∧ z.2 66 f = q) ?_ (fun r γ1 w => ?_)
  · unfold f_Lk_define
    refine pc_c (fun _ => pc_a (pc_c (fun _ => pc_a ?_)))
    have s : ∀ j k, setA γ 9 10 (γ 9 10 - γ 46 q) j k = if j = 9 ∧ k = 10 then γ 9 10 - γ 46 q else γ j k := fun j k => by rw [stA]
    generalize hb : setA γ 9 10 (γ 9 10 - γ 46 q) = γb at *
    have o : ∀ j k, j ≠ 9 → γb j k = γ j k := fun j k r => by rw [s, if_neg (by omega)]
    refine pc_m (define_L23 (γb := γb) (f := f) (q := q) (l := γ 46 q) rfl rfl (fun i i' r1 r2 r3 => by rw [o 45 q (by omega), o 47 _ (by omega), o 47 _ (by omega)]; exact hd i i' r1 r2 r3) FU γb 0 (Int.le_refl _) (fun _ _ _ => rfl) (fun _ _ => rfl) (fun t r1 r2 => by omega)) (fun z hz => ?_)
    obtain ⟨z1, z2, z3⟩ := hz
    have b10 : γb 9 10 = γ 9 10 - γ 46 q := by rw [s, if_pos ⟨rfl, rfl⟩]
    rw [o 64 f (by omega), o 45 q (by omega)] at z2 z3
    rw [b10] at z3
    refine ⟨⟨fun j k r1 r2 r3 => ?_, ?_, ?_, fun k r1 => ?_, fun t r1 r2 => ?_⟩, ?_⟩
    · rw [stA, if_neg (by omega), z1 j k r1, s, if_neg (by omega)]
    · rw [stA, if_neg (by omega), z1 9 10 (by omega), b10]
    · rw [stA, if_pos ⟨rfl, rfl⟩]
    · rw [stA, if_neg (by omega), z2 k (fun t q1 q2 => by rw [o 47 _ (by omega)]; exact r1 t q1 q2), o 55 k (by omega)]
    · have := z3 t r1 r2
      rw [o 47 _ (by omega), o 68 _ (by omega)] at this
      rw [stA, if_neg (by omega)]; exact this
    · rw [z1 66 f (by omega), o 66 f (by omega)]; exact hq
  · have w2 : γ1 66 f = q := w.2
    rw [w2]
    exact pc_c (fun _ => pc_c (fun _ => pc_c (fun _ => pc_a (pc_s w.1))))
theorem goOn_cl {γ : St} {f : Int} (h1 : γ 66 f = γ 29 (γ 63 f) + γ 30 (γ 63 f)) : pc (f_Lk_goOn γ f) (fun z => z.2 = setA γ 9 8 (γ 9 8 - 1)) := by
  unfold f_Lk_goOn
  refine pc_c (fun _ => pc_a (pc_c (fun _ => pc_a (pc_c (fun _ => pc_c (fun _ => pc_c (fun _ => ?_)))))))
  rw [if_neg (fun r => r h1)]
  exact pc_c (fun _ => pc_a (pc_s rfl))
/-- a step of the loop -/
def LkJ (γ0 : St) (m : Int) (γ : St) (i : Int) : Prop := LkI γ0 m γ ∧ i + 2 * sm (rF γ0 γ) 0 (γ 9 8) + γ 9 8 ≤ 3 * γ0 31 m + 1
theorem lk_step {β : Type} {γ0 γ : St} {m i : Int} {n : Nat} {M : Option β} {Q : Int × St → β → Prop} (hx : LkX γ0 m) (hJ : LkJ γ0 m γ i) (h0 : 0 < γ 9 8) {R : St → Prop} (hR : pc (f_Lk_goOn γ (γ 9 8 - 1)) (fun z => R z.2)) (k : ∀ n' γ', R γ' → LkJ γ0 m γ' (i + 1) → pq (f_Lk_link_L63 n' γ' (γ0 31 m) (i + 1)) M Q) : pq (f_Lk_link_L63 n γ (γ0 31 m) i) M Q := by
  cases n with
  | zero => exact pq_nl
  | succ n =>
    obtain ⟨hI, hm⟩ := hJ
    have nr := sm_nn (f := rF γ0 γ) (a := 0) (b := γ 9 8) (fun k q1 q2 => (hI.nn hx k q1 q2).2.1)
    unfold f_Lk_link_L63
    rw [if_neg (by omega)]
    refine pq_cl (fun _ => ?_)
    rw [if_neg (by omega)]
    have wg := (w_goOn hx hI h0).pc
    refine pq_cl (fun _ => pq_bl (P := fun z => R z.2 ∧ LkQ γ0 m γ z.2) (fun y e => ⟨hR y e, wg y e⟩) (fun r γ' w => pq_cl (fun _ => k n γ' w.1 ⟨w.2.1, ?_⟩)))
    have w2 : 2 * sm (rF γ0 γ') 0 (γ' 9 8) + γ' 9 8 + 1 ≤ 2 * sm (rF γ0 γ) 0 (γ 9 8) + γ 9 8 := w.2.2
    omega
