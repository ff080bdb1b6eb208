/-! equality: the class's linker, its steps -/
def ccK (B c a : Int) : Int := if a = -1 then c else 1 + 2 * B + a
def slC (c : Int) : Int := if c = 0 then -1 else (c - 1) / 2
theorem lpush_pc {γ : St} {a : Int} : pc (f_Lk_push γ a) (fun z => z = (0, setA (setA γ 68 (γ 9 10) a) 9 10 (γ 9 10 + 1))) := by
  unfold f_Lk_push
  refine pc_c (fun _ => pc_a ?_)
  have e : setA γ 68 (γ 9 10) a 9 10 = γ 9 10 := by rw [stA, if_neg (by omega)]
  rw [e]
  exact pc_c (fun _ => pc_a (pc_s rfl))
theorem sset_pc {γ : St} {s k o : Int} : pc (f_Sl_set γ s k o) (fun z => z = (0, setS γ s k o)) := by
  unfold f_Sl_set
  exact pc_c (fun _ => pc_a (pc_c (fun _ => pc_a (pc_c (fun _ => pc_a (pc_c (fun _ => pc_a (pc_c (fun _ => pc_a (pc_s rfl))))))))))
theorem sadd_pc {γ : St} {k o : Int} : pc (f_Sl_add γ k o) (fun z => z = (γ 8 5, setA (setS γ (γ 8 5) k o) 8 5 (γ 8 5 + 1))) := by
  unfold f_Sl_add
  refine pc_b sset_pc (fun r γ' e => ?_)
  cases e
  have e : setS γ (γ 8 5) k o 8 5 = γ 8 5 := by rw [setS_v, if_neg (by omega), if_neg (by omega), if_neg (by omega), if_neg (by omega), if_neg (by omega)]
  rw [e]
  refine pc_c (fun _ => pc_a (pc_c (fun _ => pc_s ?_)))
  rw [stA, if_pos ⟨rfl, rfl⟩, show γ 8 5 + 1 - 1 = γ 8 5 by omega]
theorem acell_pc {γ : St} {a c : Int} : pc (f_Sl_addCell γ a c) (fun z => z = (0, setA (setA (setA γ 61 (γ 8 11) a) 62 (γ 8 11) c) 8 11 (γ 8 11 + 1))) := by
  unfold f_Sl_addCell
  refine pc_c (fun _ => pc_a ?_)
  have e : setA γ 61 (γ 8 11) a 8 11 = γ 8 11 := by rw [stA, if_neg (by omega)]
  rw [e]
  refine pc_c (fun _ => pc_a ?_)
  have e2 : setA (setA γ 61 (γ 8 11) a) 62 (γ 8 11) c 8 11 = γ 8 11 := by rw [stA, if_neg (by omega), e]
  rw [e2]
  exact pc_c (fun _ => pc_a (pc_s rfl))
theorem pic_pc {γ : St} {f a : Int} : pc (f_Lk_putInClock γ f a) (fun z => z = (ccK (γ 64 f) (γ 65 f) a, γ)) := by
  unfold f_Lk_putInClock ccK
  refine pc_i (fun q => pc_c (fun _ => pc_c (fun _ => pc_c (fun _ => pc_c (fun _ => pc_s ?_))))) (fun q => pc_c (fun _ => pc_s ?_))
  · rw [if_neg q]
  · rw [if_pos (by omega)]
theorem slc_pc {γ : St} {a : Int} (h : 0 ≤ a) : pc (f_Sl_slotOfC γ a) (fun z => z = (slC a, γ)) := by
  unfold f_Sl_slotOfC slC
  refine pc_i (fun q => pc_c (fun _ => pc_s ?_)) (fun q => pc_s ?_)
  · rw [if_neg q, ishr_1 (by omega)]
  · rw [if_pos (by omega)]
/-- a variable's slot, when its node opens -/
def VrS (γ γ' : St) (g B oc pl i : Int) : Prop := γ' 54 (B + i) = 2 ∧ γ' 55 (B + i) = -1 ∧ γ' 57 (B + i) = -1 ∧ γ' 59 (B + i) = ccK B oc (γ 34 (γ 25 g + i)) ∧ γ' 56 (B + i) = slC (γ' 59 (B + i)) ∧ γ' 60 (B + i) = (if i < γ 26 g then pl else γ 37 (γ 25 g + i))
theorem open_L91 {γ0 : St} {g pl oc B F : Int} (hoc : 0 ≤ oc) (hB : 0 ≤ B) (h34 : ∀ i, 0 ≤ i → i < γ0 28 g → -1 ≤ γ0 34 (γ0 25 g + i)) {Q : Int × St → Prop} (hQ : ∀ γ, (∀ j k, (j < 54 ∨ 60 < j ∨ k < B ∨ B + γ0 28 g ≤ k) → γ j k = γ0 j k) → (∀ i, 0 ≤ i → i < γ0 28 g → VrS γ0 γ g B oc pl i) → pc (f_Lk_openNode_b226 γ g) Q) (e8 : γ0 9 8 = F) (e11 : γ0 9 11 = B) (e64 : γ0 64 F = B) (e65 : γ0 65 F = oc) : ∀ (n : Nat) (γ : St) (i : Int), 0 ≤ i → (∀ j k, (j < 54 ∨ 60 < j ∨ k < B ∨ B + γ0 28 g ≤ k) → γ j k = γ0 j k) → (∀ t, 0 ≤ t → t < i → t < γ0 28 g → VrS γ0 γ g B oc pl t) → pc (f_Lk_openNode_L91 f_Lk_openNode_b226 n γ g pl (γ0 25 g) i) Q := by
  intro n
  induction n with
  | zero => intro γ i _ _ _; exact pc_n
  | succ n ih =>
    intro γ i h0 hf hv
    unfold f_Lk_openNode_L91
    rw [hf 28 g (by omega), hf 9 11 (by omega), e11]
    refine pc_c (fun _ => pc_i (fun q => hQ γ hf (fun t q1 q2 => hv t q1 (by omega) q2)) (fun q => ?_))
    refine pc_c (fun _ => pc_a (pc_b sset_pc (fun r γ1 e => ?_)))
    have s1 : ∀ j k, γ1 j k = if j = 57 ∧ k = B + i then -1 else if j = 56 ∧ k = B + i then -1 else if j = 55 ∧ k = B + i then -1 else if j = 58 ∧ k = B + i then 0 else if j = 54 ∧ k = B + i then 2 else γ j k := fun j k => by cases e; rw [setS_v]
    clear e
    have o1 : ∀ j k, (j < 54 ∨ 58 < j ∨ k ≠ B + i) → γ1 j k = γ j k := fun j k q => by rw [s1, if_neg (by omega), if_neg (by omega), if_neg (by omega), if_neg (by omega), if_neg (by omega)]
    rw [o1 9 8 (by omega), hf 9 8 (by omega), e8, o1 34 _ (by omega), hf 34 _ (by omega)]
    refine pc_c (fun _ => pc_c (fun _ => pc_b pic_pc (fun r γ2 e => ?_)))
    cases e
    rw [o1 64 _ (by omega), o1 65 _ (by omega), hf 64 _ (by omega), hf 65 _ (by omega), e64, e65]
    have c0 : 0 ≤ ccK B oc (γ0 34 (γ0 25 g + i)) := by
      have := h34 i h0 (by omega)
      unfold ccK
      by_cases q2 : γ0 34 (γ0 25 g + i) = -1
      · rw [if_pos q2]; exact hoc
      · rw [if_neg q2]; omega
    generalize hc : ccK B oc (γ0 34 (γ0 25 g + i)) = cc at *
    refine pc_c (fun _ => pc_a ?_)
    have s2 : ∀ j k, setA γ1 59 (B + i) cc j k = if j = 59 ∧ k = B + i then cc else γ1 j k := fun j k => by rw [stA]
    generalize setA γ1 59 (B + i) cc = γ2 at *
    have v59 : γ2 59 (B + i) = cc := by rw [s2, if_pos ⟨rfl, rfl⟩]
    rw [v59]
    refine pc_c (fun _ => pc_b (slc_pc c0) (fun r γ3 e => ?_))
    cases e
    refine pc_c (fun _ => pc_a ?_)
    have s3 : ∀ j k, setA γ2 56 (B + i) (slC cc) j k = if j = 56 ∧ k = B + i then slC cc else if j = 59 ∧ k = B + i then cc else γ1 j k := fun j k => by rw [stA, s2]
    generalize setA γ2 56 (B + i) (slC cc) = γ3 at *
    have o3 : ∀ j k, (j < 54 ∨ 59 < j ∨ k ≠ B + i) → γ3 j k = γ j k := fun j k q => by rw [s3, if_neg (by omega), if_neg (by omega)]; exact o1 j k (by omega)
    have nx : ∀ p, p = (if i < γ0 26 g then pl else γ0 37 (γ0 25 g + i)) → pc (f_Lk_openNode_b219 (f_Lk_openNode_L91 f_Lk_openNode_b226 n) f_Lk_openNode_b226 γ3 g pl (γ0 25 g) i p (B + i)) Q := fun p hp => by
      unfold f_Lk_openNode_b219
      refine pc_c (fun _ => pc_a ?_)
      have s4 : ∀ j k, setA γ3 60 (B + i) p j k = if j = 60 ∧ k = B + i then p else γ3 j k := fun j k => by rw [stA]
      generalize setA γ3 60 (B + i) p = γ4 at *
      have o4 : ∀ j k, (j < 54 ∨ 60 < j ∨ k ≠ B + i) → γ4 j k = γ j k := fun j k q => by rw [s4, if_neg (by omega)]; exact o3 j k (by omega)
      refine pc_c (fun _ => ih γ4 (i + 1) (by omega) (fun j k q1 => by rw [o4 j k (by omega)]; exact hf j k q1) (fun t q1 q2 q3 => ?_))
      by_cases q4 : t = i
      · subst q4
        have a59 : γ4 59 (B + t) = cc := by rw [s4, if_neg (by omega), s3, if_neg (by omega), if_pos ⟨rfl, rfl⟩]
        refine ⟨?_, ?_, ?_, by rw [a59, hc], ?_, ?_⟩
        · rw [s4, if_neg (by omega), s3, if_neg (by omega), if_neg (by omega), s1, if_neg (by omega), if_neg (by omega), if_neg (by omega), if_neg (by omega), if_pos ⟨rfl, rfl⟩]
        · rw [s4, if_neg (by omega), s3, if_neg (by omega), if_neg (by omega), s1, if_neg (by omega), if_neg (by omega), if_pos ⟨rfl, rfl⟩]
        · rw [s4, if_neg (by omega), s3, if_neg (by omega), if_neg (by omega), s1, if_pos ⟨rfl, rfl⟩]
        · rw [a59, s4, if_neg (by omega), s3, if_pos ⟨rfl, rfl⟩]
        · rw [s4, if_pos ⟨rfl, rfl⟩]; exact hp
      · have v := hv t q1 (by omega) q3
        unfold VrS at v ⊢
        rw [o4 54 _ (by omega), o4 55 _ (by omega), o4 56 _ (by omega), o4 57 _ (by omega), o4 59 _ (by omega), o4 60 _ (by omega)]
        exact v
    rw [o3 26 g (by omega), hf 26 g (by omega), o3 37 _ (by omega), hf 37 _ (by omega)]
    refine pc_c (fun _ => pc_i (fun q2 => pc_c (fun _ => pc_c (fun _ => nx _ ?_))) (fun q2 => nx _ ?_))
    · rw [if_neg (by omega)]
    · rw [if_pos (by omega)]
/-- a node opens -/
def OpX (γ γ' : St) (g oc pl : Int) : Prop := γ' 9 8 = γ 9 8 + 1 ∧ γ' 9 11 = γ 9 11 + γ 28 g ∧ (γ' 63 (γ 9 8) = g ∧ γ' 64 (γ 9 8) = γ 9 11 ∧ γ' 65 (γ 9 8) = oc ∧ γ' 66 (γ 9 8) = γ 29 g ∧ γ' 67 (γ 9 8) = γ 43 (γ 29 g)) ∧ (∀ j k, (j ≠ 9 ∨ k ≠ 8 ∧ k ≠ 11) → (j < 54 ∨ 60 < j ∨ k < γ 9 11 ∨ γ 9 11 + γ 28 g ≤ k) → (j < 63 ∨ 67 < j ∨ k ≠ γ 9 8) → γ' j k = γ j k) ∧ ∀ i, 0 ≤ i → i < γ 28 g → VrS γ γ' g (γ 9 11) oc pl i
theorem lkOpen_pc {γ : St} {g oc pl : Int} (hoc : 0 ≤ oc) (hB : 0 ≤ γ 9 11) (h34 : ∀ i, 0 ≤ i → i < γ 28 g → -1 ≤ γ 34 (γ 25 g + i)) : pc (f_Lk_openNode γ g oc pl) (fun z => OpX γ z.2 g oc pl) := by
  unfold f_Lk_openNode
  refine pc_c (fun _ => pc_a (pc_c (fun _ => pc_a ?_)))
  have a1 : setA γ 63 (γ 9 8) g 9 8 = γ 9 8 ∧ setA γ 63 (γ 9 8) g 9 11 = γ 9 11 := by rw [stA, if_neg (by omega), stA, if_neg (by omega)]; exact ⟨rfl, rfl⟩
  rw [a1.1, a1.2]
  have s1 : ∀ j k, setA γ 63 (γ 9 8) g j k = if j = 63 ∧ k = γ 9 8 then g else γ j k := fun j k => by rw [stA]
  generalize setA γ 63 (γ 9 8) g = γ1 at *
  refine pc_c (fun _ => pc_a ?_)
  have s2 : ∀ j k, setA γ1 64 (γ 9 8) (γ 9 11) j k = if j = 64 ∧ k = γ 9 8 then γ 9 11 else γ1 j k := fun j k => by rw [stA]
  generalize setA γ1 64 (γ 9 8) (γ 9 11) = γ2 at *
  have b2 : γ2 9 8 = γ 9 8 := by rw [s2, if_neg (by omega)]; exact a1.1
  rw [b2]
  refine pc_c (fun _ => pc_a ?_)
  have s3 : ∀ j k, setA γ2 65 (γ 9 8) oc j k = if j = 65 ∧ k = γ 9 8 then oc else γ2 j k := fun j k => by rw [stA]
  generalize setA γ2 65 (γ 9 8) oc = γ3 at *
  have o3 : ∀ j k, (j < 63 ∨ 65 < j ∨ k ≠ γ 9 8) → γ3 j k = γ j k := fun j k q => by rw [s3, if_neg (by omega), s2, if_neg (by omega), s1, if_neg (by omega)]
  rw [o3 9 8 (by omega), o3 29 _ (by omega)]
  refine pc_c (fun _ => pc_c (fun _ => pc_a ?_))
  have s4 : ∀ j k, setA γ3 66 (γ 9 8) (γ 29 g) j k = if j = 66 ∧ k = γ 9 8 then γ 29 g else γ3 j k := fun j k => by rw [stA]
  generalize setA γ3 66 (γ 9 8) (γ 29 g) = γ4 at *
  have o4 : ∀ j k, (j < 63 ∨ 66 < j ∨ k ≠ γ 9 8) → γ4 j k = γ j k := fun j k q => by rw [s4, if_neg (by omega)]; exact o3 j k (by omega)
  rw [o4 29 _ (by omega), o4 9 8 (by omega), o4 43 _ (by omega)]
  refine pc_c (fun _ => pc_c (fun _ => pc_c (fun _ => pc_a ?_)))
  have s5 : ∀ j k, setA γ4 67 (γ 9 8) (γ 43 (γ 29 g)) j k = if j = 67 ∧ k = γ 9 8 then γ 43 (γ 29 g) else γ4 j k := fun j k => by rw [stA]
  generalize setA γ4 67 (γ 9 8) (γ 43 (γ 29 g)) = γ5 at *
  have o5 : ∀ j k, (j < 63 ∨ 67 < j ∨ k ≠ γ 9 8) → γ5 j k = γ j k := fun j k q => by rw [s5, if_neg (by omega)]; exact o4 j k (by omega)
  have w63 : γ5 63 (γ 9 8) = g := by rw [s5, if_neg (by omega), s4, if_neg (by omega), s3, if_neg (by omega), s2, if_neg (by omega), s1, if_pos ⟨rfl, rfl⟩]
  have w64 : γ5 64 (γ 9 8) = γ 9 11 := by rw [s5, if_neg (by omega), s4, if_neg (by omega), s3, if_neg (by omega), s2, if_pos ⟨rfl, rfl⟩]
  have w65 : γ5 65 (γ 9 8) = oc := by rw [s5, if_neg (by omega), s4, if_neg (by omega), s3, if_pos ⟨rfl, rfl⟩]
  have w66 : γ5 66 (γ 9 8) = γ 29 g := by rw [s5, if_neg (by omega), s4, if_pos ⟨rfl, rfl⟩]
  have w67 : γ5 67 (γ 9 8) = γ 43 (γ 29 g) := by rw [s5, if_pos ⟨rfl, rfl⟩]
  clear s1 s2 s3 s4 s5 o3 o4 a1 b2
  have e28 : γ5 28 g = γ 28 g := o5 28 g (by omega)
  have e25 : γ5 25 g = γ 25 g := o5 25 g (by omega)
  rw [← e25]
  refine open_L91 (γ0 := γ5) (g := g) (pl := pl) (oc := oc) (B := γ 9 11) (F := γ 9 8) hoc hB (fun i q1 q2 => ?_) (fun γ6 f1 f2 => ?_) (o5 9 8 (by omega)) (o5 9 11 (by omega)) w64 w65 FU γ5 0 (Int.le_refl _) (fun _ _ _ => rfl) (fun t q1 q2 => by omega)
  · rw [e28] at q2
    rw [o5 34 _ (by omega), e25]
    exact h34 i q1 q2
  · unfold f_Lk_openNode_b226
    rw [e28] at f1 f2
    rw [f1 9 11 (by omega), f1 28 g (by omega), e28, o5 9 11 (by omega)]
    refine pc_c (fun _ => pc_c (fun _ => pc_a ?_))
    have t1 : setA γ6 9 11 (γ 9 11 + γ 28 g) 9 8 = γ 9 8 := by rw [stA, if_neg (by omega), f1 9 8 (by omega), o5 9 8 (by omega)]
    rw [t1]
    refine pc_c (fun _ => pc_a (pc_s ?_))
    have t2 : ∀ j k, setA (setA γ6 9 11 (γ 9 11 + γ 28 g)) 9 8 (γ 9 8 + 1) j k = if j = 9 ∧ k = 8 then γ 9 8 + 1 else if j = 9 ∧ k = 11 then γ 9 11 + γ 28 g else γ6 j k := fun j k => by rw [stA, stA]
    show OpX γ (setA (setA γ6 9 11 (γ 9 11 + γ 28 g)) 9 8 (γ 9 8 + 1)) g oc pl
    generalize setA (setA γ6 9 11 (γ 9 11 + γ 28 g)) 9 8 (γ 9 8 + 1) = γ7 at *
    have o7 : ∀ j k, (j ≠ 9 ∨ k ≠ 8 ∧ k ≠ 11) → γ7 j k = γ6 j k := fun j k q => by rw [t2, if_neg (by omega), if_neg (by omega)]
    refine ⟨by rw [t2, if_pos ⟨rfl, rfl⟩], by rw [t2, if_neg (by omega), if_pos ⟨rfl, rfl⟩], ⟨?_, ?_, ?_, ?_, ?_⟩, fun j k q1 q2 q3 => ?_, fun i q1 q2 => ?_⟩
    · rw [o7 _ _ (by omega), f1 63 _ (by omega)]; exact w63
    · rw [o7 _ _ (by omega), f1 64 _ (by omega)]; exact w64
    · rw [o7 _ _ (by omega), f1 65 _ (by omega)]; exact w65
    · rw [o7 _ _ (by omega), f1 66 _ (by omega)]; exact w66
    · rw [o7 _ _ (by omega), f1 67 _ (by omega)]; exact w67
    · rw [o7 j k q1, f1 j k (by omega)]; exact o5 j k (by omega)
    · have v := f2 i q1 q2
      unfold VrS at v ⊢
      rw [o7 54 _ (by omega), o7 55 _ (by omega), o7 56 _ (by omega), o7 57 _ (by omega), o7 59 _ (by omega), o7 60 _ (by omega)]
      rw [o5 34 _ (by omega), o5 37 _ (by omega), e25, o5 26 _ (by omega)] at v
      exact v
