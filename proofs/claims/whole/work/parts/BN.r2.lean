/-! equality: one step of reduce, as a function -/
def caS (γ : St) (a0 a1 a2 : Int) : St := fun j k => if j = 4 ∧ k = 4 then γ 4 4 + 1 else if j = 41 ∧ k = γ 4 4 then -2 else if j = 40 ∧ k = γ 4 4 then a2 else if j = 39 ∧ k = γ 4 4 then a1 else if j = 38 ∧ k = γ 4 4 then a0 else γ j k
theorem cdadd_pc {γ : St} {a0 a1 a2 : Int} : pc (f_Cd_add γ a0 a1 a2) (fun z => z = (0, caS γ a0 a1 a2)) := by
  unfold f_Cd_add
  refine pc_c (fun _ => pc_a (pc_c (fun _ => pc_a (pc_c (fun _ => pc_a (pc_c (fun _ => pc_a (pc_c (fun _ => pc_a (pc_s ?_))))))))))
  refine congrArg (Prod.mk 0) (funext fun j => funext fun k => ?_)
  simp [stA, caS]
theorem caS_o (γ : St) (a0 a1 a2 : Int) {j : Nat} {k : Int} (h : j ≠ 4 ∨ k ≠ 4) (h2 : j < 38 ∨ 41 < j ∨ k ≠ γ 4 4) : caS γ a0 a1 a2 j k = γ j k := by
  show (if _ then _ else _) = _
  repeat rw [if_neg (by omega)]
/-- the highest of some operands -/
def mxN (γ : St) (o : Int) : Nat → Int → Int → Int
  | 0, _, d => d
  | k + 1, i, d => mxN γ o k (i + 1) (if d < γ 52 (o - 1 + i) then γ 52 (o - 1 + i) else d)
theorem L119_pc {P : Int × St → Prop} {e : St → Int → Int → Int → Int → Option (Int × St)} {a b c : Int} : ∀ (n : Nat) (γ : St) (d i : Int), pc (e γ a b c (mxN γ (γ 6 9) (c - i).toNat i d)) P → pc (f_Er_reduce_L119 e n γ a b c d i) P := by
  intro n
  induction n with
  | zero => intro γ d i _; exact pc_n
  | succ n ih =>
    intro γ d i h
    unfold f_Er_reduce_L119 f_Er_reduce_b164
    refine pc_i (fun q => ?_) (fun q => ?_)
    · rw [show (c - i).toNat = 0 by omega] at h
      exact h
    · rw [show (c - i).toNat = (c - (i + 1)).toNat + 1 by omega] at h
      refine pc_c (fun _ => pc_c (fun _ => pc_c (fun _ => pc_i (fun q2 => ?_) (fun q2 => ?_))))
      · refine pc_c (fun _ => pc_c (fun _ => pc_c (fun _ => pc_c (fun _ => ih γ _ (i + 1) ?_))))
        unfold mxN at h
        rw [if_pos q2] at h
        exact h
      · refine pc_c (fun _ => ih γ _ (i + 1) ?_)
        unfold mxN at h
        rw [if_neg q2] at h
        exact h
/-- how many sides -/
def sidK (k : Int) : Int := if k = 34 then 3 else if rankK k = 8 then 1 else 2
/-- the stack and the heights, one taken down -/
def rdT (γ : St) (m : Int) : St := fun j k => if j = 52 ∧ k = γ 6 9 - (sidK (topK γ) - 1) - 1 then m + 1 else if j = 6 ∧ k = 9 then γ 6 9 - (sidK (topK γ) - 1) else if j = 6 ∧ k = 10 then γ 6 10 - nestK (topK γ) else if j = 6 ∧ k = 8 then γ 6 8 - 1 else γ j k
/-- the highest of the sides -/
def rdM (γ : St) : Int := mxN γ (γ 6 9 - (sidK (topK γ) - 1)) (sidK (topK γ) - 1).toNat 1 (γ 52 (γ 6 9 - (sidK (topK γ) - 1) - 1))
def rdS (γ : St) : St := caS (rdT γ (rdM γ)) (if topK γ ≠ 34 then topK γ else 32) 0 (sidK (topK γ))
theorem mxN_fr {γ γ' : St} {o : Int} (e : ∀ k, γ' 52 k = γ 52 k) : ∀ (n : Nat) (i d : Int), mxN γ' o n i d = mxN γ o n i d
  | 0, _, _ => rfl
  | n + 1, i, d => by
    unfold mxN
    rw [e, mxN_fr e n]
theorem b75_pc {P : Int × St → Prop} {γ γ0 : St} {x s : Int} (hf : γ0 1 7 = 0) (ht : γ = setA γ0 6 8 (γ0 6 8 - 1)) (hs : s = sidK (topK γ0)) (h1 : rdM γ0 < 200 → P (1, rdS γ0)) (h2 : 200 ≤ rdM γ0 → P (0, flS (rdS γ0) 3)) : pc (f_Er_reduce_b75 k0 γ x (topK γ0) s) P := by
  unfold f_Er_reduce_b75
  refine pc_b (P := fun z => z = (nestK (topK γ0), γ)) (fun y e => by rw [f_S_nesting_eq] at e; cases e; rfl) (fun r γ1 e => ?_)
  cases e
  refine pc_c (fun _ => pc_a (pc_c (fun _ => pc_c (fun _ => pc_a (pc_c (fun _ => pc_c (fun _ => pc_a ?_)))))))
  refine L119_pc FU _ _ 1 ?_
  generalize hg : setA (setA γ 6 10 _) 6 9 _ = γ2
  have s2 : ∀ j k, γ2 j k = if j = 6 ∧ k = 9 then γ0 6 9 - (s - 1) else if j = 6 ∧ k = 10 then γ0 6 10 - nestK (topK γ0) else if j = 6 ∧ k = 8 then γ0 6 8 - 1 else γ0 j k := fun j k => by
    rw [← hg, ht]
    simp [stA]
  have e52 : ∀ k, γ2 52 k = γ0 52 k := fun k => by rw [s2, if_neg (by omega), if_neg (by omega), if_neg (by omega)]
  have e69 : γ2 6 9 = γ0 6 9 - (s - 1) := by rw [s2, if_pos ⟨rfl, rfl⟩]
  have em : mxN γ2 (γ2 6 9) (s - 1).toNat 1 (γ2 52 (γ2 6 9 - 1)) = rdM γ0 := by
    rw [mxN_fr e52, e69, e52, hs]; rfl
  rw [em]
  unfold f_Er_reduce_b172
  refine pc_c (fun _ => pc_c (fun _ => pc_c (fun _ => pc_a ?_)))
  have eT : setA γ2 52 (γ2 6 9 - 1) (rdM γ0 + 1) = rdT γ0 (rdM γ0) := by
    funext j k
    show _ = (if _ then _ else _)
    rw [stA, e69, s2, hs]
  rw [eT]
  have fin : ∀ kd, kd = (if topK γ0 ≠ 34 then topK γ0 else 32) → pc (f_Er_reduce_b203 k0 (rdT γ0 (rdM γ0)) x s (rdM γ0) kd) P := fun kd hk => by
    unfold f_Er_reduce_b203
    refine pc_b cdadd_pc (fun r γ3 e => ?_)
    cases e
    have eS : caS (rdT γ0 (rdM γ0)) kd 0 s = rdS γ0 := by unfold rdS; rw [hk, hs]
    rw [eS]
    refine pc_i (fun q => pc_s (h1 q)) (fun q => ?_)
    have f7 : rdS γ0 1 7 = 0 := by
      unfold rdS
      rw [caS_o _ _ _ _ (by omega) (by omega)]
      show (if _ then _ else _) = _
      rw [if_neg (by omega), if_neg (by omega), if_neg (by omega), if_neg (by omega)]
      exact hf
    refine pc_b (fail_pc f7) (fun r γ3 e => ?_)
    cases e
    rw [if_pos rfl]
    exact pc_s (h2 (by omega))
  refine pc_i (fun q => fin _ (by rw [if_pos q])) (fun q => fin _ (by rw [if_neg q]))
theorem rd1_pc {γ : St} {x : Int} (hf : γ 1 7 = 0) : pc (rd1 γ x) (fun z => rdM γ < 200 ∧ z = (1, rdS γ) ∨ 200 ≤ rdM γ ∧ z = (0, flS (rdS γ) 3)) := by
  unfold rd1
  refine pc_c (fun _ => pc_a (pc_c (fun _ => pc_a ?_)))
  have e1 : setA γ 6 8 (γ 6 8 - 1) 6 8 = γ 6 8 - 1 := by rw [stA, if_pos ⟨rfl, rfl⟩]
  have e2 : setA γ 6 8 (γ 6 8 - 1) 48 (γ 6 8 - 1) = topK γ := by rw [stA, if_neg (by omega)]; rfl
  rw [e1, e2]
  have fin : ∀ s, s = sidK (topK γ) → pc (f_Er_reduce_b75 k0 (setA γ 6 8 (γ 6 8 - 1)) x (topK γ) s) (fun z => rdM γ < 200 ∧ z = (1, rdS γ) ∨ 200 ≤ rdM γ ∧ z = (0, flS (rdS γ) 3)) := fun s hs => b75_pc hf rfl hs (fun q => Or.inl ⟨q, rfl⟩) (fun q => Or.inr ⟨q, rfl⟩)
  refine pc_i (fun q => ?_) (fun q => fin 3 (by unfold sidK; rw [if_pos (by omega)]))
  refine pc_b (P := fun z => z = (rankK (topK γ), setA γ 6 8 (γ 6 8 - 1))) (fun y e => by rw [f_S_rank_eq] at e; cases e; rfl) (fun r γ1 e => ?_)
  cases e
  refine pc_i (fun q2 => fin 2 (by unfold sidK; rw [if_neg q, if_neg q2])) (fun q2 => fin 1 (by unfold sidK; rw [if_neg q, if_pos (by omega)]))
