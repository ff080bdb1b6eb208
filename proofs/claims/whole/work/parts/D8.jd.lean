/-! equality: an equation is judged -/
def K41 (γ : St) (z : Int × St) : Prop := ∀ k, z.2 41 k = γ 41 k
theorem ck41_o {o inp first : Int} : ∀ (n : Nat) (γ : St) (x : Int), pc (f_Ck_checkCall_L121 n γ o inp first x) (K41 γ) := by
  intro n
  induction n with
  | zero => intro γ x; exact pc_n
  | succ n ih =>
    intro γ x
    unfold f_Ck_checkCall_L121
    refine pc_i (fun _ => pc_s (fun _ => rfl)) (fun _ => pc_c (fun _ => pc_c (fun _ => pc_c (fun _ => pc_c (fun _ => pc_a (pc_c (fun _ => pc_a (pc_c (fun _ => ?_)))))))))
    refine pc_m (ih _ _) (fun z hz k => ?_)
    rw [hz k, stA, if_neg (by omega), stA, if_neg (by omega)]
theorem ck41_i {o inp first : Int} : ∀ (n : Nat) (γ : St) (x : Int), pc (f_Ck_checkCall_L75 f_Ck_checkCall_b118 n γ o inp first x) (K41 γ) := by
  intro n
  induction n with
  | zero => intro γ x; exact pc_n
  | succ n ih =>
    intro γ x
    unfold f_Ck_checkCall_L75
    exact pc_i (fun _ => ck41_o FU γ 0) (fun _ => pc_c (fun _ => pc_c (fun _ => pc_c (fun _ => pc_c (fun _ => pc_i (fun _ => pc_c (fun _ => ih γ _)) (fun _ => pc_s (fun _ => rfl)))))))
theorem ctS_41 (γ : St) (s v k : Int) : ctS γ s v 41 k = γ 41 k := ctS_o γ s v (by omega) (by omega)
theorem ck41_t {γ : St} {e o : Int} : pc (f_Ck_checkType γ e o) (K41 γ) := by
  by_cases h : γ 38 e = 43
  · unfold f_Ck_checkType
    refine pc_c (fun _ => pc_a (pc_c (fun _ => pc_a ?_)))
    rw [if_neg (show ¬ (γ 38 e ≠ 43) from fun r => r h)]
    refine pc_b (P := K41 γ) ?_ (fun r γ' hh => pc_s hh)
    unfold f_Ck_checkCall
    refine pc_c (fun _ => pc_a (pc_c (fun _ => pc_a (pc_c (fun _ => pc_i (fun _ => pc_s (fun _ => rfl)) (fun _ => pc_c (fun _ => pc_i (fun _ => pc_c (fun _ => pc_a (pc_c (fun _ => pc_a ?_)))) (fun _ => pc_s (fun _ => rfl)))))))))
    refine pc_m (ck41_i FU _ _) (fun z hz k => ?_)
    rw [hz k, stA, if_neg (by omega)]
  · by_cases hs : γ 40 e = 0
    · refine pc_m (ckT_0 h hs) (fun z hz k => ?_)
      rw [hz]
      show ctS γ 0 (if γ 38 e = 2 then γ 33 (γ 7 5 + γ 39 e) else if γ 38 e = 3 then 0 else 1) 41 k = γ 41 k
      rw [ctS_41]
    · refine pc_m (ckT_n h hs) (fun z hz k => ?_)
      rw [hz]
      exact ctS_41 γ (γ 40 e) (taK (γ 38 e) (γ 53 (γ 7 4 - 1))) k
theorem ck41_a {γ : St} {k p : Int} : pc (f_Tk_failAt γ k p) (K41 γ) := by
  unfold f_Tk_failAt
  refine pc_i (fun _ => pc_s (fun _ => rfl)) (fun _ => pc_a (pc_a (pc_s (fun q => ?_))))
  show setA (setA γ 1 7 k) 1 8 p 41 q = _
  rw [stA, if_neg (by omega), stA, if_neg (by omega)]
theorem ck41_f {γ : St} {a k : Int} : pc (f_Ck_typesFit_b161 γ a k) (K41 γ) := by
  unfold f_Ck_typesFit_b161
  refine pc_i (fun _ => pc_s (fun _ => rfl)) (fun _ => pc_c (fun _ => pc_b ck41_a (fun r γ' hh => ?_)))
  exact pc_i (fun _ => pc_s hh) (fun _ => pc_s hh)
theorem ck41_l : ∀ (n : Nat) (γ : St) (a k i : Int), pc (f_Ck_typesFit_L75 f_Ck_typesFit_b161 n γ a k i) (K41 γ) := by
  intro n
  induction n with
  | zero => intro γ a k i; exact pc_n
  | succ n ih =>
    intro γ a k i
    unfold f_Ck_typesFit_L75 f_Ck_typesFit_b153 f_Ck_typesFit_b154
    refine pc_i (fun _ => ck41_f) (fun _ => pc_c (fun _ => pc_i (fun _ => ck41_f) (fun _ => pc_c (fun _ => pc_c (fun _ => pc_c (fun _ => pc_c (fun _ => pc_a ?_)))))))
    exact pc_i (fun _ => pc_c (fun _ => ih γ _ _ _)) (fun _ => pc_c (fun _ => pc_c (fun _ => pc_i (fun _ => pc_c (fun _ => ih γ _ _ _)) (fun _ => pc_c (fun _ => ih γ _ _ _)))))
theorem ck41_p : ∀ (n : Nat) (γ : St) (a k l i : Int), pc (f_Ck_typesFit_L30 f_Ck_typesFit_b72 n γ a k l i) (K41 γ) := by
  intro n
  induction n with
  | zero => intro γ a k l i; exact pc_n
  | succ n ih =>
    intro γ a k l i
    have e : ∀ γ a k, pc (f_Ck_typesFit_b72 γ a k) (K41 γ) := fun γ a k => ck41_l FU γ a k 0
    have b62 : ∀ o, pc (f_Ck_typesFit_b62 (f_Ck_typesFit_L30 f_Ck_typesFit_b72 n) f_Ck_typesFit_b72 γ a l i o i) (K41 γ) := fun o => by
      unfold f_Ck_typesFit_b62
      refine pc_b ck41_t (fun r γ' hh => pc_c (fun _ => pc_m (ih γ' _ _ _ _) (fun z hz q => ?_)))
      rw [hz q]; exact hh q
    unfold f_Ck_typesFit_L30
    exact pc_i (fun _ => e _ _ _) (fun _ => pc_i (fun _ => e _ _ _) (fun _ => pc_i (fun _ => b62 1) (fun _ => pc_c (fun _ => b62 _))))
theorem ck41 {γ : St} {a : Int} : pc (f_Ck_typesFit γ a) (K41 γ) := by
  unfold f_Ck_typesFit
  refine pc_a (pc_c (fun _ => pc_c (fun _ => pc_a (pc_c (fun _ => pc_a ?_)))))
  refine pc_m (ck41_p FU _ _ _ _ _) (fun z hz k => ?_)
  rw [hz k, stA, if_neg (by omega)]
theorem pq_andl {α β : Type} {o : Option α} {m : Option β} {Q : α → β → Prop} {P : α → Prop} (h : pq o m Q) (k : pc o P) : pq o m (fun y z => Q y z ∧ P y) := fun y z e1 e2 => ⟨h y z e1 e2, k y e1⟩
/-- types, then clocks -/
def ckE (γ : St) (a : Int) : Option (Int × St) := bndN (f_Ck_typesFit γ a) fun r γ' => if r = 0 then some (0, γ') else f_Ck_clocksFit γ' a
theorem pq_judge {γ δ : St} {a : Int} (c0 : CkC γ δ) (j0 : JI δ a) (b14 : ∀ v, δ 14 v = 0 ∨ δ 14 v = 1) (hE : a < δ 0 30) (hl31 : δ 16 (a + 1) ≤ δ 0 31) (h40 : δ 17 a < δ 0 40) : pq (ckE γ a) (f_M_judge δ a) (OuR (CfR γ (setA δ 0 42 (δ 15 a)) a)) := by
  have s0 : ∀ (j : Nat) (k : Int), j ≠ 0 ∨ k ≠ 42 → setA δ 0 42 (δ 15 a) j k = δ j k := fun j k r => by rw [stA, if_neg (by omega)]
  have s42 : setA δ 0 42 (δ 15 a) 0 42 = δ 15 a := by rw [stA, if_pos ⟨rfl, rfl⟩]
  have fk : Fk 0 0 δ (setA δ 0 42 (δ 15 a)) := fun j k r1 _ _ => s0 j k (by omega)
  rw [judge_s]
  refine pq_cr (fun _ => pq_ar ?_)
  generalize hd : setA δ 0 42 (δ 15 a) = δ1 at *
  have c1 := c0.fr Fck.rf fk
  have j1 : JI δ1 a := j0.fk fk (fun v => by rw [s0 28 v (by omega)]; exact j0.2.1 v)
  have b14' : ∀ v, δ1 14 v = 0 ∨ δ1 14 v = 1 := fun v => by rw [s0 14 v (by omega)]; exact b14 v
  have e15 := s0 15 a (by omega)
  have hE1 : a < δ1 0 30 := by rw [s0 0 30 (by omega)]; exact hE
  have hl1 : δ1 16 (a + 1) ≤ δ1 0 31 := by rw [s0 16 _ (by omega), s0 0 31 (by omega)]; exact hl31
  have h41 : δ1 17 a < δ1 0 40 := by rw [s0 17 _ (by omega), s0 0 40 (by omega)]; exact h40
  have dc := j1.1
  have hv : ∀ x, 0 ≤ x → x < δ1 0 19 - δ1 4 (δ1 0 18) → -1 ≤ δ1 12 (δ1 4 (δ1 0 18) + x) := fun x r1 r2 => by
    have := dc.2.2.2.2.2.1 (δ1 4 (δ1 0 18) + x) (by omega) (by omega)
    unfold ClO at this
    omega
  have er := j1.2.2.2.1
  have fin : ∀ m, (m = 0 → δ1 16 (a + 1) - δ1 16 a = 1) → (m ≠ 0 → δ1 20 (δ1 17 a) = 3) → pq (ckE γ a) (jdR δ1 a (δ1 17 a) (δ1 16 (a + 1) - δ1 16 a) m) (OuR (CfR γ δ1 a)) := fun m hm hm3 => by
    unfold ckE jdR
    refine pq_cr (fun _ => ?_)
    refine pq_bb (pq_andl (pq_types c1 j1 b14' hE1 rfl hl1 h41 hm hm3 j1.2.1 (by rw [s42, e15])) ck41) (fun r γ' e δ' hh => ?_) (fun r γ' x δ' hh => ?_)
    · rw [if_pos hh.1.er.1]
      exact pq_some hh.1.hand
    · obtain ⟨e1, e2⟩ := hh.1.go
      rw [if_neg (by rw [e1]; decide)]
      exact pq_clocks c1 j1 hE1 rfl hl1 h41 hv e2 hh.2
  refine pq_cr (fun _ => pq_ar (pq_cr (fun _ => pq_cr (fun _ => pq_cr (fun _ => pq_cr (fun _ => pq_ar (pq_cr (fun _ => ?_))))))))
  rw [s42]
  refine pq_ir (fun q => fin 0 (fun _ => ?_) (fun r => absurd rfl r)) (fun q => fin 1 (fun r => absurd r (by decide)) (fun _ => ?_))
  · have := er.2.2.2.2.2.2 (by rw [e15]; exact q)
    omega
  · exact er.2.2.2.2.2.1 (by rw [e15]; omega)
