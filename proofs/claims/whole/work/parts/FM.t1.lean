/-! the reference's parser: a truth is 0 or 1 -/
def T1 (P0 : Int) (γ : St) : Prop := ∀ e, P0 ≤ e → e < γ 0 40 → γ 20 e = 1 → Bl (γ 21 e)
section T1
variable {P0 : Int}
theorem pc_t1 {β : Type} {γ : St} {j : Nat} {i v : Int} {k : St → Option β} {P : β → Prop} (h : T1 P0 γ) (q : ¬ (j = 0 ∧ i = 40) ∧ j ≠ 20 ∧ j ≠ 21) (kk : ∀ γ', T1 P0 γ' → pc (k γ') P) : pc (ap (setA γ j i v) k) P := kk _ (fun e e1 e2 e3 => by rw [stA, if_neg (by omega)] at e2 e3 ⊢; exact h e e1 e2 e3)
theorem t1_f_M_digit {a0 : Int} {γ : St} (h : T1 P0 γ) : pc (f_M_digit γ a0) (fun z => T1 P0 z.2) := by
  unfold f_M_digit
  exact (pc_i (fun _ => (pc_s h)) (fun _ => (pc_i (fun _ => (pc_s h)) (fun _ => (pc_s h)))))
theorem t1_f_M_letter_b12 {x1 : Int} {γ : St} (h : T1 P0 γ) : pc (f_M_letter_b12 γ x1) (fun z => T1 P0 z.2) := by
  unfold f_M_letter_b12
  exact (pc_i (fun _ => (pc_s h)) (fun _ => (pc_i (fun _ => (pc_s h)) (fun _ => (pc_s h)))))
theorem t1_f_M_letter {a0 : Int} {γ : St} (h : T1 P0 γ) : pc (f_M_letter γ a0) (fun z => T1 P0 z.2) := by
  unfold f_M_letter
  exact (pc_i (fun _ => (t1_f_M_letter_b12  h)) (fun _ => (pc_i (fun _ => (pc_s h)) (fun _ => (t1_f_M_letter_b12  h)))))
theorem t1_f_M_byteAt {a0 : Int} {γ : St} (h : T1 P0 γ) : pc (f_M_byteAt γ a0) (fun z => T1 P0 z.2) := by
  unfold f_M_byteAt
  exact (pc_i (fun _ => (pc_s h)) (fun _ => (pc_c (fun _ => (pc_s h)))))
theorem t1_f_M_parts_b118 {k0 : St → Option (Int × St)} (hk0 : ∀ (γ : St), T1 P0 γ → pc (k0 γ ) (fun z => T1 P0 z.2)) {γ : St} (h : T1 P0 γ) : pc (f_M_parts_b118 k0 γ) (fun z => T1 P0 z.2) := by
  unfold f_M_parts_b118
  exact (hk0 _ h)
theorem t1_f_M_parts_L42 {x118 : St → Option (Int × St)} (hx118 : ∀ (γ : St), T1 P0 γ → pc (x118 γ ) (fun z => T1 P0 z.2)) : ∀ (n : Nat) (γ : St), T1 P0 γ → pc (f_M_parts_L42 x118 n γ ) (fun z => T1 P0 z.2) := by
  intro n
  induction n with
  | zero => intros; exact pc_n
  | succ n ih =>
    intro γ  h
    unfold f_M_parts_L42
    exact (pc_i (fun _ => (hx118 _ h)) (fun _ => (pc_c (fun _ => (pc_i (fun _ => (hx118 _ h)) (fun _ => (pc_c (fun _ => (pc_t1 h (by omega) (fun γ8 hγ8 => (ih _ hγ8)))))))))))
theorem t1_f_M_parts_b104 {k0 : St → Option (Int × St)} (hk0 : ∀ (γ : St), T1 P0 γ → pc (k0 γ ) (fun z => T1 P0 z.2)) {γ : St} (h : T1 P0 γ) : pc (f_M_parts_b104 k0 γ) (fun z => T1 P0 z.2) := by
  unfold f_M_parts_b104
  exact (pc_c (fun _ => (pc_t1 h (by omega) (fun γ11 hγ11 => (t1_f_M_parts_b118 hk0 hγ11)))))
theorem t1_f_M_parts_b80 {k0 : St → Option (Int × St)} (hk0 : ∀ (γ : St), T1 P0 γ → pc (k0 γ ) (fun z => T1 P0 z.2)) {x12 : Int} {γ : St} (h : T1 P0 γ) : pc (f_M_parts_b80 k0 γ x12) (fun z => T1 P0 z.2) := by
  unfold f_M_parts_b80
  exact (pc_i (fun _ => (t1_f_M_parts_b104 hk0 h)) (fun _ => (pc_i (fun _ => (t1_f_M_parts_b104 hk0 h)) (fun _ => (pc_i (fun _ => (t1_f_M_parts_b104 hk0 h)) (fun _ => (pc_i (fun _ => (pc_s h)) (fun _ => (t1_f_M_parts_b104 hk0 h)))))))))
theorem t1_f_M_parts_L0  : ∀ (n : Nat) (γ : St), T1 P0 γ → pc (f_M_parts_L0 n γ ) (fun z => T1 P0 z.2) := by
  intro n
  induction n with
  | zero => intros; exact pc_n
  | succ n ih =>
    intro γ  h
    unfold f_M_parts_L0
    exact (pc_i (fun _ => (pc_s h)) (fun _ => (pc_c (fun _ => (pc_a (pc_i (fun _ => (t1_f_M_parts_b80 ih h)) (fun _ => (pc_c (fun _ => (pc_b (P := fun z => T1 P0 z.2) (t1_f_M_byteAt  h) (fun _ γ22 hγ22 => (pc_i (fun _ => (t1_f_M_parts_b80 ih hγ22)) (fun _ => (t1_f_M_parts_L42 (fun _ h => t1_f_M_parts_b118 ih h) _ _ hγ22))))))))))))))
theorem t1_f_M_parts  {γ : St} (h : T1 P0 γ) : pc (f_M_parts γ) (fun z => T1 P0 z.2) := by
  unfold f_M_parts
  exact (t1_f_M_parts_L0  _ _ h)
theorem t1_f_M_sign {a0 : Int} {a1 : Int} {γ : St} (h : T1 P0 γ) : pc (f_M_sign γ a0 a1) (fun z => T1 P0 z.2) := by
  unfold f_M_sign
  exact (pc_i (fun _ => (pc_s h)) (fun _ => (pc_i (fun _ => (pc_s h)) (fun _ => (pc_i (fun _ => (pc_s h)) (fun _ => (pc_i (fun _ => (pc_s h)) (fun _ => (pc_i (fun _ => (pc_s h)) (fun _ => (pc_i (fun _ => (pc_i (fun _ => (pc_s h)) (fun _ => (pc_s h)))) (fun _ => (pc_i (fun _ => (pc_s h)) (fun _ => (pc_i (fun _ => (pc_s h)) (fun _ => (pc_i (fun _ => (pc_i (fun _ => (pc_i (fun _ => (pc_s h)) (fun _ => (pc_s h)))) (fun _ => (pc_s h)))) (fun _ => (pc_i (fun _ => (pc_i (fun _ => (pc_s h)) (fun _ => (pc_s h)))) (fun _ => (pc_i (fun _ => (pc_i (fun _ => (pc_s h)) (fun _ => (pc_s h)))) (fun _ => (pc_s h)))))))))))))))))))))))
theorem t1_f_M_peek_b140  {γ : St} (h : T1 P0 γ) : pc (f_M_peek_b140 γ) (fun z => T1 P0 z.2) := by
  unfold f_M_peek_b140
  exact (pc_c (fun _ => (pc_i (fun _ => (pc_t1 h (by omega) (fun γ4 hγ4 => (pc_s hγ4)))) (fun _ => (pc_t1 h (by omega) (fun γ6 hγ6 => (pc_s hγ6)))))))
theorem t1_f_M_peek_b127 {k72 : St → Option (Int × St)} (hk72 : ∀ (γ : St), T1 P0 γ → pc (k72 γ ) (fun z => T1 P0 z.2)) {x140 : St → Option (Int × St)} (hx140 : ∀ (γ : St), T1 P0 γ → pc (x140 γ ) (fun z => T1 P0 z.2)) {γ : St} (h : T1 P0 γ) : pc (f_M_peek_b127 k72 x140 γ) (fun z => T1 P0 z.2) := by
  unfold f_M_peek_b127
  exact (pc_c (fun _ => (pc_t1 h (by omega) (fun γ10 hγ10 => (hk72 _ hγ10)))))
theorem t1_f_M_peek_L72 {x140 : St → Option (Int × St)} (hx140 : ∀ (γ : St), T1 P0 γ → pc (x140 γ ) (fun z => T1 P0 z.2)) : ∀ (n : Nat) (γ : St), T1 P0 γ → pc (f_M_peek_L72 x140 n γ ) (fun z => T1 P0 z.2) := by
  intro n
  induction n with
  | zero => intros; exact pc_n
  | succ n ih =>
    intro γ  h
    unfold f_M_peek_L72
    exact (pc_i (fun _ => (hx140 _ h)) (fun _ => (pc_c (fun _ => (pc_b (P := fun z => T1 P0 z.2) (t1_f_M_letter  h) (fun _ γ17 hγ17 => (pc_i (fun _ => (t1_f_M_peek_b127 ih hx140 hγ17)) (fun _ => (pc_c (fun _ => (pc_b (P := fun z => T1 P0 z.2) (t1_f_M_digit  hγ17) (fun _ γ22 hγ22 => (pc_i (fun _ => (t1_f_M_peek_b127 ih hx140 hγ22)) (fun _ => (pc_c (fun _ => (pc_i (fun _ => (hx140 _ hγ22)) (fun _ => (t1_f_M_peek_b127 ih hx140 hγ22)))))))))))))))))))
theorem t1_f_M_peek_b212  {γ : St} (h : T1 P0 γ) : pc (f_M_peek_b212 γ) (fun z => T1 P0 z.2) := by
  unfold f_M_peek_b212
  exact (pc_c (fun _ => (pc_i (fun _ => (pc_t1 h (by omega) (fun γ29 hγ29 => (pc_s hγ29)))) (fun _ => (pc_t1 h (by omega) (fun γ31 hγ31 => (pc_s hγ31)))))))
theorem t1_f_M_peek_L173 {x212 : St → Option (Int × St)} (hx212 : ∀ (γ : St), T1 P0 γ → pc (x212 γ ) (fun z => T1 P0 z.2)) : ∀ (n : Nat) (γ : St), T1 P0 γ → pc (f_M_peek_L173 x212 n γ ) (fun z => T1 P0 z.2) := by
  intro n
  induction n with
  | zero => intros; exact pc_n
  | succ n ih =>
    intro γ  h
    unfold f_M_peek_L173
    exact (pc_i (fun _ => (hx212 _ h)) (fun _ => (pc_c (fun _ => (pc_b (P := fun z => T1 P0 z.2) (t1_f_M_digit  h) (fun _ γ39 hγ39 => (pc_i (fun _ => (hx212 _ hγ39)) (fun _ => (pc_c (fun _ => (pc_t1 hγ39 (by omega) (fun γ42 hγ42 => (ih _ hγ42)))))))))))))
theorem t1_f_M_peek  {γ : St} (h : T1 P0 γ) : pc (f_M_peek γ) (fun z => T1 P0 z.2) := by
  unfold f_M_peek
  exact (pc_i (fun _ => (pc_b (P := fun z => T1 P0 z.2) (t1_f_M_parts  h) (fun _ γ45 hγ45 => (pc_t1 hγ45 (by omega) (fun γ46 hγ46 => (pc_t1 hγ46 (by omega) (fun γ48 hγ48 => (pc_t1 hγ48 (by omega) (fun γ50 hγ50 => (pc_t1 hγ50 (by omega) (fun γ51 hγ51 => (pc_i (fun _ => (pc_c (fun _ => (pc_a (pc_b (P := fun z => T1 P0 z.2) (t1_f_M_letter  hγ51) (fun _ γ59 hγ59 => (pc_i (fun _ => (pc_b (P := fun z => T1 P0 z.2) (t1_f_M_digit  hγ59) (fun _ γ61 hγ61 => (pc_i (fun _ => (pc_c (fun _ => (pc_t1 hγ61 (by omega) (fun γ64 hγ64 => (pc_c (fun _ => (pc_b (P := fun z => T1 P0 z.2) (t1_f_M_byteAt  hγ64) (fun _ γ68 hγ68 => (pc_b (P := fun z => T1 P0 z.2) (t1_f_M_sign  hγ68) (fun _ γ70 hγ70 => (pc_t1 hγ70 (by omega) (fun γ71 hγ71 => (pc_i (fun _ => (pc_s hγ71)) (fun _ => (pc_c (fun _ => (pc_t1 hγ71 (by omega) (fun γ76 hγ76 => (pc_s hγ76)))))))))))))))))))) (fun _ => (t1_f_M_peek_L173 (fun _ h => t1_f_M_peek_b212  h) _ _ hγ61)))))) (fun _ => (t1_f_M_peek_L72 (fun _ h => t1_f_M_peek_b140  h) _ _ hγ59))))))))) (fun _ => (pc_s hγ51)))))))))))))) (fun _ => (pc_s h)))
theorem t1_f_M_take  {γ : St} (h : T1 P0 γ) : pc (f_M_take γ) (fun z => T1 P0 z.2) := by
  unfold f_M_take
  exact (pc_b (P := fun z => T1 P0 z.2) (t1_f_M_peek  h) (fun _ γ2 hγ2 => (pc_t1 hγ2 (by omega) (fun γ4 hγ4 => (pc_t1 hγ4 (by omega) (fun γ5 hγ5 => (pc_s hγ5)))))))
theorem t1_f_M_is_L28 {w0 : Nat} : ∀ (n : Nat) (γ : St) (y0 : Int), T1 P0 γ → pc (f_M_is_L28 w0 n γ y0) (fun z => T1 P0 z.2) := by
  intro n
  induction n with
  | zero => intros; exact pc_n
  | succ n ih =>
    intro γ y0 h
    unfold f_M_is_L28
    exact (pc_i (fun _ => (pc_s h)) (fun _ => (pc_c (fun _ => (pc_c (fun _ => (pc_c (fun _ => (pc_i (fun _ => (pc_c (fun _ => (ih _ _ h)))) (fun _ => (pc_s h)))))))))))
theorem t1_f_M_is {w0 : Nat} {γ : St} (h : T1 P0 γ) : pc (f_M_is γ w0) (fun z => T1 P0 z.2) := by
  unfold f_M_is
  exact (pc_b (P := fun z => T1 P0 z.2) (t1_f_M_peek  h) (fun _ γ8 hγ8 => (pc_i (fun _ => (pc_s hγ8)) (fun _ => (pc_c (fun _ => (pc_i (fun _ => (t1_f_M_is_L28  _ _ _ hγ8)) (fun _ => (pc_s hγ8)))))))))
theorem t1_f_M_cant {γ : St} (h : T1 P0 γ) : pc (f_M_cant γ) (fun z => T1 P0 z.2) := by
  unfold f_M_cant
  exact pc_b (P := fun z => T1 P0 z.2) (t1_f_M_peek h) (fun _ γ2 h2 => pc_s h2)
theorem t1_f_M_must {a0 : Int} {γ : St} (h : T1 P0 γ) : pc (f_M_must γ a0) (fun z => T1 P0 z.2) := by
  unfold f_M_must
  exact (pc_b (P := fun z => T1 P0 z.2) (t1_f_M_peek  h) (fun _ γ2 hγ2 => (pc_i (fun _ => (pc_b (P := fun z => T1 P0 z.2) (t1_f_M_take  hγ2) (fun _ γ4 hγ4 => (pc_s hγ4)))) (fun _ => (pc_b (P := fun z => T1 P0 z.2) (t1_f_M_cant  hγ2) (fun _ γ6 hγ6 => (pc_s hγ6)))))))
theorem t1_f_M_mustBe {w0 : Nat} {γ : St} (h : T1 P0 γ) : pc (f_M_mustBe γ w0) (fun z => T1 P0 z.2) := by
  unfold f_M_mustBe
  exact (pc_b (P := fun z => T1 P0 z.2) (t1_f_M_is  h) (fun _ γ2 hγ2 => (pc_i (fun _ => (pc_b (P := fun z => T1 P0 z.2) (t1_f_M_take  hγ2) (fun _ γ4 hγ4 => (pc_s hγ4)))) (fun _ => (pc_b (P := fun z => T1 P0 z.2) (t1_f_M_cant  hγ2) (fun _ γ6 hγ6 => (pc_s hγ6)))))))
theorem t1_f_M_reserved  {γ : St} (h : T1 P0 γ) : pc (f_M_reserved γ) (fun z => T1 P0 z.2) := by
  unfold f_M_reserved
  exact (pc_b (P := fun z => T1 P0 z.2) (t1_f_M_is  h) (fun _ γ2 hγ2 => (pc_i (fun _ => (pc_s hγ2)) (fun _ => (pc_b (P := fun z => T1 P0 z.2) (t1_f_M_is  hγ2) (fun _ γ4 hγ4 => (pc_i (fun _ => (pc_s hγ4)) (fun _ => (pc_b (P := fun z => T1 P0 z.2) (t1_f_M_is  hγ4) (fun _ γ6 hγ6 => (pc_i (fun _ => (pc_s hγ6)) (fun _ => (pc_b (P := fun z => T1 P0 z.2) (t1_f_M_is  hγ6) (fun _ γ8 hγ8 => (pc_i (fun _ => (pc_s hγ8)) (fun _ => (pc_b (P := fun z => T1 P0 z.2) (t1_f_M_is  hγ8) (fun _ γ10 hγ10 => (pc_i (fun _ => (pc_s hγ10)) (fun _ => (pc_b (P := fun z => T1 P0 z.2) (t1_f_M_is  hγ10) (fun _ γ12 hγ12 => (pc_i (fun _ => (pc_s hγ12)) (fun _ => (pc_b (P := fun z => T1 P0 z.2) (t1_f_M_is  hγ12) (fun _ γ14 hγ14 => (pc_i (fun _ => (pc_s hγ14)) (fun _ => (pc_b (P := fun z => T1 P0 z.2) (t1_f_M_is  hγ14) (fun _ γ16 hγ16 => (pc_i (fun _ => (pc_s hγ16)) (fun _ => (pc_b (P := fun z => T1 P0 z.2) (t1_f_M_is  hγ16) (fun _ γ18 hγ18 => (pc_i (fun _ => (pc_s hγ18)) (fun _ => (pc_b (P := fun z => T1 P0 z.2) (t1_f_M_is  hγ18) (fun _ γ20 hγ20 => (pc_i (fun _ => (pc_s hγ20)) (fun _ => (pc_b (P := fun z => T1 P0 z.2) (t1_f_M_is  hγ20) (fun _ γ22 hγ22 => (pc_i (fun _ => (pc_s hγ22)) (fun _ => (pc_b (P := fun z => T1 P0 z.2) (t1_f_M_is  hγ22) (fun _ γ24 hγ24 => (pc_i (fun _ => (pc_s hγ24)) (fun _ => (pc_b (P := fun z => T1 P0 z.2) (t1_f_M_is  hγ24) (fun _ γ26 hγ26 => (pc_i (fun _ => (pc_s hγ26)) (fun _ => (pc_b (P := fun z => T1 P0 z.2) (t1_f_M_is  hγ26) (fun _ γ28 hγ28 => (pc_i (fun _ => (pc_s hγ28)) (fun _ => (pc_b (P := fun z => T1 P0 z.2) (t1_f_M_is  hγ28) (fun _ γ30 hγ30 => (pc_i (fun _ => (pc_s hγ30)) (fun _ => (pc_b (P := fun z => T1 P0 z.2) (t1_f_M_is  hγ30) (fun _ γ32 hγ32 => (pc_i (fun _ => (pc_s hγ32)) (fun _ => (pc_b (P := fun z => T1 P0 z.2) (t1_f_M_is  hγ32) (fun _ γ34 hγ34 => (pc_i (fun _ => (pc_s hγ34)) (fun _ => (pc_b (P := fun z => T1 P0 z.2) (t1_f_M_is  hγ34) (fun _ γ36 hγ36 => (pc_i (fun _ => (pc_s hγ36)) (fun _ => (pc_b (P := fun z => T1 P0 z.2) (t1_f_M_is  hγ36) (fun _ γ38 hγ38 => (pc_i (fun _ => (pc_s hγ38)) (fun _ => (pc_b (P := fun z => T1 P0 z.2) (t1_f_M_is  hγ38) (fun _ γ40 hγ40 => (pc_i (fun _ => (pc_s hγ40)) (fun _ => (pc_b (P := fun z => T1 P0 z.2) (t1_f_M_is  hγ40) (fun _ γ42 hγ42 => (pc_i (fun _ => (pc_s hγ42)) (fun _ => (pc_b (P := fun z => T1 P0 z.2) (t1_f_M_is  hγ42) (fun _ γ44 hγ44 => (pc_i (fun _ => (pc_s hγ44)) (fun _ => (pc_s hγ44)))))))))))))))))))))))))))))))))))))))))))))))))))))))))))))))))))))))))))))))))))))))))
theorem t1_f_M_nameHere  {γ : St} (h : T1 P0 γ) : pc (f_M_nameHere γ) (fun z => T1 P0 z.2) := by
  unfold f_M_nameHere
  exact (pc_b (P := fun z => T1 P0 z.2) (t1_f_M_peek  h) (fun _ γ2 hγ2 => (pc_i (fun _ => (pc_s hγ2)) (fun _ => (pc_b (P := fun z => T1 P0 z.2) (t1_f_M_reserved  hγ2) (fun _ γ4 hγ4 => (pc_i (fun _ => (pc_s hγ4)) (fun _ => (pc_s hγ4)))))))))
theorem t1_f_M_nest {a0 : Int} {γ : St} (h : T1 P0 γ) : pc (f_M_nest γ a0) (fun z => T1 P0 z.2) := by
  unfold f_M_nest
  exact (pc_i (fun _ => (pc_b (P := fun z => T1 P0 z.2) (t1_f_M_peek  h) (fun _ γ2 hγ2 => (pc_s hγ2)))) (fun _ => (pc_c (fun _ => (pc_s h)))))
theorem t1_f_M_spelled_L17  : ∀ (n : Nat) (γ : St) (y0 y1 y2 : Int), T1 P0 γ → pc (f_M_spelled_L17 n γ y0 y1 y2) (fun z => T1 P0 z.2) := by
  intro n
  induction n with
  | zero => intros; exact pc_n
  | succ n ih =>
    intro γ y0 y1 y2 h
    unfold f_M_spelled_L17
    exact (pc_i (fun _ => (pc_s h)) (fun _ => (pc_c (fun _ => (pc_c (fun _ => (pc_c (fun _ => (pc_c (fun _ => (pc_i (fun _ => (pc_c (fun _ => (ih _ _ _ _ h)))) (fun _ => (pc_s h)))))))))))))
theorem t1_f_M_spelled {a0 : Int} {a1 : Int} {γ : St} (h : T1 P0 γ) : pc (f_M_spelled γ a0 a1) (fun z => T1 P0 z.2) := by
  unfold f_M_spelled
  exact (pc_c (fun _ => (pc_i (fun _ => (t1_f_M_spelled_L17  _ _ _ _ _ h)) (fun _ => (pc_s h)))))
theorem t1_f_M_variableHere_L10  : ∀ (n : Nat) (γ : St) (y0 y1 : Int), T1 P0 γ → pc (f_M_variableHere_L10 n γ y0 y1) (fun z => T1 P0 z.2) := by
  intro n
  induction n with
  | zero => intros; exact pc_n
  | succ n ih =>
    intro γ y0 y1 h
    unfold f_M_variableHere_L10
    exact (pc_i (fun _ => (pc_s h)) (fun _ => (pc_c (fun _ => (pc_c (fun _ => (pc_b (P := fun z => T1 P0 z.2) (t1_f_M_spelled  h) (fun _ γ8 hγ8 => (pc_i (fun _ => (pc_c (fun _ => (ih _ _ _ hγ8)))) (fun _ => (pc_s hγ8)))))))))))
theorem t1_f_M_variableHere {a0 : Int} {γ : St} (h : T1 P0 γ) : pc (f_M_variableHere γ a0) (fun z => T1 P0 z.2) := by
  unfold f_M_variableHere
  exact (pc_c (fun _ => (pc_a (t1_f_M_variableHere_L10  _ _ _ _ h))))
theorem t1_f_M_nodeHere_L2  : ∀ (n : Nat) (γ : St) (y0 : Int), T1 P0 γ → pc (f_M_nodeHere_L2 n γ y0) (fun z => T1 P0 z.2) := by
  intro n
  induction n with
  | zero => intros; exact pc_n
  | succ n ih =>
    intro γ y0 h
    unfold f_M_nodeHere_L2
    exact (pc_i (fun _ => (pc_s h)) (fun _ => (pc_c (fun _ => (pc_c (fun _ => (pc_b (P := fun z => T1 P0 z.2) (t1_f_M_spelled  h) (fun _ γ8 hγ8 => (pc_i (fun _ => (pc_c (fun _ => (ih _ _ hγ8)))) (fun _ => (pc_s hγ8)))))))))))
theorem t1_f_M_nodeHere  {γ : St} (h : T1 P0 γ) : pc (f_M_nodeHere γ) (fun z => T1 P0 z.2) := by
  unfold f_M_nodeHere
  exact (t1_f_M_nodeHere_L2  _ _ _ h)
theorem t1_f_M_shallow_b39 {x1 : Int} {γ : St} (h : T1 P0 γ) : pc (f_M_shallow_b39 γ x1) (fun z => T1 P0 z.2) := by
  unfold f_M_shallow_b39
  exact (pc_i (fun _ => (pc_s h)) (fun _ => (pc_s h)))
theorem t1_f_M_shallow_L4 {x39 : St → Int → Option Res} (hx39 : ∀ (γ : St) (y0 : Int), T1 P0 γ → pc (x39 γ y0) (fun z => T1 P0 z.2)) : ∀ (n : Nat) (γ : St) (y0 y1 : Int), T1 P0 γ → pc (f_M_shallow_L4 x39 n γ y0 y1) (fun z => T1 P0 z.2) := by
  intro n
  induction n with
  | zero => intros; exact pc_n
  | succ n ih =>
    intro γ y0 y1 h
    unfold f_M_shallow_L4
    exact (pc_c (fun _ => (pc_i (fun _ => (hx39 _ _ h)) (fun _ => (pc_c (fun _ => (pc_c (fun _ => (pc_c (fun _ => (pc_c (fun _ => (pc_c (fun _ => (pc_a (ih _ _ _ h))))))))))))))))
theorem t1_f_M_shallow {a0 : Int} {γ : St} (h : T1 P0 γ) : pc (f_M_shallow γ a0) (fun z => T1 P0 z.2) := by
  unfold f_M_shallow
  exact (t1_f_M_shallow_L4 (fun _ _ h => t1_f_M_shallow_b39  h) _ _ _ _ h)
theorem t1_f_M_group_b18  {γ : St} (h : T1 P0 γ) : pc (f_M_group_b18 γ) (fun z => T1 P0 z.2) := by
  unfold f_M_group_b18
  exact (pc_b (P := fun z => T1 P0 z.2) (t1_f_M_cant  h) (fun _ γ2 hγ2 => (pc_s hγ2)))
theorem t1_f_M_group_b34  {γ : St} (h : T1 P0 γ) : pc (f_M_group_b34 γ) (fun z => T1 P0 z.2) := by
  unfold f_M_group_b34
  exact (pc_s h)
theorem t1_f_M_group_b66  {γ : St} (h : T1 P0 γ) : pc (f_M_group_b66 γ) (fun z => T1 P0 z.2) := by
  unfold f_M_group_b66
  exact (pc_s h)
theorem t1_f_M_group_b307  {γ : St} (h : T1 P0 γ) : pc (f_M_group_b307 γ) (fun z => T1 P0 z.2) := by
  unfold f_M_group_b307
  exact (pc_s h)
theorem t1_f_M_group_b372 {k333 : St → Int → Int → Int → Option Res} (hk333 : ∀ (γ : St) (y0 y1 y2 : Int), T1 P0 γ → pc (k333 γ y0 y1 y2) (fun z => T1 P0 z.2)) {x6 : Int} {x7 : Int} {x8 : Int} {x9 : Int} {x10 : Int} {x11 : Int} {γ : St} (h : T1 P0 γ) : pc (f_M_group_b372 k333 γ x6 x7 x8 x9 x10 x11) (fun z => T1 P0 z.2) := by
  unfold f_M_group_b372
  exact (pc_c (fun _ => (pc_c (fun _ => (pc_t1 h (by omega) (fun γ13 hγ13 => (pc_c (fun _ => (hk333 _ _ _ _ hγ13)))))))))
theorem t1_f_M_group_L333  : ∀ (n : Nat) (γ : St) (y0 y1 y2 : Int), T1 P0 γ → pc (f_M_group_L333 n γ y0 y1 y2) (fun z => T1 P0 z.2) := by
  intro n
  induction n with
  | zero => intros; exact pc_n
  | succ n ih =>
    intro γ y0 y1 y2 h
    unfold f_M_group_L333
    exact (pc_i (fun _ => (pc_s h)) (fun _ => (pc_c (fun _ => (pc_c (fun _ => (pc_c (fun _ => (pc_i (fun _ => (t1_f_M_group_b372 ih h)) (fun _ => (t1_f_M_group_b372 ih h)))))))))))
theorem t1_f_M_group_b273 {x28 : Int} {x29 : Int} {γ : St} (h : T1 P0 γ) : pc (f_M_group_b273 γ x28 x29) (fun z => T1 P0 z.2) := by
  unfold f_M_group_b273
  exact (pc_b (P := fun z => T1 P0 z.2) (t1_f_M_nameHere  h) (fun _ γ31 hγ31 => (pc_i (fun _ => (pc_b (P := fun z => T1 P0 z.2) (t1_f_M_variableHere  hγ31) (fun _ γ33 hγ33 => (pc_i (fun _ => (t1_f_M_group_b307  hγ33)) (fun _ => (pc_c (fun _ => (pc_i (fun _ => (pc_bT (P := fun z => T1 P0 z.2) (t1_f_M_shallow  hγ33) (fun _ _ q => q) (fun _ γ37 hγ37 => (pc_b (P := fun z => T1 P0 z.2) (t1_f_M_take  hγ37) (fun _ γ39 hγ39 => (t1_f_M_group_L333  _ _ _ _ _ hγ39)))))) (fun _ => (t1_f_M_group_b307  hγ33)))))))))) (fun _ => (pc_b (P := fun z => T1 P0 z.2) (t1_f_M_cant  hγ31) (fun _ γ41 hγ41 => (pc_s hγ41)))))))
theorem t1_f_M_group_b236 {x42 : Int} {x43 : Int} {γ : St} (h : T1 P0 γ) : pc (f_M_group_b236 γ x42 x43) (fun z => T1 P0 z.2) := by
  unfold f_M_group_b236
  exact (pc_i (fun _ => (pc_s h)) (fun _ => (pc_b (P := fun z => T1 P0 z.2) (t1_f_M_is  h) (fun _ γ45 hγ45 => (pc_i (fun _ => (pc_b (P := fun z => T1 P0 z.2) (t1_f_M_take  hγ45) (fun _ γ47 hγ47 => (pc_b (P := fun z => T1 P0 z.2) (t1_f_M_is  hγ47) (fun _ γ49 hγ49 => (pc_i (fun _ => (t1_f_M_group_b273  hγ49)) (fun _ => (pc_b (P := fun z => T1 P0 z.2) (t1_f_M_take  hγ49) (fun _ γ51 hγ51 => (t1_f_M_group_b273  hγ51)))))))))) (fun _ => (pc_s hγ45)))))))
theorem t1_f_M_group_L212 {x236 : St → Int → Int → Option Res} (hx236 : ∀ (γ : St) (y0 y1 : Int), T1 P0 γ → pc (x236 γ y0 y1) (fun z => T1 P0 z.2)) : ∀ (n : Nat) (γ : St) (y0 y1 y2 y3 : Int), T1 P0 γ → pc (f_M_group_L212 x236 n γ y0 y1 y2 y3) (fun z => T1 P0 z.2) := by
  intro n
  induction n with
  | zero => intros; exact pc_n
  | succ n ih =>
    intro γ y0 y1 y2 y3 h
    unfold f_M_group_L212
    exact (pc_i (fun _ => (hx236 _ _ _ h)) (fun _ => (pc_c (fun _ => (pc_c (fun _ => (pc_t1 h (by omega) (fun γ59 hγ59 => (pc_c (fun _ => (ih _ _ _ _ _ hγ59)))))))))))
theorem t1_f_M_group_b205 {x63 : Int} {x64 : Int} {x65 : Int} {γ : St} (h : T1 P0 γ) : pc (f_M_group_b205 γ x63 x64 x65) (fun z => T1 P0 z.2) := by
  unfold f_M_group_b205
  exact (pc_b (P := fun z => T1 P0 z.2) (t1_f_M_take  h) (fun _ γ67 hγ67 => (t1_f_M_group_L212 (fun _ _ _ h => t1_f_M_group_b236  h) _ _ _ _ _ _ hγ67)))
theorem t1_f_M_group_b170 {x68 : Int} {x69 : Int} {γ : St} (h : T1 P0 γ) : pc (f_M_group_b170 γ x68 x69) (fun z => T1 P0 z.2) := by
  unfold f_M_group_b170
  exact (pc_bT (P := fun z => T1 P0 z.2) (t1_f_M_must  h) (fun _ _ q => q) (fun _ γ71 hγ71 => (pc_b (P := fun z => T1 P0 z.2) (t1_f_M_is  hγ71) (fun _ γ73 hγ73 => (pc_i (fun _ => (t1_f_M_group_b205  hγ73)) (fun _ => (pc_b (P := fun z => T1 P0 z.2) (t1_f_M_is  hγ73) (fun _ γ75 hγ75 => (pc_i (fun _ => (t1_f_M_group_b205  hγ75)) (fun _ => (pc_b (P := fun z => T1 P0 z.2) (t1_f_M_cant  hγ75) (fun _ γ77 hγ77 => (pc_s hγ77)))))))))))))
theorem t1_f_M_group_b158 {k7 : St → Int → Int → Int → Option Res} (hk7 : ∀ (γ : St) (y0 y1 y2 : Int), T1 P0 γ → pc (k7 γ y0 y1 y2) (fun z => T1 P0 z.2)) {x18 : St → Option Res} (hx18 : ∀ (γ : St), T1 P0 γ → pc (x18 γ ) (fun z => T1 P0 z.2)) {x34 : St → Option Res} (hx34 : ∀ (γ : St), T1 P0 γ → pc (x34 γ ) (fun z => T1 P0 z.2)) {x66 : St → Option Res} (hx66 : ∀ (γ : St), T1 P0 γ → pc (x66 γ ) (fun z => T1 P0 z.2)) {x170 : St → Int → Int → Option Res} (hx170 : ∀ (γ : St) (y0 y1 : Int), T1 P0 γ → pc (x170 γ y0 y1) (fun z => T1 P0 z.2)) {x78 : Int} {x79 : Int} {x80 : Int} {γ : St} (h : T1 P0 γ) : pc (f_M_group_b158 k7 x18 x34 x66 x170 γ x78 x79 x80) (fun z => T1 P0 z.2) := by
  unfold f_M_group_b158
  exact (pc_i (fun _ => (hk7 _ _ _ _ h)) (fun _ => (pc_b (P := fun z => T1 P0 z.2) (t1_f_M_take  h) (fun _ γ82 hγ82 => (hk7 _ _ _ _ hγ82)))))
theorem t1_f_M_group_L7 {x18 : St → Option Res} (hx18 : ∀ (γ : St), T1 P0 γ → pc (x18 γ ) (fun z => T1 P0 z.2)) {x34 : St → Option Res} (hx34 : ∀ (γ : St), T1 P0 γ → pc (x34 γ ) (fun z => T1 P0 z.2)) {x66 : St → Option Res} (hx66 : ∀ (γ : St), T1 P0 γ → pc (x66 γ ) (fun z => T1 P0 z.2)) {x170 : St → Int → Int → Option Res} (hx170 : ∀ (γ : St) (y0 y1 : Int), T1 P0 γ → pc (x170 γ y0 y1) (fun z => T1 P0 z.2)) : ∀ (n : Nat) (γ : St) (y0 y1 y2 : Int), T1 P0 γ → pc (f_M_group_L7 x18 x34 x66 x170 n γ y0 y1 y2) (fun z => T1 P0 z.2) := by
  intro n
  induction n with
  | zero => intros; exact pc_n
  | succ n ih =>
    intro γ y0 y1 y2 h
    unfold f_M_group_L7
    exact (pc_i (fun _ => (hx170 _ _ _ h)) (fun _ => (pc_b (P := fun z => T1 P0 z.2) (t1_f_M_nameHere  h) (fun _ γ92 hγ92 => (pc_i (fun _ => (pc_b (P := fun z => T1 P0 z.2) (t1_f_M_variableHere  hγ92) (fun _ γ95 hγ95 => (pc_i (fun _ => (pc_c (fun _ => (pc_c (fun _ => (pc_i (fun _ => (pc_c (fun _ => (pc_t1 hγ95 (by omega) (fun γ104 hγ104 => (pc_c (fun _ => (pc_c (fun _ => (pc_t1 hγ104 (by omega) (fun γ110 hγ110 => (pc_c (fun _ => (pc_t1 hγ110 (by omega) (fun γ113 hγ113 => (pc_c (fun _ => (pc_t1 hγ113 (by omega) (fun γ116 hγ116 => (pc_c (fun _ => (pc_t1 hγ116 (by omega) (fun γ119 hγ119 => (pc_b (P := fun z => T1 P0 z.2) (t1_f_M_take  hγ119) (fun _ γ121 hγ121 => (pc_b (P := fun z => T1 P0 z.2) (t1_f_M_peek  hγ121) (fun _ γ123 hγ123 => (pc_i (fun _ => (t1_f_M_group_b158 ih hx18 hx34 hx66 hx170 hγ123)) (fun _ => (t1_f_M_group_b158 ih hx18 hx34 hx66 hx170 hγ123)))))))))))))))))))))))))))))) (fun _ => (hx66 _ hγ95)))))))) (fun _ => (hx34 _ hγ95)))))) (fun _ => (hx18 _ hγ92)))))))
theorem t1_f_M_group {a0 : Int} {γ : St} (h : T1 P0 γ) : pc (f_M_group γ a0) (fun z => T1 P0 z.2) := by
  unfold f_M_group
  exact (pc_a (t1_f_M_group_L7 (fun _ h => t1_f_M_group_b18  h) (fun _ h => t1_f_M_group_b34  h) (fun _ h => t1_f_M_group_b66  h) (fun _ _ _ h => t1_f_M_group_b170  h) _ _ _ _ _ h))
theorem t1_f_M_groups_b32  {γ : St} (h : T1 P0 γ) : pc (f_M_groups_b32 γ) (fun z => T1 P0 z.2) := by
  unfold f_M_groups_b32
  exact (pc_bT (P := fun z => T1 P0 z.2) (t1_f_M_must  h) (fun _ _ q => q) (fun _ γ2 hγ2 => (pc_s hγ2)))
theorem t1_f_M_groups_L11 {x32 : St → Option Res} (hx32 : ∀ (γ : St), T1 P0 γ → pc (x32 γ ) (fun z => T1 P0 z.2)) : ∀ (n : Nat) (γ : St), T1 P0 γ → pc (f_M_groups_L11 x32 n γ ) (fun z => T1 P0 z.2) := by
  intro n
  induction n with
  | zero => intros; exact pc_n
  | succ n ih =>
    intro γ  h
    unfold f_M_groups_L11
    exact (pc_b (P := fun z => T1 P0 z.2) (t1_f_M_peek  h) (fun _ γ4 hγ4 => (pc_i (fun _ => (hx32 _ hγ4)) (fun _ => (pc_b (P := fun z => T1 P0 z.2) (t1_f_M_take  hγ4) (fun _ γ6 hγ6 => (pc_bT (P := fun z => T1 P0 z.2) (t1_f_M_group  hγ6) (fun _ _ q => q) (fun _ γ8 hγ8 => (ih _ hγ8)))))))))
theorem t1_f_M_groups  {γ : St} (h : T1 P0 γ) : pc (f_M_groups γ) (fun z => T1 P0 z.2) := by
  unfold f_M_groups
  exact (pc_bT (P := fun z => T1 P0 z.2) (t1_f_M_must  h) (fun _ _ q => q) (fun _ γ10 hγ10 => (pc_bT (P := fun z => T1 P0 z.2) (t1_f_M_group  hγ10) (fun _ _ q => q) (fun _ γ12 hγ12 => (t1_f_M_groups_L11 (fun _ h => t1_f_M_groups_b32  h) _ _ hγ12)))))
theorem t1_f_M_left  {γ : St} (h : T1 P0 γ) : pc (f_M_left γ) (fun z => T1 P0 z.2) := by
  unfold f_M_left
  exact (pc_b (P := fun z => T1 P0 z.2) (t1_f_M_nameHere  h) (fun _ γ2 hγ2 => (pc_i (fun _ => (pc_b (P := fun z => T1 P0 z.2) (t1_f_M_variableHere  hγ2) (fun _ γ5 hγ5 => (pc_c (fun _ => (pc_c (fun _ => (pc_c (fun _ => (pc_i (fun _ => (pc_b (P := fun z => T1 P0 z.2) (t1_f_M_take  hγ5) (fun _ γ14 hγ14 => (pc_c (fun _ => (pc_c (fun _ => (pc_c (fun _ => (pc_t1 hγ14 (by omega) (fun γ18 hγ18 => (pc_c (fun _ => (pc_c (fun _ => (pc_s hγ18)))))))))))))))) (fun _ => (pc_s hγ5)))))))))))) (fun _ => (pc_b (P := fun z => T1 P0 z.2) (t1_f_M_cant  hγ2) (fun _ γ25 hγ25 => (pc_s hγ25)))))))
theorem t1_f_M_make_b203 {x1 : Int} {x2 : Int} {γ : St} (h : T1 P0 γ) : pc (f_M_make_b203 γ x1 x2) (fun z => T1 P0 z.2) := by
  unfold f_M_make_b203
  exact (pc_i (fun _ => (pc_s h)) (fun _ => (pc_c (fun _ => (pc_c (fun _ => (pc_t1 h (by omega) (fun γ7 hγ7 => (pc_c (fun _ => (pc_c (fun _ => (pc_c (fun _ => (pc_t1 hγ7 (by omega) (fun γ12 hγ12 => (pc_s hγ12)))))))))))))))))
theorem t1_f_M_make_b182 {x13 : Int} {x14 : Int} {γ : St} (h : T1 P0 γ) : pc (f_M_make_b182 γ x13 x14) (fun z => T1 P0 z.2) := by
  unfold f_M_make_b182
  exact (pc_c (fun _ => (pc_c (fun _ => (pc_c (fun _ => (pc_t1 h (by omega) (fun γ20 hγ20 => (pc_c (fun _ => (pc_t1 hγ20 (by omega) (fun γ21 hγ21 => (t1_f_M_make_b203  hγ21)))))))))))))
theorem t1_f_M_make_b134 {x22 : Int} {x23 : Int} {γ : St} (h : T1 P0 γ) : pc (f_M_make_b134 γ x22 x23) (fun z => T1 P0 z.2) := by
  unfold f_M_make_b134
  exact (pc_c (fun _ => (pc_i (fun _ => (pc_i (fun _ => (t1_f_M_make_b182  h)) (fun _ => (pc_i (fun _ => (t1_f_M_make_b182  h)) (fun _ => (pc_i (fun _ => (t1_f_M_make_b203  h)) (fun _ => (t1_f_M_make_b182  h)))))))) (fun _ => (pc_b (P := fun z => T1 P0 z.2) (t1_f_M_peek  h) (fun _ γ27 hγ27 => (pc_s hγ27)))))))
theorem t1_f_M_make_L74 {x134 : St → Int → Int → Option Res} (hx134 : ∀ (γ : St) (y0 y1 : Int), T1 P0 γ → pc (x134 γ y0 y1) (fun z => T1 P0 z.2)) : ∀ (n : Nat) (γ : St) (y0 y1 y2 : Int), T1 P0 γ → pc (f_M_make_L74 x134 n γ y0 y1 y2) (fun z => T1 P0 z.2) := by
  intro n
  induction n with
  | zero => intros; exact pc_n
  | succ n ih =>
    intro γ y0 y1 y2 h
    unfold f_M_make_L74
    exact (pc_i (fun _ => (hx134 _ _ _ h)) (fun _ => (pc_c (fun _ => (pc_c (fun _ => (pc_c (fun _ => (pc_c (fun _ => (pc_t1 h (by omega) (fun γ37 hγ37 => (pc_c (fun _ => (pc_c (fun _ => (pc_c (fun _ => (pc_c (fun _ => (pc_t1 hγ37 (by omega) (fun γ44 hγ44 => (pc_c (fun _ => (pc_a (ih _ _ _ _ hγ44))))))))))))))))))))))))))
theorem t1_f_M_make {a0 a1 a2 a3 : Int} {γ : St} (hk : a0 = 1 → Bl a1) (h : T1 P0 γ) : pc (f_M_make γ a0 a1 a2 a3) (fun z => T1 P0 z.2) := by
  unfold f_M_make
  refine pc_c (fun _ => pc_a (pc_a (pc_c (fun _ => pc_a (pc_c (fun _ => pc_a ?_))))))
  have h3 : T1 P0 (setA (setA (setA γ 0 40 (γ 0 40 + 1)) 20 (γ 0 40) a0) 21 (γ 0 40) a1) := fun e e1 e2 e3 => by
    have s : ∀ j k, setA (setA (setA γ 0 40 (γ 0 40 + 1)) 20 (γ 0 40) a0) 21 (γ 0 40) a1 j k = if j = 21 ∧ k = γ 0 40 then a1 else if j = 20 ∧ k = γ 0 40 then a0 else if j = 0 ∧ k = 40 then γ 0 40 + 1 else γ j k := fun j k => by rw [stA, stA, stA]
    generalize setA (setA (setA γ 0 40 (γ 0 40 + 1)) 20 (γ 0 40) a0) 21 (γ 0 40) a1 = γ3 at *
    rw [s, if_neg (by omega), if_neg (by omega), if_pos ⟨rfl, rfl⟩] at e2
    by_cases q : e = γ 0 40
    · rw [q, s, if_neg (by omega), if_pos ⟨rfl, rfl⟩] at e3
      rw [q, s, if_pos ⟨rfl, rfl⟩]; exact hk e3
    · rw [s, if_neg (by omega), if_neg (by omega), if_neg (by omega)] at e3
      rw [s, if_neg (by omega), if_neg (by omega), if_neg (by omega)]; exact h e e1 (by omega) e3
  exact pc_c (fun _ => pc_t1 h3 (by omega) (fun γ1 h1 => pc_c (fun _ => pc_t1 h1 (by omega) (fun γ2 h2 => pc_c (fun _ => pc_t1 h2 (by omega) (fun γ3 h3 => pc_c (fun _ => pc_t1 h3 (by omega) (fun γ4 h4 => pc_c (fun _ => pc_t1 h4 (by omega) (fun γ5 h5 => t1_f_M_make_L74 (fun _ _ _ h => t1_f_M_make_b134 h) _ _ _ _ _ h5))))))))))
theorem t1_f_M_two {a0 : Int} {a1 : Int} {a2 : Int} {γ : St} (h : T1 P0 γ) : pc (f_M_two γ a0 a1 a2) (fun z => T1 P0 z.2) := by
  unfold f_M_two
  exact (pc_c (fun _ => (pc_t1 h (by omega) (fun γ2 hγ2 => (pc_bT (P := fun z => T1 P0 z.2) (t1_f_M_make (fun _ => Or.inl rfl) hγ2) (fun _ _ q => q) (fun _ γ4 hγ4 => (pc_s hγ4)))))))
theorem t1_f_M_expression {E : Nat → St → Int → Int → Option Res} (hE : ∀ (t : Nat) (γ : St) (a b : Int), T1 P0 γ → pc (E t γ a b) (fun z => T1 P0 z.2)) {a0 : Int} {γ : St} (h : T1 P0 γ) : pc (f_M_expression E γ a0) (fun z => T1 P0 z.2) := by
  unfold f_M_expression
  exact (pc_b (P := fun z => T1 P0 z.2) (t1_f_M_is  h) (fun _ γ2 hγ2 => (pc_i (fun _ => (pc_bT (P := fun z => T1 P0 z.2) (hE _ _ _ _ hγ2) (fun _ _ q => q) (fun _ γ4 hγ4 => (pc_b (P := fun z => T1 P0 z.2) (t1_f_M_peek  hγ4) (fun _ γ6 hγ6 => (pc_i (fun _ => (pc_b (P := fun z => T1 P0 z.2) (t1_f_M_is  hγ6) (fun _ γ8 hγ8 => (pc_i (fun _ => (pc_s hγ8)) (fun _ => (pc_b (P := fun z => T1 P0 z.2) (t1_f_M_take  hγ8) (fun _ γ10 hγ10 => (pc_bT (P := fun z => T1 P0 z.2) (t1_f_M_nest  hγ10) (fun _ _ q => q) (fun _ γ12 hγ12 => (pc_bT (P := fun z => T1 P0 z.2) (hE _ _ _ _ hγ12) (fun _ _ q => q) (fun _ γ14 hγ14 => (pc_bT (P := fun z => T1 P0 z.2) (t1_f_M_two  hγ14) (fun _ _ q => q) (fun _ γ16 hγ16 => (pc_s hγ16)))))))))))))) (fun _ => (pc_b (P := fun z => T1 P0 z.2) (t1_f_M_take  hγ6) (fun _ γ18 hγ18 => (pc_bT (P := fun z => T1 P0 z.2) (t1_f_M_nest  hγ18) (fun _ _ q => q) (fun _ γ20 hγ20 => (pc_bT (P := fun z => T1 P0 z.2) (hE _ _ _ _ hγ20) (fun _ _ q => q) (fun _ γ22 hγ22 => (pc_bT (P := fun z => T1 P0 z.2) (t1_f_M_two  hγ22) (fun _ _ q => q) (fun _ γ24 hγ24 => (pc_s hγ24)))))))))))))))) (fun _ => (pc_b (P := fun z => T1 P0 z.2) (t1_f_M_take  hγ2) (fun _ γ26 hγ26 => (pc_bT (P := fun z => T1 P0 z.2) (t1_f_M_nest  hγ26) (fun _ _ q => q) (fun _ γ28 hγ28 => (pc_bT (P := fun z => T1 P0 z.2) (hE _ _ _ _ hγ28) (fun _ _ q => q) (fun _ γ30 hγ30 => (pc_bT (P := fun z => T1 P0 z.2) (t1_f_M_mustBe  hγ30) (fun _ _ q => q) (fun _ γ32 hγ32 => (pc_bT (P := fun z => T1 P0 z.2) (t1_f_M_nest  hγ32) (fun _ _ q => q) (fun _ γ35 hγ35 => (pc_bT (P := fun z => T1 P0 z.2) (hE _ _ _ _ hγ35) (fun _ _ q => q) (fun _ γ37 hγ37 => (pc_c (fun _ => (pc_t1 hγ37 (by omega) (fun γ38 hγ38 => (pc_bT (P := fun z => T1 P0 z.2) (t1_f_M_mustBe  hγ38) (fun _ _ q => q) (fun _ γ40 hγ40 => (pc_c (fun _ => (pc_bT (P := fun z => T1 P0 z.2) (t1_f_M_nest  hγ40) (fun _ _ q => q) (fun _ γ45 hγ45 => (pc_bT (P := fun z => T1 P0 z.2) (hE _ _ _ _ hγ45) (fun _ _ q => q) (fun _ γ47 hγ47 => (pc_c (fun _ => (pc_t1 hγ47 (by omega) (fun γ48 hγ48 => (pc_bT (P := fun z => T1 P0 z.2) (t1_f_M_make (fun q => absurd q (by decide)) hγ48) (fun _ _ q => q) (fun _ γ50 hγ50 => (pc_s hγ50)))))))))))))))))))))))))))))))))))
theorem t1_f_M_implied {E : Nat → St → Int → Int → Option Res} (hE : ∀ (t : Nat) (γ : St) (a b : Int), T1 P0 γ → pc (E t γ a b) (fun z => T1 P0 z.2)) {a0 : Int} {γ : St} (h : T1 P0 γ) : pc (f_M_implied E γ a0) (fun z => T1 P0 z.2) := by
  unfold f_M_implied
  exact (pc_bT (P := fun z => T1 P0 z.2) (hE _ _ _ _ h) (fun _ _ q => q) (fun _ γ2 hγ2 => (pc_b (P := fun z => T1 P0 z.2) (t1_f_M_peek  hγ2) (fun _ γ4 hγ4 => (pc_i (fun _ => (pc_b (P := fun z => T1 P0 z.2) (t1_f_M_take  hγ4) (fun _ γ6 hγ6 => (pc_bT (P := fun z => T1 P0 z.2) (t1_f_M_nest  hγ6) (fun _ _ q => q) (fun _ γ8 hγ8 => (pc_bT (P := fun z => T1 P0 z.2) (hE _ _ _ _ hγ8) (fun _ _ q => q) (fun _ γ10 hγ10 => (pc_bT (P := fun z => T1 P0 z.2) (t1_f_M_two  hγ10) (fun _ _ q => q) (fun _ γ12 hγ12 => (pc_s hγ12)))))))))) (fun _ => (pc_s hγ4)))))))
theorem t1_f_M_either_b43 {E : Nat → St → Int → Int → Option Res} (hE : ∀ (t : Nat) (γ : St) (a b : Int), T1 P0 γ → pc (E t γ a b) (fun z => T1 P0 z.2)) {k6 : St → Int → Int → Option Res} (hk6 : ∀ (γ : St) (y0 y1 : Int), T1 P0 γ → pc (k6 γ y0 y1) (fun z => T1 P0 z.2)) {x1 : Int} {x2 : Int} {x3 : Int} {γ : St} (h : T1 P0 γ) : pc (f_M_either_b43 E k6 γ x1 x2 x3) (fun z => T1 P0 z.2) := by
  unfold f_M_either_b43
  exact (pc_b (P := fun z => T1 P0 z.2) (t1_f_M_take  h) (fun _ γ5 hγ5 => (pc_bT (P := fun z => T1 P0 z.2) (hE _ _ _ _ hγ5) (fun _ _ q => q) (fun _ γ7 hγ7 => (pc_bT (P := fun z => T1 P0 z.2) (t1_f_M_two  hγ7) (fun _ _ q => q) (fun _ γ9 hγ9 => (hk6 _ _ _ hγ9)))))))
theorem t1_f_M_either_b26 {E : Nat → St → Int → Int → Option Res} (hE : ∀ (t : Nat) (γ : St) (a b : Int), T1 P0 γ → pc (E t γ a b) (fun z => T1 P0 z.2)) {k6 : St → Int → Int → Option Res} (hk6 : ∀ (γ : St) (y0 y1 : Int), T1 P0 γ → pc (k6 γ y0 y1) (fun z => T1 P0 z.2)) {x12 : Int} {x13 : Int} {γ : St} (h : T1 P0 γ) : pc (f_M_either_b26 E k6 γ x12 x13) (fun z => T1 P0 z.2) := by
  unfold f_M_either_b26
  exact (pc_b (P := fun z => T1 P0 z.2) (t1_f_M_is  h) (fun _ γ15 hγ15 => (pc_i (fun _ => (t1_f_M_either_b43 hE hk6 hγ15)) (fun _ => (t1_f_M_either_b43 hE hk6 hγ15)))))
theorem t1_f_M_either_L6 {E : Nat → St → Int → Int → Option Res} (hE : ∀ (t : Nat) (γ : St) (a b : Int), T1 P0 γ → pc (E t γ a b) (fun z => T1 P0 z.2)) : ∀ (n : Nat) (γ : St) (y0 y1 : Int), T1 P0 γ → pc (f_M_either_L6 E n γ y0 y1) (fun z => T1 P0 z.2) := by
  intro n
  induction n with
  | zero => intros; exact pc_n
  | succ n ih =>
    intro γ y0 y1 h
    unfold f_M_either_L6
    exact (pc_b (P := fun z => T1 P0 z.2) (t1_f_M_is  h) (fun _ γ21 hγ21 => (pc_i (fun _ => (t1_f_M_either_b26 hE ih hγ21)) (fun _ => (pc_b (P := fun z => T1 P0 z.2) (t1_f_M_is  hγ21) (fun _ γ23 hγ23 => (pc_i (fun _ => (pc_s hγ23)) (fun _ => (t1_f_M_either_b26 hE ih hγ23)))))))))
theorem t1_f_M_either {E : Nat → St → Int → Int → Option Res} (hE : ∀ (t : Nat) (γ : St) (a b : Int), T1 P0 γ → pc (E t γ a b) (fun z => T1 P0 z.2)) {a0 : Int} {γ : St} (h : T1 P0 γ) : pc (f_M_either E γ a0) (fun z => T1 P0 z.2) := by
  unfold f_M_either
  exact (pc_bT (P := fun z => T1 P0 z.2) (hE _ _ _ _ h) (fun _ _ q => q) (fun _ γ25 hγ25 => (t1_f_M_either_L6 hE _ _ _ _ hγ25)))
theorem t1_f_M_both_L6 {E : Nat → St → Int → Int → Option Res} (hE : ∀ (t : Nat) (γ : St) (a b : Int), T1 P0 γ → pc (E t γ a b) (fun z => T1 P0 z.2)) : ∀ (n : Nat) (γ : St) (y0 y1 : Int), T1 P0 γ → pc (f_M_both_L6 E n γ y0 y1) (fun z => T1 P0 z.2) := by
  intro n
  induction n with
  | zero => intros; exact pc_n
  | succ n ih =>
    intro γ y0 y1 h
    unfold f_M_both_L6
    exact (pc_b (P := fun z => T1 P0 z.2) (t1_f_M_is  h) (fun _ γ4 hγ4 => (pc_i (fun _ => (pc_s hγ4)) (fun _ => (pc_b (P := fun z => T1 P0 z.2) (t1_f_M_take  hγ4) (fun _ γ6 hγ6 => (pc_bT (P := fun z => T1 P0 z.2) (hE _ _ _ _ hγ6) (fun _ _ q => q) (fun _ γ8 hγ8 => (pc_bT (P := fun z => T1 P0 z.2) (t1_f_M_two  hγ8) (fun _ _ q => q) (fun _ γ10 hγ10 => (ih _ _ _ hγ10)))))))))))
theorem t1_f_M_both {E : Nat → St → Int → Int → Option Res} (hE : ∀ (t : Nat) (γ : St) (a b : Int), T1 P0 γ → pc (E t γ a b) (fun z => T1 P0 z.2)) {a0 : Int} {γ : St} (h : T1 P0 γ) : pc (f_M_both E γ a0) (fun z => T1 P0 z.2) := by
  unfold f_M_both
  exact (pc_bT (P := fun z => T1 P0 z.2) (hE _ _ _ _ h) (fun _ _ q => q) (fun _ γ12 hγ12 => (t1_f_M_both_L6 hE _ _ _ _ hγ12)))
theorem t1_f_M_compared_b81 {E : Nat → St → Int → Int → Option Res} (hE : ∀ (t : Nat) (γ : St) (a b : Int), T1 P0 γ → pc (E t γ a b) (fun z => T1 P0 z.2)) {x1 : Int} {x2 : Int} {x3 : Int} {γ : St} (h : T1 P0 γ) : pc (f_M_compared_b81 E γ x1 x2 x3) (fun z => T1 P0 z.2) := by
  unfold f_M_compared_b81
  exact (pc_i (fun _ => (pc_b (P := fun z => T1 P0 z.2) (t1_f_M_take  h) (fun _ γ5 hγ5 => (pc_bT (P := fun z => T1 P0 z.2) (hE _ _ _ _ hγ5) (fun _ _ q => q) (fun _ γ7 hγ7 => (pc_bT (P := fun z => T1 P0 z.2) (t1_f_M_two  hγ7) (fun _ _ q => q) (fun _ γ9 hγ9 => (pc_s hγ9)))))))) (fun _ => (pc_s h)))
theorem t1_f_M_compared {E : Nat → St → Int → Int → Option Res} (hE : ∀ (t : Nat) (γ : St) (a b : Int), T1 P0 γ → pc (E t γ a b) (fun z => T1 P0 z.2)) {a0 : Int} {γ : St} (h : T1 P0 γ) : pc (f_M_compared E γ a0) (fun z => T1 P0 z.2) := by
  unfold f_M_compared
  exact (pc_bT (P := fun z => T1 P0 z.2) (hE _ _ _ _ h) (fun _ _ q => q) (fun _ γ11 hγ11 => (pc_b (P := fun z => T1 P0 z.2) (t1_f_M_peek  hγ11) (fun _ γ13 hγ13 => (pc_i (fun _ => (pc_i (fun _ => (pc_i (fun _ => (pc_i (fun _ => (pc_i (fun _ => (pc_i (fun _ => (t1_f_M_compared_b81 hE hγ13)) (fun _ => (t1_f_M_compared_b81 hE hγ13)))) (fun _ => (t1_f_M_compared_b81 hE hγ13)))) (fun _ => (t1_f_M_compared_b81 hE hγ13)))) (fun _ => (t1_f_M_compared_b81 hE hγ13)))) (fun _ => (t1_f_M_compared_b81 hE hγ13)))) (fun _ => (t1_f_M_compared_b81 hE hγ13)))))))
theorem t1_f_M_sum_b40 {E : Nat → St → Int → Int → Option Res} (hE : ∀ (t : Nat) (γ : St) (a b : Int), T1 P0 γ → pc (E t γ a b) (fun z => T1 P0 z.2)) {k6 : St → Int → Int → Option Res} (hk6 : ∀ (γ : St) (y0 y1 : Int), T1 P0 γ → pc (k6 γ y0 y1) (fun z => T1 P0 z.2)) {x1 : Int} {x2 : Int} {x3 : Int} {γ : St} (h : T1 P0 γ) : pc (f_M_sum_b40 E k6 γ x1 x2 x3) (fun z => T1 P0 z.2) := by
  unfold f_M_sum_b40
  exact (pc_b (P := fun z => T1 P0 z.2) (t1_f_M_take  h) (fun _ γ5 hγ5 => (pc_bT (P := fun z => T1 P0 z.2) (hE _ _ _ _ hγ5) (fun _ _ q => q) (fun _ γ7 hγ7 => (pc_bT (P := fun z => T1 P0 z.2) (t1_f_M_two  hγ7) (fun _ _ q => q) (fun _ γ9 hγ9 => (hk6 _ _ _ hγ9)))))))
theorem t1_f_M_sum_b24 {E : Nat → St → Int → Int → Option Res} (hE : ∀ (t : Nat) (γ : St) (a b : Int), T1 P0 γ → pc (E t γ a b) (fun z => T1 P0 z.2)) {k6 : St → Int → Int → Option Res} (hk6 : ∀ (γ : St) (y0 y1 : Int), T1 P0 γ → pc (k6 γ y0 y1) (fun z => T1 P0 z.2)) {x12 : Int} {x13 : Int} {γ : St} (h : T1 P0 γ) : pc (f_M_sum_b24 E k6 γ x12 x13) (fun z => T1 P0 z.2) := by
  unfold f_M_sum_b24
  exact (pc_b (P := fun z => T1 P0 z.2) (t1_f_M_peek  h) (fun _ γ15 hγ15 => (pc_i (fun _ => (t1_f_M_sum_b40 hE hk6 hγ15)) (fun _ => (t1_f_M_sum_b40 hE hk6 hγ15)))))
theorem t1_f_M_sum_L6 {E : Nat → St → Int → Int → Option Res} (hE : ∀ (t : Nat) (γ : St) (a b : Int), T1 P0 γ → pc (E t γ a b) (fun z => T1 P0 z.2)) : ∀ (n : Nat) (γ : St) (y0 y1 : Int), T1 P0 γ → pc (f_M_sum_L6 E n γ y0 y1) (fun z => T1 P0 z.2) := by
  intro n
  induction n with
  | zero => intros; exact pc_n
  | succ n ih =>
    intro γ y0 y1 h
    unfold f_M_sum_L6
    exact (pc_b (P := fun z => T1 P0 z.2) (t1_f_M_peek  h) (fun _ γ21 hγ21 => (pc_i (fun _ => (t1_f_M_sum_b24 hE ih hγ21)) (fun _ => (pc_b (P := fun z => T1 P0 z.2) (t1_f_M_peek  hγ21) (fun _ γ23 hγ23 => (pc_i (fun _ => (pc_s hγ23)) (fun _ => (t1_f_M_sum_b24 hE ih hγ23)))))))))
theorem t1_f_M_sum {E : Nat → St → Int → Int → Option Res} (hE : ∀ (t : Nat) (γ : St) (a b : Int), T1 P0 γ → pc (E t γ a b) (fun z => T1 P0 z.2)) {a0 : Int} {γ : St} (h : T1 P0 γ) : pc (f_M_sum E γ a0) (fun z => T1 P0 z.2) := by
  unfold f_M_sum
  exact (pc_bT (P := fun z => T1 P0 z.2) (hE _ _ _ _ h) (fun _ _ q => q) (fun _ γ25 hγ25 => (t1_f_M_sum_L6 hE _ _ _ _ hγ25)))
theorem t1_f_M_product_b66 {E : Nat → St → Int → Int → Option Res} (hE : ∀ (t : Nat) (γ : St) (a b : Int), T1 P0 γ → pc (E t γ a b) (fun z => T1 P0 z.2)) {k6 : St → Int → Int → Option Res} (hk6 : ∀ (γ : St) (y0 y1 : Int), T1 P0 γ → pc (k6 γ y0 y1) (fun z => T1 P0 z.2)) {x1 : Int} {x2 : Int} {x3 : Int} {γ : St} (h : T1 P0 γ) : pc (f_M_product_b66 E k6 γ x1 x2 x3) (fun z => T1 P0 z.2) := by
  unfold f_M_product_b66
  exact (pc_b (P := fun z => T1 P0 z.2) (t1_f_M_take  h) (fun _ γ5 hγ5 => (pc_bT (P := fun z => T1 P0 z.2) (hE _ _ _ _ hγ5) (fun _ _ q => q) (fun _ γ7 hγ7 => (pc_bT (P := fun z => T1 P0 z.2) (t1_f_M_two  hγ7) (fun _ _ q => q) (fun _ γ9 hγ9 => (hk6 _ _ _ hγ9)))))))
theorem t1_f_M_product_b35 {E : Nat → St → Int → Int → Option Res} (hE : ∀ (t : Nat) (γ : St) (a b : Int), T1 P0 γ → pc (E t γ a b) (fun z => T1 P0 z.2)) {k6 : St → Int → Int → Option Res} (hk6 : ∀ (γ : St) (y0 y1 : Int), T1 P0 γ → pc (k6 γ y0 y1) (fun z => T1 P0 z.2)) {x12 : Int} {x13 : Int} {γ : St} (h : T1 P0 γ) : pc (f_M_product_b35 E k6 γ x12 x13) (fun z => T1 P0 z.2) := by
  unfold f_M_product_b35
  exact (pc_b (P := fun z => T1 P0 z.2) (t1_f_M_peek  h) (fun _ γ15 hγ15 => (pc_i (fun _ => (pc_b (P := fun z => T1 P0 z.2) (t1_f_M_is  hγ15) (fun _ γ17 hγ17 => (pc_i (fun _ => (t1_f_M_product_b66 hE hk6 hγ17)) (fun _ => (t1_f_M_product_b66 hE hk6 hγ17)))))) (fun _ => (t1_f_M_product_b66 hE hk6 hγ15)))))
theorem t1_f_M_product_L6 {E : Nat → St → Int → Int → Option Res} (hE : ∀ (t : Nat) (γ : St) (a b : Int), T1 P0 γ → pc (E t γ a b) (fun z => T1 P0 z.2)) : ∀ (n : Nat) (γ : St) (y0 y1 : Int), T1 P0 γ → pc (f_M_product_L6 E n γ y0 y1) (fun z => T1 P0 z.2) := by
  intro n
  induction n with
  | zero => intros; exact pc_n
  | succ n ih =>
    intro γ y0 y1 h
    unfold f_M_product_L6
    exact (pc_b (P := fun z => T1 P0 z.2) (t1_f_M_peek  h) (fun _ γ23 hγ23 => (pc_i (fun _ => (t1_f_M_product_b35 hE ih hγ23)) (fun _ => (pc_b (P := fun z => T1 P0 z.2) (t1_f_M_is  hγ23) (fun _ γ25 hγ25 => (pc_i (fun _ => (t1_f_M_product_b35 hE ih hγ25)) (fun _ => (pc_b (P := fun z => T1 P0 z.2) (t1_f_M_is  hγ25) (fun _ γ27 hγ27 => (pc_i (fun _ => (pc_s hγ27)) (fun _ => (t1_f_M_product_b35 hE ih hγ27)))))))))))))
theorem t1_f_M_product {E : Nat → St → Int → Int → Option Res} (hE : ∀ (t : Nat) (γ : St) (a b : Int), T1 P0 γ → pc (E t γ a b) (fun z => T1 P0 z.2)) {a0 : Int} {γ : St} (h : T1 P0 γ) : pc (f_M_product E γ a0) (fun z => T1 P0 z.2) := by
  unfold f_M_product
  exact (pc_bT (P := fun z => T1 P0 z.2) (hE _ _ _ _ h) (fun _ _ q => q) (fun _ γ29 hγ29 => (t1_f_M_product_L6 hE _ _ _ _ hγ29)))
theorem t1_f_M_unary_b131 {E : Nat → St → Int → Int → Option Res} (hE : ∀ (t : Nat) (γ : St) (a b : Int), T1 P0 γ → pc (E t γ a b) (fun z => T1 P0 z.2)) {γ : St} (h : T1 P0 γ) : pc (f_M_unary_b131 E γ) (fun z => T1 P0 z.2) := by
  unfold f_M_unary_b131
  exact (pc_b (P := fun z => T1 P0 z.2) (t1_f_M_cant  h) (fun _ γ2 hγ2 => (pc_s hγ2)))
theorem t1_f_M_unary_b161 {E : Nat → St → Int → Int → Option Res} (hE : ∀ (t : Nat) (γ : St) (a b : Int), T1 P0 γ → pc (E t γ a b) (fun z => T1 P0 z.2)) {γ : St} (h : T1 P0 γ) : pc (f_M_unary_b161 E γ) (fun z => T1 P0 z.2) := by
  unfold f_M_unary_b161
  exact (pc_s h)
theorem t1_f_M_unary_b211 {E : Nat → St → Int → Int → Option Res} (hE : ∀ (t : Nat) (γ : St) (a b : Int), T1 P0 γ → pc (E t γ a b) (fun z => T1 P0 z.2)) {k92 : St → Int → Option Res} (hk92 : ∀ (γ : St) (y0 : Int), T1 P0 γ → pc (k92 γ y0) (fun z => T1 P0 z.2)) {x131 : St → Option Res} (hx131 : ∀ (γ : St), T1 P0 γ → pc (x131 γ ) (fun z => T1 P0 z.2)) {x161 : St → Option Res} (hx161 : ∀ (γ : St), T1 P0 γ → pc (x161 γ ) (fun z => T1 P0 z.2)) {x4 : Int} {x5 : Int} {x6 : Int} {x7 : Int} (nx : x7 ≠ 1) {γ : St} (h : T1 P0 γ) : pc (f_M_unary_b211 E k92 x131 x161 γ x4 x5 x6 x7) (fun z => T1 P0 z.2) := by
  unfold f_M_unary_b211
  exact (pc_c (fun _ => (pc_bT (P := fun z => T1 P0 z.2) (t1_f_M_make (fun q => absurd q nx) h) (fun _ _ q => q) (fun _ γ10 hγ10 => (hk92 _ _ hγ10)))))
theorem t1_f_M_unary_b124 {E : Nat → St → Int → Int → Option Res} (hE : ∀ (t : Nat) (γ : St) (a b : Int), T1 P0 γ → pc (E t γ a b) (fun z => T1 P0 z.2)) {k92 : St → Int → Option Res} (hk92 : ∀ (γ : St) (y0 : Int), T1 P0 γ → pc (k92 γ y0) (fun z => T1 P0 z.2)) {x131 : St → Option Res} (hx131 : ∀ (γ : St), T1 P0 γ → pc (x131 γ ) (fun z => T1 P0 z.2)) {x161 : St → Option Res} (hx161 : ∀ (γ : St), T1 P0 γ → pc (x161 γ ) (fun z => T1 P0 z.2)) {x12 : Int} {x13 : Int} {γ : St} (h : T1 P0 γ) : pc (f_M_unary_b124 E k92 x131 x161 γ x12 x13) (fun z => T1 P0 z.2) := by
  unfold f_M_unary_b124
  exact (pc_b (P := fun z => T1 P0 z.2) (t1_f_M_nameHere  h) (fun _ γ15 hγ15 => (pc_i (fun _ => (pc_b (P := fun z => T1 P0 z.2) (t1_f_M_variableHere  hγ15) (fun _ γ18 hγ18 => (pc_i (fun _ => (hx161 _ hγ18)) (fun _ => (pc_c (fun _ => (pc_i (fun _ => (pc_bT (P := fun z => T1 P0 z.2) (t1_f_M_shallow  hγ18) (fun _ _ q => q) (fun _ γ22 hγ22 => (pc_b (P := fun z => T1 P0 z.2) (t1_f_M_take  hγ22) (fun _ γ24 hγ24 => (pc_c (fun _ => (pc_c (fun _ => (pc_c (fun _ => (pc_i (fun _ => (t1_f_M_unary_b211 hE hk92 hx131 hx161 (by decide) hγ24)) (fun _ => (t1_f_M_unary_b211 hE hk92 hx131 hx161 (by decide) hγ24)))))))))))))) (fun _ => (hx161 _ hγ18)))))))))) (fun _ => (hx131 _ hγ15)))))
theorem t1_f_M_unary_L92 {E : Nat → St → Int → Int → Option Res} (hE : ∀ (t : Nat) (γ : St) (a b : Int), T1 P0 γ → pc (E t γ a b) (fun z => T1 P0 z.2)) {x131 : St → Option Res} (hx131 : ∀ (γ : St), T1 P0 γ → pc (x131 γ ) (fun z => T1 P0 z.2)) {x161 : St → Option Res} (hx161 : ∀ (γ : St), T1 P0 γ → pc (x161 γ ) (fun z => T1 P0 z.2)) : ∀ (n : Nat) (γ : St) (y0 : Int), T1 P0 γ → pc (f_M_unary_L92 E x131 x161 n γ y0) (fun z => T1 P0 z.2) := by
  intro n
  induction n with
  | zero => intros; exact pc_n
  | succ n ih =>
    intro γ y0 h
    unfold f_M_unary_L92
    exact (pc_b (P := fun z => T1 P0 z.2) (t1_f_M_is  h) (fun _ γ33 hγ33 => (pc_i (fun _ => (pc_s hγ33)) (fun _ => (pc_b (P := fun z => T1 P0 z.2) (t1_f_M_take  hγ33) (fun _ γ35 hγ35 => (pc_b (P := fun z => T1 P0 z.2) (t1_f_M_is  hγ35) (fun _ γ37 hγ37 => (pc_i (fun _ => (t1_f_M_unary_b124 hE ih hx131 hx161 hγ37)) (fun _ => (pc_b (P := fun z => T1 P0 z.2) (t1_f_M_take  hγ37) (fun _ γ39 hγ39 => (t1_f_M_unary_b124 hE ih hx131 hx161 hγ39)))))))))))))
theorem t1_f_M_unary_b60 {E : Nat → St → Int → Int → Option Res} (hE : ∀ (t : Nat) (γ : St) (a b : Int), T1 P0 γ → pc (E t γ a b) (fun z => T1 P0 z.2)) {x40 : Int} {x41 : Int} {γ : St} (h : T1 P0 γ) : pc (f_M_unary_b60 E γ x40 x41) (fun z => T1 P0 z.2) := by
  unfold f_M_unary_b60
  exact (pc_i (fun _ => (pc_bT (P := fun z => T1 P0 z.2) (hE _ _ _ _ h) (fun _ _ q => q) (fun _ γ43 hγ43 => (t1_f_M_unary_L92 hE (fun _ h => t1_f_M_unary_b131 hE h) (fun _ h => t1_f_M_unary_b161 hE h) _ _ _ hγ43)))) (fun _ => (pc_b (P := fun z => T1 P0 z.2) (t1_f_M_take  h) (fun _ γ45 hγ45 => (pc_bT (P := fun z => T1 P0 z.2) (t1_f_M_nest  hγ45) (fun _ _ q => q) (fun _ γ47 hγ47 => (pc_bT (P := fun z => T1 P0 z.2) (hE _ _ _ _ hγ47) (fun _ _ q => q) (fun _ γ49 hγ49 => (pc_bT (P := fun z => T1 P0 z.2) (t1_f_M_make (fun _ => Or.inl rfl) hγ49) (fun _ _ q => q) (fun _ γ51 hγ51 => (pc_s hγ51)))))))))))
theorem t1_f_M_unary {E : Nat → St → Int → Int → Option Res} (hE : ∀ (t : Nat) (γ : St) (a b : Int), T1 P0 γ → pc (E t γ a b) (fun z => T1 P0 z.2)) {a0 : Int} {γ : St} (h : T1 P0 γ) : pc (f_M_unary E γ a0) (fun z => T1 P0 z.2) := by
  unfold f_M_unary
  exact (pc_b (P := fun z => T1 P0 z.2) (t1_f_M_peek  h) (fun _ γ53 hγ53 => (pc_i (fun _ => (pc_b (P := fun z => T1 P0 z.2) (t1_f_M_is  hγ53) (fun _ γ55 hγ55 => (pc_i (fun _ => (pc_b (P := fun z => T1 P0 z.2) (t1_f_M_is  hγ55) (fun _ γ57 hγ57 => (pc_i (fun _ => (pc_b (P := fun z => T1 P0 z.2) (t1_f_M_is  hγ57) (fun _ γ59 hγ59 => (pc_i (fun _ => (t1_f_M_unary_b60 hE hγ59)) (fun _ => (t1_f_M_unary_b60 hE hγ59)))))) (fun _ => (t1_f_M_unary_b60 hE hγ57)))))) (fun _ => (t1_f_M_unary_b60 hE hγ55)))))) (fun _ => (t1_f_M_unary_b60 hE hγ53)))))
theorem t1_f_M_atom_b44 {E : Nat → St → Int → Int → Option Res} (hE : ∀ (t : Nat) (γ : St) (a b : Int), T1 P0 γ → pc (E t γ a b) (fun z => T1 P0 z.2)) {x1 : Int} {γ : St} (h : T1 P0 γ) : pc (f_M_atom_b44 E γ x1) (fun z => T1 P0 z.2) := by
  unfold f_M_atom_b44
  exact (pc_b (P := fun z => T1 P0 z.2) (t1_f_M_take  h) (fun _ γ3 hγ3 => (pc_bT (P := fun z => T1 P0 z.2) (t1_f_M_make (fun q => absurd q (by decide)) hγ3) (fun _ _ q => q) (fun _ γ5 hγ5 => (pc_s hγ5)))))
theorem t1_f_M_atom_L15 {E : Nat → St → Int → Int → Option Res} (hE : ∀ (t : Nat) (γ : St) (a b : Int), T1 P0 γ → pc (E t γ a b) (fun z => T1 P0 z.2)) {x44 : St → Int → Option Res} (hx44 : ∀ (γ : St) (y0 : Int), T1 P0 γ → pc (x44 γ y0) (fun z => T1 P0 z.2)) : ∀ (n : Nat) (γ : St) (y0 y1 : Int), T1 P0 γ → pc (f_M_atom_L15 E x44 n γ y0 y1) (fun z => T1 P0 z.2) := by
  intro n
  induction n with
  | zero => intros; exact pc_n
  | succ n ih =>
    intro γ y0 y1 h
    unfold f_M_atom_L15
    exact (pc_i (fun _ => (hx44 _ _ h)) (fun _ => (pc_c (fun _ => (pc_c (fun _ => (pc_c (fun _ => (pc_c (fun _ => (pc_a (pc_c (fun _ => (ih _ _ _ h))))))))))))))
theorem t1_f_M_atom_b92 {E : Nat → St → Int → Int → Option Res} (hE : ∀ (t : Nat) (γ : St) (a b : Int), T1 P0 γ → pc (E t γ a b) (fun z => T1 P0 z.2)) {x17 : Int} (bx : Bl x17) {γ : St} (h : T1 P0 γ) : pc (f_M_atom_b92 E γ x17) (fun z => T1 P0 z.2) := by
  unfold f_M_atom_b92
  exact (pc_b (P := fun z => T1 P0 z.2) (t1_f_M_take  h) (fun _ γ19 hγ19 => (pc_bT (P := fun z => T1 P0 z.2) (t1_f_M_make (fun _ => bx) hγ19) (fun _ _ q => q) (fun _ γ21 hγ21 => (pc_s hγ21)))))
theorem t1_f_M_atom_b77 {E : Nat → St → Int → Int → Option Res} (hE : ∀ (t : Nat) (γ : St) (a b : Int), T1 P0 γ → pc (E t γ a b) (fun z => T1 P0 z.2)) {γ : St} (h : T1 P0 γ) : pc (f_M_atom_b77 E γ) (fun z => T1 P0 z.2) := by
  unfold f_M_atom_b77
  exact (pc_b (P := fun z => T1 P0 z.2) (t1_f_M_is  h) (fun _ γ23 hγ23 => (pc_i (fun _ => (t1_f_M_atom_b92 hE (by first | exact Or.inl rfl | exact Or.inr rfl) hγ23)) (fun _ => (t1_f_M_atom_b92 hE (by first | exact Or.inl rfl | exact Or.inr rfl) hγ23)))))
theorem t1_f_M_atom {E : Nat → St → Int → Int → Option Res} (hE : ∀ (t : Nat) (γ : St) (a b : Int), T1 P0 γ → pc (E t γ a b) (fun z => T1 P0 z.2)) {a0 : Int} {γ : St} (h : T1 P0 γ) : pc (f_M_atom E γ a0) (fun z => T1 P0 z.2) := by
  unfold f_M_atom
  exact (pc_b (P := fun z => T1 P0 z.2) (t1_f_M_peek  h) (fun _ γ25 hγ25 => (pc_i (fun _ => (pc_b (P := fun z => T1 P0 z.2) (t1_f_M_is  hγ25) (fun _ γ27 hγ27 => (pc_i (fun _ => (t1_f_M_atom_b77 hE hγ27)) (fun _ => (pc_b (P := fun z => T1 P0 z.2) (t1_f_M_is  hγ27) (fun _ γ29 hγ29 => (pc_i (fun _ => (pc_b (P := fun z => T1 P0 z.2) (t1_f_M_peek  hγ29) (fun _ γ31 hγ31 => (pc_i (fun _ => (pc_b (P := fun z => T1 P0 z.2) (t1_f_M_nameHere  hγ31) (fun _ γ33 hγ33 => (pc_i (fun _ => (pc_a (pc_b (P := fun z => T1 P0 z.2) (t1_f_M_variableHere  hγ33) (fun _ γ38 hγ38 => (pc_b (P := fun z => T1 P0 z.2) (t1_f_M_nodeHere  hγ38) (fun _ γ40 hγ40 => (pc_b (P := fun z => T1 P0 z.2) (t1_f_M_take  hγ40) (fun _ γ42 hγ42 => (pc_b (P := fun z => T1 P0 z.2) (t1_f_M_peek  hγ42) (fun _ γ44 hγ44 => (pc_i (fun _ => (pc_i (fun _ => (pc_c (fun _ => (pc_c (fun _ => (pc_bT (P := fun z => T1 P0 z.2) (t1_f_M_make (fun q => absurd q (by decide)) hγ44) (fun _ _ q => q) (fun _ γ50 hγ50 => (pc_s hγ50)))))))) (fun _ => (pc_s hγ44)))) (fun _ => (pc_i (fun _ => (pc_bT (P := fun z => T1 P0 z.2) (hE _ _ _ _ hγ44) (fun _ _ q => q) (fun _ γ52 hγ52 => (pc_s hγ52)))) (fun _ => (pc_s hγ44))))))))))))))) (fun _ => (pc_b (P := fun z => T1 P0 z.2) (t1_f_M_cant  hγ33) (fun _ γ54 hγ54 => (pc_s hγ54)))))))) (fun _ => (pc_b (P := fun z => T1 P0 z.2) (t1_f_M_take  hγ31) (fun _ γ56 hγ56 => (pc_bT (P := fun z => T1 P0 z.2) (t1_f_M_nest  hγ56) (fun _ _ q => q) (fun _ γ58 hγ58 => (pc_bT (P := fun z => T1 P0 z.2) (hE _ _ _ _ hγ58) (fun _ _ q => q) (fun _ γ60 hγ60 => (pc_bT (P := fun z => T1 P0 z.2) (t1_f_M_must  hγ60) (fun _ _ q => q) (fun _ γ62 hγ62 => (pc_s hγ62)))))))))))))) (fun _ => (t1_f_M_atom_b77 hE hγ29)))))))))) (fun _ => (pc_a (t1_f_M_atom_L15 hE (fun _ _ h => t1_f_M_atom_b44 hE h) _ _ _ _ hγ25))))))
theorem t1_f_M_call_b60 {E : Nat → St → Int → Int → Option Res} (hE : ∀ (t : Nat) (γ : St) (a b : Int), T1 P0 γ → pc (E t γ a b) (fun z => T1 P0 z.2)) {x1 : Int} {x2 : Int} {γ : St} (h : T1 P0 γ) : pc (f_M_call_b60 E γ x1 x2) (fun z => T1 P0 z.2) := by
  unfold f_M_call_b60
  exact (pc_bT (P := fun z => T1 P0 z.2) (t1_f_M_must  h) (fun _ _ q => q) (fun _ γ4 hγ4 => (pc_bT (P := fun z => T1 P0 z.2) (t1_f_M_make (fun q => absurd q (by decide)) hγ4) (fun _ _ q => q) (fun _ γ6 hγ6 => (pc_c (fun _ => (pc_c (fun _ => (pc_c (fun _ => (pc_t1 hγ6 (by omega) (fun γ12 hγ12 => (pc_c (fun _ => (pc_t1 hγ12 (by omega) (fun γ13 hγ13 => (pc_s hγ13)))))))))))))))))
theorem t1_f_M_call_L19 {E : Nat → St → Int → Int → Option Res} (hE : ∀ (t : Nat) (γ : St) (a b : Int), T1 P0 γ → pc (E t γ a b) (fun z => T1 P0 z.2)) {x60 : St → Int → Int → Option Res} (hx60 : ∀ (γ : St) (y0 y1 : Int), T1 P0 γ → pc (x60 γ y0 y1) (fun z => T1 P0 z.2)) : ∀ (n : Nat) (γ : St) (y0 y1 y2 y3 : Int), T1 P0 γ → pc (f_M_call_L19 E x60 n γ y0 y1 y2 y3) (fun z => T1 P0 z.2) := by
  intro n
  induction n with
  | zero => intros; exact pc_n
  | succ n ih =>
    intro γ y0 y1 y2 y3 h
    unfold f_M_call_L19
    exact (pc_b (P := fun z => T1 P0 z.2) (t1_f_M_peek  h) (fun _ γ19 hγ19 => (pc_i (fun _ => (hx60 _ _ _ hγ19)) (fun _ => (pc_b (P := fun z => T1 P0 z.2) (t1_f_M_take  hγ19) (fun _ γ21 hγ21 => (pc_bT (P := fun z => T1 P0 z.2) (t1_f_M_nest  hγ21) (fun _ _ q => q) (fun _ γ24 hγ24 => (pc_bT (P := fun z => T1 P0 z.2) (hE _ _ _ _ hγ24) (fun _ _ q => q) (fun _ γ26 hγ26 => (pc_c (fun _ => (pc_t1 hγ26 (by omega) (fun γ27 hγ27 => (pc_c (fun _ => (pc_a (ih _ _ _ _ _ hγ27))))))))))))))))))
theorem t1_f_M_call {E : Nat → St → Int → Int → Option Res} (hE : ∀ (t : Nat) (γ : St) (a b : Int), T1 P0 γ → pc (E t γ a b) (fun z => T1 P0 z.2)) {a0 : Int} {a1 : Int} {γ : St} (h : T1 P0 γ) : pc (f_M_call E γ a0 a1) (fun z => T1 P0 z.2) := by
  unfold f_M_call
  exact (pc_bT (P := fun z => T1 P0 z.2) (t1_f_M_must  h) (fun _ _ q => q) (fun _ γ34 hγ34 => (pc_bT (P := fun z => T1 P0 z.2) (t1_f_M_nest  hγ34) (fun _ _ q => q) (fun _ γ36 hγ36 => (pc_bT (P := fun z => T1 P0 z.2) (hE _ _ _ _ hγ36) (fun _ _ q => q) (fun _ γ38 hγ38 => (t1_f_M_call_L19 hE (fun _ _ _ h => t1_f_M_call_b60 hE h) _ _ _ _ _ _ hγ38)))))))
theorem t1_ME : ∀ (n t : Nat) (γ : St) (a b : Int), T1 P0 γ → pc (ME n t γ a b) (fun z => T1 P0 z.2) := by
  intro n
  induction n with
  | zero => intros; exact pc_n
  | succ n ih =>
    intro t γ a b h
    unfold ME
    exact pc_i (fun _ => t1_f_M_expression ih h) (fun _ => pc_i (fun _ => t1_f_M_implied ih h) (fun _ => pc_i (fun _ => t1_f_M_either ih h) (fun _ => pc_i (fun _ => t1_f_M_both ih h) (fun _ => pc_i (fun _ => t1_f_M_compared ih h) (fun _ => pc_i (fun _ => t1_f_M_sum ih h) (fun _ => pc_i (fun _ => t1_f_M_product ih h) (fun _ => pc_i (fun _ => t1_f_M_unary ih h) (fun _ => pc_i (fun _ => t1_f_M_atom ih h) (fun _ => pc_i (fun _ => t1_f_M_call ih h) (fun _ => pc_n))))))))))
theorem t1_F_M_expression {a0 : Int} {γ : St} (h : T1 P0 γ) : pc (F_M_expression γ a0) (fun z => T1 P0 z.2) := t1_ME 900 0 γ a0 0 h
theorem t1_F_M_call {a0 a1 : Int} {γ : St} (h : T1 P0 γ) : pc (F_M_call γ a0 a1) (fun z => T1 P0 z.2) := t1_ME 900 9 γ a0 a1 h
theorem t1_f_M_equation_b221  {γ : St} (h : T1 P0 γ) : pc (f_M_equation_b221 γ) (fun z => T1 P0 z.2) := by
  unfold f_M_equation_b221
  exact (pc_bT (P := fun z => T1 P0 z.2) (t1_f_M_must  h) (fun _ _ q => q) (fun _ γ2 hγ2 => (pc_c (fun _ => (pc_t1 hγ2 (by omega) (fun γ5 hγ5 => (pc_c (fun _ => (pc_t1 hγ5 (by omega) (fun γ9 hγ9 => (pc_s hγ9)))))))))))
theorem t1_f_M_equation_b156  {γ : St} (h : T1 P0 γ) : pc (f_M_equation_b156 γ) (fun z => T1 P0 z.2) := by
  unfold f_M_equation_b156
  exact (pc_bT (P := fun z => T1 P0 z.2) (t1_f_M_must  h) (fun _ _ q => q) (fun _ γ11 hγ11 => (pc_bT (P := fun z => T1 P0 z.2) (t1_f_M_must  hγ11) (fun _ _ q => q) (fun _ γ13 hγ13 => (pc_b (P := fun z => T1 P0 z.2) (t1_f_M_nameHere  hγ13) (fun _ γ15 hγ15 => (pc_i (fun _ => (pc_b (P := fun z => T1 P0 z.2) (t1_f_M_nodeHere  hγ15) (fun _ γ17 hγ17 => (pc_i (fun _ => (pc_b (P := fun z => T1 P0 z.2) (t1_f_M_take  hγ17) (fun _ γ19 hγ19 => (pc_bT (P := fun z => T1 P0 z.2) (t1_F_M_call hγ19) (fun _ _ q => q) (fun _ γ23 hγ23 => (pc_c (fun _ => (pc_t1 hγ23 (by omega) (fun γ24 hγ24 => (t1_f_M_equation_b221  hγ24)))))))))) (fun _ => (pc_s hγ17)))))) (fun _ => (pc_b (P := fun z => T1 P0 z.2) (t1_f_M_cant  hγ15) (fun _ γ27 hγ27 => (pc_s hγ27)))))))))))
theorem t1_f_M_equation_L120 {x156 : St → Option Res} (hx156 : ∀ (γ : St), T1 P0 γ → pc (x156 γ ) (fun z => T1 P0 z.2)) : ∀ (n : Nat) (γ : St), T1 P0 γ → pc (f_M_equation_L120 x156 n γ ) (fun z => T1 P0 z.2) := by
  intro n
  induction n with
  | zero => intros; exact pc_n
  | succ n ih =>
    intro γ  h
    unfold f_M_equation_L120
    exact (pc_b (P := fun z => T1 P0 z.2) (t1_f_M_peek  h) (fun _ γ29 hγ29 => (pc_i (fun _ => (hx156 _ hγ29)) (fun _ => (pc_b (P := fun z => T1 P0 z.2) (t1_f_M_take  hγ29) (fun _ γ31 hγ31 => (pc_c (fun _ => (pc_t1 hγ31 (by omega) (fun γ35 hγ35 => (pc_bT (P := fun z => T1 P0 z.2) (t1_f_M_left  hγ35) (fun _ _ q => q) (fun _ γ37 hγ37 => (pc_c (fun _ => (pc_t1 hγ37 (by omega) (fun γ38 hγ38 => (ih _ hγ38)))))))))))))))))
theorem t1_f_M_equation  {γ : St} (h : T1 P0 γ) : pc (f_M_equation γ) (fun z => T1 P0 z.2) := by
  unfold f_M_equation
  exact (pc_b (P := fun z => T1 P0 z.2) (t1_f_M_peek  h) (fun _ γ40 hγ40 => (pc_c (fun _ => (pc_t1 hγ40 (by omega) (fun γ44 hγ44 => (pc_c (fun _ => (pc_t1 hγ44 (by omega) (fun γ48 hγ48 => (pc_c (fun _ => (pc_t1 hγ48 (by omega) (fun γ52 hγ52 => (pc_b (P := fun z => T1 P0 z.2) (t1_f_M_peek  hγ52) (fun _ γ54 hγ54 => (pc_i (fun _ => (pc_b (P := fun z => T1 P0 z.2) (t1_f_M_take  hγ54) (fun _ γ56 hγ56 => (pc_c (fun _ => (pc_t1 hγ56 (by omega) (fun γ60 hγ60 => (pc_bT (P := fun z => T1 P0 z.2) (t1_f_M_left  hγ60) (fun _ _ q => q) (fun _ γ62 hγ62 => (pc_c (fun _ => (pc_t1 hγ62 (by omega) (fun γ63 hγ63 => (t1_f_M_equation_L120 (fun _ h => t1_f_M_equation_b156  h) _ _ hγ63)))))))))))))) (fun _ => (pc_c (fun _ => (pc_t1 hγ54 (by omega) (fun γ67 hγ67 => (pc_bT (P := fun z => T1 P0 z.2) (t1_f_M_left  hγ67) (fun _ _ q => q) (fun _ γ69 hγ69 => (pc_c (fun _ => (pc_t1 hγ69 (by omega) (fun γ70 hγ70 => (pc_bT (P := fun z => T1 P0 z.2) (t1_f_M_must  hγ70) (fun _ _ q => q) (fun _ γ72 hγ72 => (pc_bT (P := fun z => T1 P0 z.2) (t1_F_M_expression hγ72) (fun _ _ q => q) (fun _ γ76 hγ76 => (pc_c (fun _ => (pc_t1 hγ76 (by omega) (fun γ77 hγ77 => (t1_f_M_equation_b221  hγ77)))))))))))))))))))))))))))))))))))))
theorem t1_f_M_type {a0 : Int} {γ : St} (h : T1 P0 γ) : pc (f_M_type γ a0) (fun z => T1 P0 z.2) := by
  unfold f_M_type
  exact (pc_i (fun _ => (pc_s h)) (fun _ => (pc_s h)))
theorem t1_f_M_look_b96  {γ : St} (h : T1 P0 γ) : pc (f_M_look_b96 γ) (fun z => T1 P0 z.2) := by
  unfold f_M_look_b96
  exact (pc_s h)
theorem t1_f_M_look_b168 {x2 : Int} {x3 : Int} {γ : St} (h : T1 P0 γ) : pc (f_M_look_b168 γ x2 x3) (fun z => T1 P0 z.2) := by
  unfold f_M_look_b168
  exact (pc_c (fun _ => (pc_c (fun _ => (pc_c (fun _ => (pc_c (fun _ => (pc_c (fun _ => (pc_c (fun _ => (pc_t1 h (by omega) (fun γ13 hγ13 => (pc_s hγ13)))))))))))))))
theorem t1_f_M_look_b153 {k122 : St → Int → Int → Int → Int → Option Res} (hk122 : ∀ (γ : St) (y0 y1 y2 y3 : Int), T1 P0 γ → pc (k122 γ y0 y1 y2 y3) (fun z => T1 P0 z.2)) {x168 : St → Int → Int → Option Res} (hx168 : ∀ (γ : St) (y0 y1 : Int), T1 P0 γ → pc (x168 γ y0 y1) (fun z => T1 P0 z.2)) {x14 : Int} {x15 : Int} {x16 : Int} {x17 : Int} {x18 : Int} {γ : St} (h : T1 P0 γ) : pc (f_M_look_b153 k122 x168 γ x14 x15 x16 x17 x18) (fun z => T1 P0 z.2) := by
  unfold f_M_look_b153
  exact (pc_bT (P := fun z => T1 P0 z.2) (t1_f_M_type  h) (fun _ _ q => q) (fun _ γ20 hγ20 => (pc_c (fun _ => (pc_a (hk122 _ _ _ _ _ hγ20))))))
theorem t1_f_M_look_L122 {x168 : St → Int → Int → Option Res} (hx168 : ∀ (γ : St) (y0 y1 : Int), T1 P0 γ → pc (x168 γ y0 y1) (fun z => T1 P0 z.2)) : ∀ (n : Nat) (γ : St) (y0 y1 y2 y3 : Int), T1 P0 γ → pc (f_M_look_L122 x168 n γ y0 y1 y2 y3) (fun z => T1 P0 z.2) := by
  intro n
  induction n with
  | zero => intros; exact pc_n
  | succ n ih =>
    intro γ y0 y1 y2 y3 h
    unfold f_M_look_L122
    exact (pc_i (fun _ => (hx168 _ _ _ h)) (fun _ => (pc_c (fun _ => (pc_c (fun _ => (pc_c (fun _ => (pc_i (fun _ => (t1_f_M_look_b153 ih hx168 h)) (fun _ => (t1_f_M_look_b153 ih hx168 h)))))))))))
theorem t1_f_M_look_b400 {x41 : Int} {x42 : Int} {x43 : Int} {γ : St} (h : T1 P0 γ) : pc (f_M_look_b400 γ x41 x42 x43) (fun z => T1 P0 z.2) := by
  unfold f_M_look_b400
  exact (pc_bT (P := fun z => T1 P0 z.2) (t1_f_M_type  h) (fun _ _ q => q) (fun _ γ45 hγ45 => (pc_c (fun _ => (pc_c (fun _ => (pc_c (fun _ => (pc_t1 hγ45 (by omega) (fun γ50 hγ50 => (pc_s hγ50)))))))))))
theorem t1_f_M_look_b399 {x51 : Int} {x52 : Int} {γ : St} (h : T1 P0 γ) : pc (f_M_look_b399 γ x51 x52) (fun z => T1 P0 z.2) := by
  unfold f_M_look_b399
  exact (t1_f_M_look_b400  h)
theorem t1_f_M_look_b442 {x53 : Int} {x54 : Int} {x55 : Int} {γ : St} (h : T1 P0 γ) : pc (f_M_look_b442 γ x53 x54 x55) (fun z => T1 P0 z.2) := by
  unfold f_M_look_b442
  exact (pc_bT (P := fun z => T1 P0 z.2) (t1_f_M_type  h) (fun _ _ q => q) (fun _ γ57 hγ57 => (pc_c (fun _ => (pc_c (fun _ => (pc_c (fun _ => (pc_t1 hγ57 (by omega) (fun γ62 hγ62 => (pc_s hγ62)))))))))))
theorem t1_f_M_look_b487 {x63 : Int} {x64 : Int} {γ : St} (h : T1 P0 γ) : pc (f_M_look_b487 γ x63 x64) (fun z => T1 P0 z.2) := by
  unfold f_M_look_b487
  exact (pc_bT (P := fun z => T1 P0 z.2) (t1_f_M_type  h) (fun _ _ q => q) (fun _ γ66 hγ66 => (pc_c (fun _ => (pc_t1 hγ66 (by omega) (fun γ68 hγ68 => (pc_s hγ68)))))))
theorem t1_f_M_look_b486 {x69 : Int} {γ : St} (h : T1 P0 γ) : pc (f_M_look_b486 γ x69) (fun z => T1 P0 z.2) := by
  unfold f_M_look_b486
  exact (t1_f_M_look_b487  h)
theorem t1_f_M_look_b523 {x70 : Int} {x71 : Int} {γ : St} (h : T1 P0 γ) : pc (f_M_look_b523 γ x70 x71) (fun z => T1 P0 z.2) := by
  unfold f_M_look_b523
  exact (pc_bT (P := fun z => T1 P0 z.2) (t1_f_M_type  h) (fun _ _ q => q) (fun _ γ73 hγ73 => (pc_c (fun _ => (pc_t1 hγ73 (by omega) (fun γ75 hγ75 => (pc_s hγ75)))))))
theorem t1_f_M_look_b562 {x76 : Int} {x77 : Int} {γ : St} (h : T1 P0 γ) : pc (f_M_look_b562 γ x76 x77) (fun z => T1 P0 z.2) := by
  unfold f_M_look_b562
  exact (pc_bT (P := fun z => T1 P0 z.2) (t1_f_M_type  h) (fun _ _ q => q) (fun _ γ79 hγ79 => (pc_c (fun _ => (pc_t1 hγ79 (by omega) (fun γ81 hγ81 => (pc_s hγ81)))))))
theorem t1_f_M_look_b561 {x82 : Int} {γ : St} (h : T1 P0 γ) : pc (f_M_look_b561 γ x82) (fun z => T1 P0 z.2) := by
  unfold f_M_look_b561
  exact (t1_f_M_look_b562  h)
theorem t1_f_M_look_b601 {x83 : Int} {x84 : Int} {γ : St} (h : T1 P0 γ) : pc (f_M_look_b601 γ x83 x84) (fun z => T1 P0 z.2) := by
  unfold f_M_look_b601
  exact (pc_bT (P := fun z => T1 P0 z.2) (t1_f_M_type  h) (fun _ _ q => q) (fun _ γ86 hγ86 => (pc_c (fun _ => (pc_t1 hγ86 (by omega) (fun γ88 hγ88 => (pc_s hγ88)))))))
theorem t1_f_M_look_b600 {x89 : Int} {γ : St} (h : T1 P0 γ) : pc (f_M_look_b600 γ x89) (fun z => T1 P0 z.2) := by
  unfold f_M_look_b600
  exact (t1_f_M_look_b601  h)
theorem t1_f_M_look_b630 {x90 : Int} {x91 : Int} {γ : St} (h : T1 P0 γ) : pc (f_M_look_b630 γ x90 x91) (fun z => T1 P0 z.2) := by
  unfold f_M_look_b630
  exact (pc_bT (P := fun z => T1 P0 z.2) (t1_f_M_type  h) (fun _ _ q => q) (fun _ γ93 hγ93 => (pc_c (fun _ => (pc_t1 hγ93 (by omega) (fun γ95 hγ95 => (pc_s hγ95)))))))
theorem t1_f_M_look_b54 {x96 : Int} {x97 : Int} {x98 : Int} {x99 : Int} {x100 : Int} {γ : St} (h : T1 P0 γ) : pc (f_M_look_b54 γ x96 x97 x98 x99 x100) (fun z => T1 P0 z.2) := by
  unfold f_M_look_b54
  exact (pc_c (fun _ => (pc_i (fun _ => (pc_c (fun _ => (pc_i (fun _ => (pc_c (fun _ => (pc_t1 h (by omega) (fun γ106 hγ106 => (pc_s hγ106)))))) (fun _ => (pc_i (fun _ => (pc_c (fun _ => (pc_t1 h (by omega) (fun γ109 hγ109 => (pc_s hγ109)))))) (fun _ => (pc_i (fun _ => (pc_c (fun _ => (pc_c (fun _ => (pc_c (fun _ => (pc_c (fun _ => (pc_c (fun _ => (pc_c (fun _ => (pc_t1 h (by omega) (fun γ121 hγ121 => (pc_s hγ121)))))))))))))))) (fun _ => (pc_i (fun _ => (pc_c (fun _ => (pc_i (fun _ => (t1_f_M_look_b399  h)) (fun _ => (pc_c (fun _ => (pc_c (fun _ => (pc_c (fun _ => (pc_i (fun _ => (t1_f_M_look_b399  h)) (fun _ => (t1_f_M_look_b400  h)))))))))))))) (fun _ => (pc_i (fun _ => (pc_c (fun _ => (pc_c (fun _ => (pc_i (fun _ => (t1_f_M_look_b442  h)) (fun _ => (t1_f_M_look_b442  h)))))))) (fun _ => (pc_i (fun _ => (pc_c (fun _ => (pc_c (fun _ => (pc_i (fun _ => (t1_f_M_look_b442  h)) (fun _ => (t1_f_M_look_b442  h)))))))) (fun _ => (pc_i (fun _ => (pc_c (fun _ => (pc_i (fun _ => (t1_f_M_look_b486  h)) (fun _ => (pc_c (fun _ => (pc_i (fun _ => (t1_f_M_look_b486  h)) (fun _ => (t1_f_M_look_b487  h)))))))))) (fun _ => (pc_i (fun _ => (pc_c (fun _ => (pc_i (fun _ => (t1_f_M_look_b486  h)) (fun _ => (pc_c (fun _ => (pc_i (fun _ => (t1_f_M_look_b486  h)) (fun _ => (t1_f_M_look_b487  h)))))))))) (fun _ => (pc_i (fun _ => (pc_c (fun _ => (pc_i (fun _ => (t1_f_M_look_b486  h)) (fun _ => (pc_c (fun _ => (pc_i (fun _ => (t1_f_M_look_b486  h)) (fun _ => (t1_f_M_look_b487  h)))))))))) (fun _ => (pc_i (fun _ => (pc_c (fun _ => (pc_i (fun _ => (t1_f_M_look_b486  h)) (fun _ => (pc_c (fun _ => (pc_i (fun _ => (t1_f_M_look_b486  h)) (fun _ => (t1_f_M_look_b487  h)))))))))) (fun _ => (pc_i (fun _ => (pc_c (fun _ => (pc_c (fun _ => (pc_i (fun _ => (t1_f_M_look_b523  h)) (fun _ => (t1_f_M_look_b523  h)))))))) (fun _ => (pc_i (fun _ => (pc_c (fun _ => (pc_c (fun _ => (pc_i (fun _ => (t1_f_M_look_b523  h)) (fun _ => (t1_f_M_look_b523  h)))))))) (fun _ => (pc_i (fun _ => (pc_c (fun _ => (pc_i (fun _ => (t1_f_M_look_b561  h)) (fun _ => (pc_c (fun _ => (pc_i (fun _ => (t1_f_M_look_b561  h)) (fun _ => (t1_f_M_look_b562  h)))))))))) (fun _ => (pc_i (fun _ => (pc_c (fun _ => (pc_i (fun _ => (t1_f_M_look_b561  h)) (fun _ => (pc_c (fun _ => (pc_i (fun _ => (t1_f_M_look_b561  h)) (fun _ => (t1_f_M_look_b562  h)))))))))) (fun _ => (pc_i (fun _ => (pc_c (fun _ => (pc_i (fun _ => (t1_f_M_look_b561  h)) (fun _ => (pc_c (fun _ => (pc_i (fun _ => (t1_f_M_look_b561  h)) (fun _ => (t1_f_M_look_b562  h)))))))))) (fun _ => (pc_i (fun _ => (pc_c (fun _ => (pc_i (fun _ => (t1_f_M_look_b561  h)) (fun _ => (pc_c (fun _ => (pc_i (fun _ => (t1_f_M_look_b561  h)) (fun _ => (t1_f_M_look_b562  h)))))))))) (fun _ => (pc_i (fun _ => (pc_c (fun _ => (pc_i (fun _ => (t1_f_M_look_b600  h)) (fun _ => (pc_c (fun _ => (pc_i (fun _ => (t1_f_M_look_b600  h)) (fun _ => (t1_f_M_look_b601  h)))))))))) (fun _ => (pc_i (fun _ => (pc_c (fun _ => (pc_i (fun _ => (t1_f_M_look_b600  h)) (fun _ => (pc_c (fun _ => (pc_i (fun _ => (t1_f_M_look_b600  h)) (fun _ => (t1_f_M_look_b601  h)))))))))) (fun _ => (pc_i (fun _ => (pc_c (fun _ => (pc_i (fun _ => (t1_f_M_look_b600  h)) (fun _ => (pc_c (fun _ => (pc_i (fun _ => (t1_f_M_look_b600  h)) (fun _ => (t1_f_M_look_b601  h)))))))))) (fun _ => (pc_i (fun _ => (pc_c (fun _ => (pc_i (fun _ => (t1_f_M_look_b600  h)) (fun _ => (pc_c (fun _ => (pc_i (fun _ => (t1_f_M_look_b600  h)) (fun _ => (t1_f_M_look_b601  h)))))))))) (fun _ => (pc_i (fun _ => (pc_c (fun _ => (pc_i (fun _ => (t1_f_M_look_b600  h)) (fun _ => (pc_c (fun _ => (pc_i (fun _ => (t1_f_M_look_b600  h)) (fun _ => (t1_f_M_look_b601  h)))))))))) (fun _ => (pc_i (fun _ => (pc_c (fun _ => (pc_i (fun _ => (t1_f_M_look_b630  h)) (fun _ => (t1_f_M_look_b630  h)))))) (fun _ => (pc_i (fun _ => (pc_c (fun _ => (pc_bT (P := fun z => T1 P0 z.2) (t1_f_M_type  h) (fun _ _ q => q) (fun _ γ223 hγ223 => (pc_c (fun _ => (pc_t1 hγ223 (by omega) (fun γ225 hγ225 => (pc_s hγ225)))))))))) (fun _ => (pc_c (fun _ => (pc_c (fun _ => (pc_c (fun _ => (pc_t1 h (by omega) (fun γ231 hγ231 => (pc_s hγ231)))))))))))))))))))))))))))))))))))))))))))))))))))))))))) (fun _ => (pc_c (fun _ => (pc_a (pc_c (fun _ => (pc_i (fun _ => (t1_f_M_look_b96  h)) (fun _ => (pc_c (fun _ => (pc_i (fun _ => (pc_c (fun _ => (pc_a (t1_f_M_look_L122 (fun _ _ _ h => t1_f_M_look_b168  h) _ _ _ _ _ _ h))))) (fun _ => (t1_f_M_look_b96  h))))))))))))))))
theorem t1_f_M_look_b30 {x243 : Int} {x244 : Int} {x245 : Int} {γ : St} (h : T1 P0 γ) : pc (f_M_look_b30 γ x243 x244 x245) (fun z => T1 P0 z.2) := by
  unfold f_M_look_b30
  exact (pc_c (fun _ => (pc_a (pc_i (fun _ => (pc_c (fun _ => (t1_f_M_look_b54  h)))) (fun _ => (t1_f_M_look_b54  h))))))
theorem t1_f_M_look_L10 {x30 : St → Int → Int → Int → Option Res} (hx30 : ∀ (γ : St) (y0 y1 y2 : Int), T1 P0 γ → pc (x30 γ y0 y1 y2) (fun z => T1 P0 z.2)) : ∀ (n : Nat) (γ : St) (y0 y1 y2 y3 : Int), T1 P0 γ → pc (f_M_look_L10 x30 n γ y0 y1 y2 y3) (fun z => T1 P0 z.2) := by
  intro n
  induction n with
  | zero => intros; exact pc_n
  | succ n ih =>
    intro γ y0 y1 y2 y3 h
    unfold f_M_look_L10
    exact (pc_i (fun _ => (hx30 _ _ _ _ h)) (fun _ => (pc_c (fun _ => (pc_c (fun _ => (pc_a (ih _ _ _ _ _ h))))))))
theorem t1_f_M_look {a0 : Int} {a1 : Int} {γ : St} (h : T1 P0 γ) : pc (f_M_look γ a0 a1) (fun z => T1 P0 z.2) := by
  unfold f_M_look
  exact (pc_c (fun _ => (pc_a (t1_f_M_look_L10 (fun _ _ _ _ h => t1_f_M_look_b30  h) _ _ _ _ _ _ h))))
theorem t1_f_M_clockOfVariable {a0 : Int} {γ : St} (h : T1 P0 γ) : pc (f_M_clockOfVariable γ a0) (fun z => T1 P0 z.2) := by
  unfold f_M_clockOfVariable
  exact (pc_c (fun _ => (pc_c (fun _ => (pc_c (fun _ => (pc_s h)))))))
theorem t1_f_M_together {a0 : Int} {a1 : Int} {γ : St} (h : T1 P0 γ) : pc (f_M_together γ a0 a1) (fun z => T1 P0 z.2) := by
  unfold f_M_together
  exact (pc_i (fun _ => (pc_i (fun _ => (pc_s h)) (fun _ => (pc_i (fun _ => (pc_s h)) (fun _ => (pc_s h)))))) (fun _ => (pc_s h)))
theorem t1_f_M_lookAtClock_b161 {x1 : Int} {x2 : Int} {γ : St} (h : T1 P0 γ) : pc (f_M_lookAtClock_b161 γ x1 x2) (fun z => T1 P0 z.2) := by
  unfold f_M_lookAtClock_b161
  exact (pc_c (fun _ => (pc_t1 h (by omega) (fun γ4 hγ4 => (pc_s hγ4)))))
theorem t1_f_M_lookAtClock_L131 {x161 : St → Int → Int → Option Res} (hx161 : ∀ (γ : St) (y0 y1 : Int), T1 P0 γ → pc (x161 γ y0 y1) (fun z => T1 P0 z.2)) : ∀ (n : Nat) (γ : St) (y0 y1 y2 : Int), T1 P0 γ → pc (f_M_lookAtClock_L131 x161 n γ y0 y1 y2) (fun z => T1 P0 z.2) := by
  intro n
  induction n with
  | zero => intros; exact pc_n
  | succ n ih =>
    intro γ y0 y1 y2 h
    unfold f_M_lookAtClock_L131
    exact (pc_i (fun _ => (hx161 _ _ _ h)) (fun _ => (pc_c (fun _ => (pc_bT (P := fun z => T1 P0 z.2) (t1_f_M_together  h) (fun _ _ q => q) (fun _ γ11 hγ11 => (pc_c (fun _ => (pc_a (ih _ _ _ _ hγ11))))))))))
theorem t1_f_M_lookAtClock {a0 : Int} {γ : St} (h : T1 P0 γ) : pc (f_M_lookAtClock γ a0) (fun z => T1 P0 z.2) := by
  unfold f_M_lookAtClock
  exact (pc_c (fun _ => (pc_a (pc_c (fun _ => (pc_i (fun _ => (pc_c (fun _ => (pc_i (fun _ => (pc_c (fun _ => (pc_i (fun _ => (t1_f_M_lookAtClock_L131 (fun _ _ _ h => t1_f_M_lookAtClock_b161  h) _ _ _ _ _ h)) (fun _ => (pc_c (fun _ => (pc_i (fun _ => (pc_c (fun _ => (pc_c (fun _ => (pc_b (P := fun z => T1 P0 z.2) (t1_f_M_clockOfVariable  h) (fun _ γ31 hγ31 => (t1_f_M_lookAtClock_b161  hγ31)))))))) (fun _ => (pc_s h)))))))))) (fun _ => (pc_c (fun _ => (pc_c (fun _ => (pc_c (fun _ => (pc_b (P := fun z => T1 P0 z.2) (t1_f_M_clockOfVariable  h) (fun _ γ38 hγ38 => (pc_bT (P := fun z => T1 P0 z.2) (t1_f_M_together  hγ38) (fun _ _ q => q) (fun _ γ40 hγ40 => (pc_c (fun _ => (pc_a (t1_f_M_lookAtClock_b161  hγ40))))))))))))))))))) (fun _ => (pc_c (fun _ => (pc_b (P := fun z => T1 P0 z.2) (t1_f_M_clockOfVariable  h) (fun _ γ47 hγ47 => (t1_f_M_lookAtClock_b161  hγ47))))))))))))
theorem t1_f_M_judge_L234  : ∀ (n : Nat) (γ : St) (y0 y1 y2 y3 : Int), T1 P0 γ → pc (f_M_judge_L234 n γ y0 y1 y2 y3) (fun z => T1 P0 z.2) := by
  intro n
  induction n with
  | zero => intros; exact pc_n
  | succ n ih =>
    intro γ y0 y1 y2 y3 h
    unfold f_M_judge_L234
    exact (pc_i (fun _ => (pc_s h)) (fun _ => (pc_c (fun _ => (pc_c (fun _ => (pc_c (fun _ => (pc_b (P := fun z => T1 P0 z.2) (t1_f_M_clockOfVariable  h) (fun _ γ11 hγ11 => (pc_bT (P := fun z => T1 P0 z.2) (t1_f_M_together  hγ11) (fun _ _ q => q) (fun _ γ13 hγ13 => (pc_c (fun _ => (ih _ _ _ _ _ hγ13)))))))))))))))
theorem t1_f_M_judge_b223 {x15 : Int} {x16 : Int} {x17 : Int} {γ : St} (h : T1 P0 γ) : pc (f_M_judge_b223 γ x15 x16 x17) (fun z => T1 P0 z.2) := by
  unfold f_M_judge_b223
  exact (pc_c (fun _ => (pc_a (t1_f_M_judge_L234  _ _ _ _ _ _ h))))
theorem t1_f_M_judge_L205 {x223 : St → Int → Int → Int → Option Res} (hx223 : ∀ (γ : St) (y0 y1 y2 : Int), T1 P0 γ → pc (x223 γ y0 y1 y2) (fun z => T1 P0 z.2)) : ∀ (n : Nat) (γ : St) (y0 y1 y2 y3 : Int), T1 P0 γ → pc (f_M_judge_L205 x223 n γ y0 y1 y2 y3) (fun z => T1 P0 z.2) := by
  intro n
  induction n with
  | zero => intros; exact pc_n
  | succ n ih =>
    intro γ y0 y1 y2 y3 h
    unfold f_M_judge_L205
    exact (pc_i (fun _ => (hx223 _ _ _ _ h)) (fun _ => (pc_bT (P := fun z => T1 P0 z.2) (t1_f_M_lookAtClock  h) (fun _ _ q => q) (fun _ γ26 hγ26 => (pc_c (fun _ => (ih _ _ _ _ _ hγ26)))))))
theorem t1_f_M_judge_b197 {x31 : Int} {x32 : Int} {x33 : Int} {γ : St} (h : T1 P0 γ) : pc (f_M_judge_b197 γ x31 x32 x33) (fun z => T1 P0 z.2) := by
  unfold f_M_judge_b197
  exact (pc_c (fun _ => (pc_a (t1_f_M_judge_L205 (fun _ _ _ _ h => t1_f_M_judge_b223  h) _ _ _ _ _ _ h))))
theorem t1_f_M_judge_b188 {k99 : St → Int → Int → Int → Int → Int → Option Res} (hk99 : ∀ (γ : St) (y0 y1 y2 y3 y4 : Int), T1 P0 γ → pc (k99 γ y0 y1 y2 y3 y4) (fun z => T1 P0 z.2)) {x197 : St → Int → Int → Int → Option Res} (hx197 : ∀ (γ : St) (y0 y1 y2 : Int), T1 P0 γ → pc (x197 γ y0 y1 y2) (fun z => T1 P0 z.2)) {x37 : Int} {x38 : Int} {x39 : Int} {x40 : Int} {x41 : Int} {x42 : Int} {γ : St} (h : T1 P0 γ) : pc (f_M_judge_b188 k99 x197 γ x37 x38 x39 x40 x41 x42) (fun z => T1 P0 z.2) := by
  unfold f_M_judge_b188
  exact (pc_bT (P := fun z => T1 P0 z.2) (t1_f_M_type  h) (fun _ _ q => q) (fun _ γ44 hγ44 => (pc_c (fun _ => (hk99 _ _ _ _ _ _ hγ44)))))
theorem t1_f_M_judge_b180 {k99 : St → Int → Int → Int → Int → Int → Option Res} (hk99 : ∀ (γ : St) (y0 y1 y2 y3 y4 : Int), T1 P0 γ → pc (k99 γ y0 y1 y2 y3 y4) (fun z => T1 P0 z.2)) {x197 : St → Int → Int → Int → Option Res} (hx197 : ∀ (γ : St) (y0 y1 y2 : Int), T1 P0 γ → pc (x197 γ y0 y1 y2) (fun z => T1 P0 z.2)) {x54 : Int} {x55 : Int} {x56 : Int} {x57 : Int} {x58 : Int} {x59 : Int} {x60 : Int} {γ : St} (h : T1 P0 γ) : pc (f_M_judge_b180 k99 x197 γ x54 x55 x56 x57 x58 x59 x60) (fun z => T1 P0 z.2) := by
  unfold f_M_judge_b180
  exact (pc_i (fun _ => (t1_f_M_judge_b188 hk99 hx197 h)) (fun _ => (t1_f_M_judge_b188 hk99 hx197 h)))
theorem t1_f_M_judge_L99 {x197 : St → Int → Int → Int → Option Res} (hx197 : ∀ (γ : St) (y0 y1 y2 : Int), T1 P0 γ → pc (x197 γ y0 y1 y2) (fun z => T1 P0 z.2)) : ∀ (n : Nat) (γ : St) (y0 y1 y2 y3 y4 : Int), T1 P0 γ → pc (f_M_judge_L99 x197 n γ y0 y1 y2 y3 y4) (fun z => T1 P0 z.2) := by
  intro n
  induction n with
  | zero => intros; exact pc_n
  | succ n ih =>
    intro γ y0 y1 y2 y3 y4 h
    unfold f_M_judge_L99
    exact (pc_i (fun _ => (hx197 _ _ _ _ h)) (fun _ => (pc_c (fun _ => (pc_c (fun _ => (pc_c (fun _ => (pc_c (fun _ => (pc_c (fun _ => (pc_c (fun _ => (pc_i (fun _ => (pc_c (fun _ => (t1_f_M_judge_b180 ih hx197 h)))) (fun _ => (pc_c (fun _ => (pc_c (fun _ => (pc_c (fun _ => (pc_c (fun _ => (pc_c (fun _ => (pc_c (fun _ => (pc_c (fun _ => (t1_f_M_judge_b180 ih hx197 h)))))))))))))))))))))))))))))))
theorem t1_f_M_judge_b96 {x102 : Int} {x103 : Int} {x104 : Int} {x105 : Int} {γ : St} (h : T1 P0 γ) : pc (f_M_judge_b96 γ x102 x103 x104 x105) (fun z => T1 P0 z.2) := by
  unfold f_M_judge_b96
  exact (t1_f_M_judge_L99 (fun _ _ _ _ h => t1_f_M_judge_b197  h) _ _ _ _ _ _ _ h)
theorem t1_f_M_judge_b87 {k62 : St → Int → Int → Int → Int → Int → Option Res} (hk62 : ∀ (γ : St) (y0 y1 y2 y3 y4 : Int), T1 P0 γ → pc (k62 γ y0 y1 y2 y3 y4) (fun z => T1 P0 z.2)) {x96 : St → Int → Int → Int → Int → Option Res} (hx96 : ∀ (γ : St) (y0 y1 y2 y3 : Int), T1 P0 γ → pc (x96 γ y0 y1 y2 y3) (fun z => T1 P0 z.2)) {x106 : Int} {x107 : Int} {x108 : Int} {x109 : Int} {x110 : Int} {x111 : Int} {x112 : Int} {γ : St} (h : T1 P0 γ) : pc (f_M_judge_b87 k62 x96 γ x106 x107 x108 x109 x110 x111 x112) (fun z => T1 P0 z.2) := by
  unfold f_M_judge_b87
  exact (pc_bT (P := fun z => T1 P0 z.2) (t1_f_M_look  h) (fun _ _ q => q) (fun _ γ114 hγ114 => (pc_c (fun _ => (hk62 _ _ _ _ _ _ hγ114)))))
theorem t1_f_M_judge_b86 {k62 : St → Int → Int → Int → Int → Int → Option Res} (hk62 : ∀ (γ : St) (y0 y1 y2 y3 y4 : Int), T1 P0 γ → pc (k62 γ y0 y1 y2 y3 y4) (fun z => T1 P0 z.2)) {x96 : St → Int → Int → Int → Int → Option Res} (hx96 : ∀ (γ : St) (y0 y1 y2 y3 : Int), T1 P0 γ → pc (x96 γ y0 y1 y2 y3) (fun z => T1 P0 z.2)) {x125 : Int} {x126 : Int} {x127 : Int} {x128 : Int} {x129 : Int} {x130 : Int} {γ : St} (h : T1 P0 γ) : pc (f_M_judge_b86 k62 x96 γ x125 x126 x127 x128 x129 x130) (fun z => T1 P0 z.2) := by
  unfold f_M_judge_b86
  exact (t1_f_M_judge_b87 hk62 hx96 h)
theorem t1_f_M_judge_L62 {x96 : St → Int → Int → Int → Int → Option Res} (hx96 : ∀ (γ : St) (y0 y1 y2 y3 : Int), T1 P0 γ → pc (x96 γ y0 y1 y2 y3) (fun z => T1 P0 z.2)) : ∀ (n : Nat) (γ : St) (y0 y1 y2 y3 y4 : Int), T1 P0 γ → pc (f_M_judge_L62 x96 n γ y0 y1 y2 y3 y4) (fun z => T1 P0 z.2) := by
  intro n
  induction n with
  | zero => intros; exact pc_n
  | succ n ih =>
    intro γ y0 y1 y2 y3 y4 h
    unfold f_M_judge_L62
    exact (pc_i (fun _ => (hx96 _ _ _ _ _ h)) (fun _ => (pc_i (fun _ => (t1_f_M_judge_b86 ih hx96 h)) (fun _ => (pc_i (fun _ => (t1_f_M_judge_b86 ih hx96 h)) (fun _ => (t1_f_M_judge_b87 ih hx96 h)))))))
theorem t1_f_M_judge_b52 {x149 : Int} {x150 : Int} {x151 : Int} {x152 : Int} {γ : St} (h : T1 P0 γ) : pc (f_M_judge_b52 γ x149 x150 x151 x152) (fun z => T1 P0 z.2) := by
  unfold f_M_judge_b52
  exact (pc_c (fun _ => (pc_a (t1_f_M_judge_L62 (fun _ _ _ _ _ h => t1_f_M_judge_b96  h) _ _ _ _ _ _ _ h))))
theorem t1_f_M_judge {a0 : Int} {γ : St} (h : T1 P0 γ) : pc (f_M_judge γ a0) (fun z => T1 P0 z.2) := by
  unfold f_M_judge
  exact (pc_c (fun _ => (pc_t1 h (by omega) (fun γ158 hγ158 => (pc_c (fun _ => (pc_a (pc_c (fun _ => (pc_c (fun _ => (pc_c (fun _ => (pc_c (fun _ => (pc_a (pc_c (fun _ => (pc_i (fun _ => (t1_f_M_judge_b52  hγ158)) (fun _ => (t1_f_M_judge_b52  hγ158)))))))))))))))))))))
theorem t1_f_M_node_b369 {x1 : Int} {γ : St} (h : T1 P0 γ) : pc (f_M_node_b369 γ x1) (fun z => T1 P0 z.2) := by
  unfold f_M_node_b369
  exact (pc_s h)
theorem t1_f_M_node_b418  {γ : St} (h : T1 P0 γ) : pc (f_M_node_b418 γ) (fun z => T1 P0 z.2) := by
  unfold f_M_node_b418
  exact (pc_c (fun _ => (pc_t1 h (by omega) (fun γ4 hγ4 => (pc_s hγ4)))))
theorem t1_f_M_node_L399 {x418 : St → Option Res} (hx418 : ∀ (γ : St), T1 P0 γ → pc (x418 γ ) (fun z => T1 P0 z.2)) : ∀ (n : Nat) (γ : St) (y0 : Int), T1 P0 γ → pc (f_M_node_L399 x418 n γ y0) (fun z => T1 P0 z.2) := by
  intro n
  induction n with
  | zero => intros; exact pc_n
  | succ n ih =>
    intro γ y0 h
    unfold f_M_node_L399
    exact (pc_i (fun _ => (hx418 _ h)) (fun _ => (pc_bT (P := fun z => T1 P0 z.2) (t1_f_M_judge  h) (fun _ _ q => q) (fun _ γ8 hγ8 => (pc_c (fun _ => (ih _ _ hγ8)))))))
theorem t1_f_M_node_b385  {γ : St} (h : T1 P0 γ) : pc (f_M_node_b385 γ) (fun z => T1 P0 z.2) := by
  unfold f_M_node_b385
  exact (pc_b (P := fun z => T1 P0 z.2) (t1_f_M_take  h) (fun _ γ11 hγ11 => (pc_c (fun _ => (pc_a (t1_f_M_node_L399 (fun _ h => t1_f_M_node_b418  h) _ _ _ hγ11))))))
theorem t1_f_M_node_L351 {x369 : St → Int → Option Res} (hx369 : ∀ (γ : St) (y0 : Int), T1 P0 γ → pc (x369 γ y0) (fun z => T1 P0 z.2)) {x385 : St → Option Res} (hx385 : ∀ (γ : St), T1 P0 γ → pc (x385 γ ) (fun z => T1 P0 z.2)) : ∀ (n : Nat) (γ : St) (y0 y1 : Int), T1 P0 γ → pc (f_M_node_L351 x369 x385 n γ y0 y1) (fun z => T1 P0 z.2) := by
  intro n
  induction n with
  | zero => intros; exact pc_n
  | succ n ih =>
    intro γ y0 y1 h
    unfold f_M_node_L351
    exact (pc_i (fun _ => (hx385 _ h)) (fun _ => (pc_c (fun _ => (pc_i (fun _ => (pc_c (fun _ => (ih _ _ _ h)))) (fun _ => (hx369 _ _ h)))))))
theorem t1_f_M_node_b311  {γ : St} (h : T1 P0 γ) : pc (f_M_node_b311 γ) (fun z => T1 P0 z.2) := by
  unfold f_M_node_b311
  exact (pc_a (pc_c (fun _ => (pc_c (fun _ => (pc_t1 h (by omega) (fun γ29 hγ29 => (pc_c (fun _ => (pc_c (fun _ => (pc_c (fun _ => (pc_a (t1_f_M_node_L351 (fun _ _ h => t1_f_M_node_b369  h) (fun _ h => t1_f_M_node_b385  h) _ _ _ _ hγ29)))))))))))))))
theorem t1_f_M_node_L297 {x311 : St → Option Res} (hx311 : ∀ (γ : St), T1 P0 γ → pc (x311 γ ) (fun z => T1 P0 z.2)) : ∀ (n : Nat) (γ : St), T1 P0 γ → pc (f_M_node_L297 x311 n γ ) (fun z => T1 P0 z.2) := by
  intro n
  induction n with
  | zero => intros; exact pc_n
  | succ n ih =>
    intro γ  h
    unfold f_M_node_L297
    exact (pc_bT (P := fun z => T1 P0 z.2) (t1_f_M_equation  h) (fun _ _ q => q) (fun _ γ39 hγ39 => (pc_b (P := fun z => T1 P0 z.2) (t1_f_M_is  hγ39) (fun _ γ41 hγ41 => (pc_i (fun _ => (ih _ hγ41)) (fun _ => (hx311 _ hγ41)))))))
theorem t1_f_M_node_b242  {γ : St} (h : T1 P0 γ) : pc (f_M_node_b242 γ) (fun z => T1 P0 z.2) := by
  unfold f_M_node_b242
  exact (pc_c (fun _ => (pc_c (fun _ => (pc_t1 h (by omega) (fun γ46 hγ46 => (pc_bT (P := fun z => T1 P0 z.2) (t1_f_M_mustBe  hγ46) (fun _ _ q => q) (fun _ γ48 hγ48 => (pc_c (fun _ => (pc_t1 hγ48 (by omega) (fun γ52 hγ52 => (pc_c (fun _ => (pc_t1 hγ52 (by omega) (fun γ55 hγ55 => (pc_c (fun _ => (pc_t1 hγ55 (by omega) (fun γ58 hγ58 => (t1_f_M_node_L297 (fun _ h => t1_f_M_node_b311  h) _ _ hγ58)))))))))))))))))))))
theorem t1_f_M_node_L221 {x242 : St → Option Res} (hx242 : ∀ (γ : St), T1 P0 γ → pc (x242 γ ) (fun z => T1 P0 z.2)) : ∀ (n : Nat) (γ : St), T1 P0 γ → pc (f_M_node_L221 x242 n γ ) (fun z => T1 P0 z.2) := by
  intro n
  induction n with
  | zero => intros; exact pc_n
  | succ n ih =>
    intro γ  h
    unfold f_M_node_L221
    exact (pc_b (P := fun z => T1 P0 z.2) (t1_f_M_nameHere  h) (fun _ γ60 hγ60 => (pc_i (fun _ => (hx242 _ hγ60)) (fun _ => (pc_bT (P := fun z => T1 P0 z.2) (t1_f_M_group  hγ60) (fun _ _ q => q) (fun _ γ62 hγ62 => (pc_bT (P := fun z => T1 P0 z.2) (t1_f_M_must  hγ62) (fun _ _ q => q) (fun _ γ64 hγ64 => (ih _ hγ64)))))))))
theorem t1_f_M_node_b32  {γ : St} (h : T1 P0 γ) : pc (f_M_node_b32 γ) (fun z => T1 P0 z.2) := by
  unfold f_M_node_b32
  exact (pc_bT (P := fun z => T1 P0 z.2) (t1_f_M_mustBe  h) (fun _ _ q => q) (fun _ γ66 hγ66 => (pc_b (P := fun z => T1 P0 z.2) (t1_f_M_nameHere  hγ66) (fun _ γ68 hγ68 => (pc_i (fun _ => (pc_b (P := fun z => T1 P0 z.2) (t1_f_M_nodeHere  hγ68) (fun _ γ70 hγ70 => (pc_i (fun _ => (pc_c (fun _ => (pc_t1 hγ70 (by omega) (fun γ74 hγ74 => (pc_c (fun _ => (pc_c (fun _ => (pc_t1 hγ74 (by omega) (fun γ80 hγ80 => (pc_b (P := fun z => T1 P0 z.2) (t1_f_M_take  hγ80) (fun _ γ82 hγ82 => (pc_c (fun _ => (pc_t1 hγ82 (by omega) (fun γ86 hγ86 => (pc_bT (P := fun z => T1 P0 z.2) (t1_f_M_groups  hγ86) (fun _ _ q => q) (fun _ γ88 hγ88 => (pc_c (fun _ => (pc_c (fun _ => (pc_c (fun _ => (pc_t1 hγ88 (by omega) (fun γ96 hγ96 => (pc_bT (P := fun z => T1 P0 z.2) (t1_f_M_mustBe  hγ96) (fun _ _ q => q) (fun _ γ98 hγ98 => (pc_bT (P := fun z => T1 P0 z.2) (t1_f_M_groups  hγ98) (fun _ _ q => q) (fun _ γ100 hγ100 => (pc_c (fun _ => (pc_c (fun _ => (pc_c (fun _ => (pc_c (fun _ => (pc_c (fun _ => (pc_t1 hγ100 (by omega) (fun γ112 hγ112 => (pc_bT (P := fun z => T1 P0 z.2) (t1_f_M_must  hγ112) (fun _ _ q => q) (fun _ γ114 hγ114 => (pc_b (P := fun z => T1 P0 z.2) (t1_f_M_is  hγ114) (fun _ γ116 hγ116 => (pc_i (fun _ => (t1_f_M_node_b242  hγ116)) (fun _ => (pc_b (P := fun z => T1 P0 z.2) (t1_f_M_take  hγ116) (fun _ γ118 hγ118 => (pc_bT (P := fun z => T1 P0 z.2) (t1_f_M_group  hγ118) (fun _ _ q => q) (fun _ γ120 hγ120 => (pc_bT (P := fun z => T1 P0 z.2) (t1_f_M_must  hγ120) (fun _ _ q => q) (fun _ γ122 hγ122 => (t1_f_M_node_L221 (fun _ h => t1_f_M_node_b242  h) _ _ hγ122)))))))))))))))))))))))))))))))))))))))))))))))))))))))) (fun _ => (pc_s hγ70)))))) (fun _ => (pc_b (P := fun z => T1 P0 z.2) (t1_f_M_cant  hγ68) (fun _ γ125 hγ125 => (pc_s hγ125)))))))))
theorem t1_f_M_node  {γ : St} (h : T1 P0 γ) : pc (f_M_node γ) (fun z => T1 P0 z.2) := by
  unfold f_M_node
  exact (pc_b (P := fun z => T1 P0 z.2) (t1_f_M_is  h) (fun _ γ127 hγ127 => (pc_i (fun _ => (t1_f_M_node_b32  hγ127)) (fun _ => (pc_i (fun _ => (t1_f_M_node_b32  hγ127)) (fun _ => (pc_s hγ127)))))))
end T1
