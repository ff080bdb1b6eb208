/-! equality: the checker's stack -/
theorem Sg.unsnoc {p : Int → Int} {a : Int} : ∀ {ks : List Int} {lo hi : Int}, Sg p lo (ks ++ [a]) hi → Sg p lo ks (a + 1 - p a) ∧ hi = a + 1 ∧ lo ≤ a
  | [], lo, hi, h => ⟨by have := h.2.1; show lo = _; omega, h.2.2.symm, h.1⟩
  | y :: t, lo, hi, h => by
    have k := Sg.unsnoc (ks := t) h.2.2
    have := h.1
    exact ⟨⟨h.1, h.2.1, k.1⟩, k.2.1, by omega⟩
theorem Sg.split {p : Int → Int} : ∀ (n : Nat) {ms ks : List Int} {lo mid hi : Int}, ms.length = n → Sg p lo ks hi → Sg p mid ms hi → lo ≤ mid → ∃ ks', ks = ks' ++ ms ∧ Sg p lo ks' mid := by
  intro n
  induction n with
  | zero =>
    intro ms ks lo mid hi hn h g hl
    have e : ms = [] := List.length_eq_zero_iff.1 hn
    subst e
    have e2 : mid = hi := g
    subst e2
    exact ⟨ks, by simp, h⟩
  | succ n ih =>
    intro ms ks lo mid hi hn h g hl
    rcases List.eq_nil_or_concat ms with e | ⟨m0, a, e⟩
    · subst e; cases hn
    · rw [List.concat_eq_append] at e
      subst e
      have g2 := g.unsnoc
      rcases List.eq_nil_or_concat ks with e | ⟨k0, b, e⟩
      · subst e
        have e2 : lo = hi := h
        exfalso; omega
      · rw [List.concat_eq_append] at e
        subst e
        have h2 := h.unsnoc
        have eb : b = a := by omega
        subst eb
        obtain ⟨k1, e1, s1⟩ := ih (ms := m0) (by simpa using hn) h2.1 g2.1 hl
        exact ⟨k1, by rw [e1]; simp, s1⟩
/-- a row holds what parts have -/
def Arr (f g : Int → Int) : Int → List Int → Prop
  | _, [] => True
  | b, y :: t => f b = g y ∧ Arr f g (b + 1) t
theorem Arr.app {f g : Int → Int} : ∀ {ks ms : List Int} {b : Int}, Arr f g b (ks ++ ms) ↔ Arr f g b ks ∧ Arr f g (b + ks.length) ms
  | [], ms, b => by
    have e : b + (([] : List Int).length : Int) = b := by simp
    rw [e]
    exact ⟨fun h => ⟨trivial, h⟩, fun h => h.2⟩
  | y :: t, ms, b => by
    have e : b + ((y :: t).length : Int) = b + 1 + (t.length : Int) := by simp only [List.length_cons]; omega
    rw [e]
    have i := Arr.app (f := f) (g := g) (ks := t) (ms := ms) (b := b + 1)
    exact ⟨fun h => ⟨⟨h.1, (i.1 h.2).1⟩, (i.1 h.2).2⟩, fun h => ⟨h.1.1, i.2 ⟨h.1.2, h.2⟩⟩⟩
theorem Arr.agree {f g f' g' : Int → Int} : ∀ {ks : List Int} {b : Int}, Arr f g b ks → (∀ n, b ≤ n → n < b + ks.length → f' n = f n) → (∀ y ∈ ks, g' y = g y) → Arr f' g' b ks
  | [], _, _, _, _ => trivial
  | y :: t, b, h, hf, hg => by
    have e : ((y :: t).length : Int) = 1 + (t.length : Int) := by simp only [List.length_cons]; omega
    rw [e] at hf
    exact ⟨by rw [hf b (by omega) (by omega), hg y List.mem_cons_self]; exact h.1, Arr.agree h.2 (fun n a b => hf n (by omega) (by omega)) (fun z hz => hg z (List.mem_cons_of_mem _ hz))⟩
/-- the stack holds what row r says of the roots -/
def SkR (r : Nat) (γ δ : St) (lo : Int) (ks : List Int) (hi : Int) : Prop := Sg (δ 26) lo ks hi ∧ γ 7 4 = ks.length ∧ Arr (γ 53) (δ r) 0 ks
/-- what look says of a part that is no call: none: a fault -/
def loK (k t1 t2 t3 v2 : Int) : Option Int := if k = 0 then some 0 else if k = 1 then some 1 else if k = 2 then some v2 else if k = 4 then (if t1 = 0 then none else if t2 ≠ t3 then none else some t2) else if k = 5 ∨ k = 6 then (if t1 ≠ t2 then none else some t1) else if 7 ≤ k ∧ k ≤ 10 then (if t1 = 0 then none else if t2 = 0 then none else some 1) else if k = 11 ∨ k = 12 then (if t1 ≠ t2 then none else some 1) else if 13 ≤ k ∧ k ≤ 16 then (if t1 ≠ 0 then none else if t2 ≠ 0 then none else some 1) else if 17 ≤ k ∧ k ≤ 21 then (if t1 ≠ 0 then none else if t2 ≠ 0 then none else some 0) else if k = 22 then (if t1 ≠ 0 then none else some 0) else if k = 23 then (if t1 = 0 then none else some 1) else some t1
def LoF (e : Int) (γ : St) (r : Option Int) (z : Res) : Prop := match r with
  | none => z = (.inl (4, γ 0 42), γ)
  | some v => z = (.inr 0, setA γ 28 e v)
theorem lf_v {γ : St} {e v : Int} : pc (chk (inb e 66000) (ap (setA γ 28 e v) fun γ' => some ((Sum.inr 0 : (Int × Int) ⊕ Int), γ'))) (LoF e γ (some v)) := pc_c (fun _ => pc_a (pc_s rfl))
theorem lf_n {γ : St} {e : Int} {k : Int → St → Option Res} : pc (bndT (f_M_type γ 0) k) (LoF e γ none) := by
  show pc (some ((.inl (4, γ 0 42), γ) : Res)) _
  exact pc_s rfl
theorem ty_1 {γ : St} {x : Int} {k : Int → St → Option Res} (h : x ≠ 0) : bndT (f_M_type γ x) k = k 0 γ := by
  unfold f_M_type
  rw [if_pos h]
  rfl
theorem lo54_pc {γ : St} {e o n a b : Int} (h3 : γ 20 e ≠ 3) : pc (f_M_look_b54 γ e o n a b) (LoF e γ (loK (γ 20 e) (γ 28 a) (γ 28 b) (γ 28 (γ 23 b)) (γ 14 (γ 4 (γ 0 18) + γ 21 e)))) := by
  have c442 : ∀ {γ : St}, pc (f_M_look_b442 γ e a 1) (LoF e γ (some (γ 28 a))) := fun {γ} => by
    unfold f_M_look_b442
    rw [ty_1 (by decide)]
    exact pc_c (fun _ => pc_c (fun _ => lf_v))
  have c487 : pc (f_M_look_b487 γ e 1) (LoF e γ (some 1)) := by
    unfold f_M_look_b487
    rw [ty_1 (by decide)]
    exact lf_v
  have c523 : pc (f_M_look_b523 γ e 1) (LoF e γ (some 1)) := by
    unfold f_M_look_b523
    rw [ty_1 (by decide)]
    exact lf_v
  have c562 : pc (f_M_look_b562 γ e 1) (LoF e γ (some 1)) := by
    unfold f_M_look_b562
    rw [ty_1 (by decide)]
    exact lf_v
  have c601 : pc (f_M_look_b601 γ e 1) (LoF e γ (some 0)) := by
    unfold f_M_look_b601
    rw [ty_1 (by decide)]
    exact lf_v
  generalize hv : γ 14 (γ 4 (γ 0 18) + γ 21 e) = v2
  generalize ht1 : γ 28 a = t1 at *
  generalize ht2 : γ 28 b = t2 at *
  generalize ht3 : γ 28 (γ 23 b) = t3 at *
  have b2 : ∀ k x y : Int, (k = 5 ∨ k = 6 ∨ k = 11 ∨ k = 12) → loK k t1 t2 t3 v2 = if t1 ≠ t2 then none else some (if k = 5 ∨ k = 6 then t1 else 1) := fun k _ _ hk => by
    rcases hk with q | q | q | q <;> subst q <;> rfl
  have bb : ∀ k : Int, (7 ≤ k ∧ k ≤ 10) → loK k t1 t2 t3 v2 = if t1 = 0 then none else if t2 = 0 then none else some 1 := fun k hk => by
    unfold loK
    rw [if_neg (by omega), if_neg (by omega), if_neg (by omega), if_neg (by omega), if_neg (by omega), if_pos hk]
  have bi : ∀ k : Int, (13 ≤ k ∧ k ≤ 16) → loK k t1 t2 t3 v2 = if t1 ≠ 0 then none else if t2 ≠ 0 then none else some 1 := fun k hk => by
    unfold loK
    rw [if_neg (by omega), if_neg (by omega), if_neg (by omega), if_neg (by omega), if_neg (by omega), if_neg (by omega), if_neg (by omega), if_pos hk]
  have bj : ∀ k : Int, (17 ≤ k ∧ k ≤ 21) → loK k t1 t2 t3 v2 = if t1 ≠ 0 then none else if t2 ≠ 0 then none else some 0 := fun k hk => by
    unfold loK
    rw [if_neg (by omega), if_neg (by omega), if_neg (by omega), if_neg (by omega), if_neg (by omega), if_neg (by omega), if_neg (by omega), if_neg (by omega), if_pos hk]
  have p2 : ∀ {m1 m2 : Option Res} {k v : Int}, loK k t1 t2 t3 v2 = (if t1 ≠ t2 then none else some v) → pc m1 (LoF e γ none) → pc m2 (LoF e γ (some v)) → pc (chk (inb a 66000) (chk (inb b 66000) (if t1 ≠ t2 then m1 else m2))) (LoF e γ (loK k t1 t2 t3 v2)) := fun {m1 m2 k v} hk h1 h2 => by
    rw [hk]
    refine pc_c (fun _ => pc_c (fun _ => pc_i (fun q => ?_) (fun q => ?_)))
    · rw [if_pos q]; exact h1
    · rw [if_neg q]; exact h2
  have pb : ∀ {m1 m2 : Option Res} {k v : Int}, loK k t1 t2 t3 v2 = (if t1 = 0 then none else if t2 = 0 then none else some v) → pc m1 (LoF e γ none) → pc m2 (LoF e γ (some v)) → pc (chk (inb a 66000) (if t1 = 0 then m1 else (chk (inb b 66000) (if t2 = 0 then m1 else m2)))) (LoF e γ (loK k t1 t2 t3 v2)) := fun {m1 m2 k v} hk h1 h2 => by
    rw [hk]
    refine pc_c (fun _ => pc_i (fun q => ?_) (fun q => pc_c (fun _ => pc_i (fun q2 => ?_) (fun q2 => ?_))))
    · rw [if_pos q]; exact h1
    · rw [if_neg q, if_pos q2]; exact h1
    · rw [if_neg q, if_neg q2]; exact h2
  have pi : ∀ {m1 m2 : Option Res} {k v : Int}, loK k t1 t2 t3 v2 = (if t1 ≠ 0 then none else if t2 ≠ 0 then none else some v) → pc m1 (LoF e γ none) → pc m2 (LoF e γ (some v)) → pc (chk (inb a 66000) (if t1 ≠ 0 then m1 else (chk (inb b 66000) (if t2 ≠ 0 then m1 else m2)))) (LoF e γ (loK k t1 t2 t3 v2)) := fun {m1 m2 k v} hk h1 h2 => by
    rw [hk]
    refine pc_c (fun _ => pc_i (fun q => ?_) (fun q => pc_c (fun _ => pc_i (fun q2 => ?_) (fun q2 => ?_))))
    · rw [if_pos q]; exact h1
    · rw [if_neg q, if_pos q2]; exact h1
    · rw [if_neg q, if_neg q2]; exact h2
  have n486 : pc (f_M_look_b486 γ e) (LoF e γ none) := by
    unfold f_M_look_b486 f_M_look_b487
    exact lf_n
  have n561 : pc (f_M_look_b561 γ e) (LoF e γ none) := by
    unfold f_M_look_b561 f_M_look_b562
    exact lf_n
  have n600 : pc (f_M_look_b600 γ e) (LoF e γ none) := by
    unfold f_M_look_b600 f_M_look_b601
    exact lf_n
  unfold f_M_look_b54
  simp only [ht1, ht2, ht3, hv]
  refine pc_c (fun _ => ?_)
  rw [if_pos h3]
  refine pc_c (fun _ => ?_)
  refine pc_i (fun q => by rw [q]; exact lf_v) (fun q0 => ?_)
  refine pc_i (fun q => by rw [q]; exact lf_v) (fun q1 => ?_)
  refine pc_i (fun q => ?_) (fun q2 => ?_)
  · rw [q]
    exact pc_c (fun _ => pc_c (fun _ => pc_c (fun _ => pc_c (fun _ => pc_c (fun _ => lf_v)))))
  refine pc_i (fun q => ?_) (fun q4 => ?_)
  · rw [q]
    have hk : loK 4 t1 t2 t3 v2 = if t1 = 0 then none else if t2 ≠ t3 then none else some t2 := rfl
    rw [hk]
    unfold f_M_look_b399
    refine pc_c (fun _ => pc_i (fun q1 => ?_) (fun q1 => pc_c (fun _ => pc_c (fun _ => pc_c (fun _ => pc_i (fun q2 => ?_) (fun q2 => ?_))))))
    · rw [if_pos q1]; exact lf_n
    · rw [if_neg q1, if_pos q2]; exact lf_n
    · rw [if_neg q1, if_neg q2]
      unfold f_M_look_b400
      rw [ty_1 (by decide), ht2]
      exact pc_c (fun _ => pc_c (fun _ => lf_v))
  have c442' : pc (f_M_look_b442 γ e a 1) (LoF e γ (some t1)) := by have := c442 (γ := γ); rw [ht1] at this; exact this
  refine pc_i (fun q => by rw [q]; exact p2 rfl lf_n c442') (fun q5 => ?_)
  refine pc_i (fun q => by rw [q]; exact p2 rfl lf_n c442') (fun q6 => ?_)
  refine pc_i (fun q => by rw [q]; exact pb (bb 7 (by decide)) n486 c487) (fun q7 => ?_)
  refine pc_i (fun q => by rw [q]; exact pb (bb 8 (by decide)) n486 c487) (fun q8 => ?_)
  refine pc_i (fun q => by rw [q]; exact pb (bb 9 (by decide)) n486 c487) (fun q9 => ?_)
  refine pc_i (fun q => by rw [q]; exact pb (bb 10 (by decide)) n486 c487) (fun q10 => ?_)
  refine pc_i (fun q => by rw [q]; exact p2 rfl lf_n c523) (fun q11 => ?_)
  refine pc_i (fun q => by rw [q]; exact p2 rfl lf_n c523) (fun q12 => ?_)
  refine pc_i (fun q => by rw [q]; exact pi (bi 13 (by decide)) n561 c562) (fun q13 => ?_)
  refine pc_i (fun q => by rw [q]; exact pi (bi 14 (by decide)) n561 c562) (fun q14 => ?_)
  refine pc_i (fun q => by rw [q]; exact pi (bi 15 (by decide)) n561 c562) (fun q15 => ?_)
  refine pc_i (fun q => by rw [q]; exact pi (bi 16 (by decide)) n561 c562) (fun q16 => ?_)
  refine pc_i (fun q => by rw [q]; exact pi (bj 17 (by decide)) n600 c601) (fun q17 => ?_)
  refine pc_i (fun q => by rw [q]; exact pi (bj 18 (by decide)) n600 c601) (fun q18 => ?_)
  refine pc_i (fun q => by rw [q]; exact pi (bj 19 (by decide)) n600 c601) (fun q19 => ?_)
  refine pc_i (fun q => by rw [q]; exact pi (bj 20 (by decide)) n600 c601) (fun q20 => ?_)
  refine pc_i (fun q => by rw [q]; exact pi (bj 21 (by decide)) n600 c601) (fun q21 => ?_)
  refine pc_i (fun q => ?_) (fun q22 => ?_)
  · rw [q]
    have hk : loK 22 t1 t2 t3 v2 = if t1 ≠ 0 then none else some 0 := rfl
    rw [hk]
    unfold f_M_look_b630
    refine pc_c (fun _ => pc_i (fun q1 => ?_) (fun q1 => ?_))
    · rw [if_pos q1]; exact lf_n
    · rw [if_neg q1, ty_1 (by decide)]; exact lf_v
  refine pc_i (fun q => ?_) (fun q23 => ?_)
  · rw [q]
    have hk : loK 23 t1 t2 t3 v2 = if t1 = 0 then none else some 1 := rfl
    rw [hk]
    refine pc_c (fun _ => ?_)
    by_cases q1 : t1 = 0
    · rw [if_pos q1, q1]; exact lf_n
    · rw [if_neg q1, ty_1 q1]; exact lf_v
  have hk : loK (γ 20 e) t1 t2 t3 v2 = if γ 20 e < 0 then loK (γ 20 e) t1 t2 t3 v2 else some t1 := by
    by_cases q : γ 20 e < 0
    · rw [if_pos q]
    · rw [if_neg q]
      unfold loK
      rw [if_neg q0, if_neg q1, if_neg q2, if_neg q4, if_neg (by omega), if_neg (by omega), if_neg (by omega), if_neg (by omega), if_neg (by omega), if_neg q22, if_neg q23]
  have hk2 : loK (γ 20 e) t1 t2 t3 v2 = some t1 := by
    unfold loK
    rw [if_neg q0, if_neg q1, if_neg q2, if_neg q4, if_neg (by omega), if_neg (by omega), if_neg (by omega), if_neg (by omega), if_neg (by omega), if_neg q22, if_neg q23]
  rw [hk2]
  exact pc_c (fun _ => pc_c (fun _ => lf_v))
