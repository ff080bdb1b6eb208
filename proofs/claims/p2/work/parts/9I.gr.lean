/-! graphs: what reaches what -/
def Rch (E : Int → Int → Prop) : Nat → Int → Int → Prop
  | 0, s, t => s = t
  | n + 1, s, t => ∃ c, E s c ∧ Rch E n c t
def Rc (E : Int → Int → Prop) (s t : Int) : Prop := ∃ n, Rch E n s t
def Cy (E : Int → Int → Prop) (s : Int) : Prop := ∃ c, E s c ∧ Rc E c s
theorem Rch.add {E : Int → Int → Prop} : ∀ {n : Nat} {m : Nat} {a b c : Int}, Rch E n a b → Rch E m b c → Rch E (n + m) a c := by
  intro n
  induction n with
  | zero =>
    intro m a b c h k
    have h : a = b := h
    subst h
    rw [Nat.zero_add]
    exact k
  | succ n ih =>
    intro m a b c h k
    obtain ⟨d, h1, h2⟩ := h
    rw [show n + 1 + m = (n + m) + 1 by omega]
    exact ⟨d, h1, ih h2 k⟩
theorem Rc.rf {E : Int → Int → Prop} {a : Int} : Rc E a a := ⟨0, rfl⟩
theorem Rc.tr {E : Int → Int → Prop} {a b c : Int} (h : Rc E a b) (k : Rc E b c) : Rc E a c := by
  obtain ⟨n, h⟩ := h
  obtain ⟨m, k⟩ := k
  exact ⟨n + m, h.add k⟩
theorem Rc.ed {E : Int → Int → Prop} {a b : Int} (h : E a b) : Rc E a b := ⟨1, b, h, rfl⟩
theorem Cy.of {E : Int → Int → Prop} {a b : Int} (h : Rc E a b) (k : Rc E b a) (hn : a ≠ b) : Cy E a := by
  obtain ⟨n, h⟩ := h
  cases n with
  | zero => exact absurd h hn
  | succ n =>
    obtain ⟨c, h1, h2⟩ := h
    exact ⟨c, h1, Rc.tr ⟨n, h2⟩ k⟩
/-- what is closed under edges is closed under reaching -/
theorem Rc.cl {E : Int → Int → Prop} {P : Int → Prop} (hP : ∀ a b, P a → E a b → P b) {a b : Int} (h : Rc E a b) (ha : P a) : P b := by
  have x : ∀ (n : Nat) (a : Int), Rch E n a b → P a → P b := by
    intro n
    induction n with
    | zero => intro a h ha; have h : a = b := h; subst h; exact ha
    | succ n ih =>
      intro a h ha
      obtain ⟨c, h1, h2⟩ := h
      exact ih c h2 (hP a c ha h1)
  obtain ⟨n, h⟩ := h
  exact x n a h ha
/-- a circle has a variable in it: from what is no variable one comes to lower ones or to variables -/
theorem Cy.var {E : Int → Int → Prop} {V : Int} (hE : ∀ a b, V ≤ a → E a b → b < a) {a : Int} (h : Cy E a) : ∃ v, v < V ∧ Rc E a v ∧ Rc E v a := by
  obtain ⟨c, h1, h2⟩ := h
  by_cases q : a < V
  · exact ⟨a, q, Rc.rf, Rc.rf⟩
  · -- walk from c back to a
    have x : ∀ (n : Nat) (d : Int), Rch E n d a → d < a → ∃ v, v < V ∧ Rc E d v ∧ Rc E v a := by
      intro n
      induction n with
      | zero => intro d h hd; have h : d = a := h; omega
      | succ n ih =>
        intro d h hd
        by_cases y : d < V
        · exact ⟨d, y, Rc.rf, n + 1, h⟩
        · obtain ⟨g, k1, k2⟩ := h
          have := hE d g (by omega) k1
          obtain ⟨v, z1, z2, z3⟩ := ih g k2 (by omega)
          exact ⟨v, z1, (Rc.ed k1).tr z2, z3⟩
    obtain ⟨n, h2⟩ := h2
    obtain ⟨v, z1, z2, z3⟩ := x n c h2 (hE a c (by omega) h1)
    exact ⟨v, z1, (Rc.ed h1).tr z2, z3⟩
theorem Cy.mv {E : Int → Int → Prop} {a v : Int} (h : Cy E a) (h1 : Rc E a v) (h2 : Rc E v a) : Cy E v := by
  by_cases q : v = a
  · rw [q]; exact h
  · exact Cy.of h2 h1 q
/-- the slots' causes -/
def sdV (γ : St) (s j : Int) : Int := if j = 0 then γ 55 s else if j = 1 then γ 56 s else γ 57 s
def Ed (γ : St) (s c : Int) : Prop := 0 ≤ c ∧ (γ 55 s = c ∨ γ 56 s = c ∨ γ 57 s = c)
theorem Ed.of {γ : St} {s j : Int} (h : 0 ≤ sdV γ s j) (_hj : 0 ≤ j ∧ j < 3) : Ed γ s (sdV γ s j) := by
  refine ⟨h, ?_⟩
  unfold sdV
  by_cases q : j = 0
  · rw [if_pos q]; exact Or.inl rfl
  · rw [if_neg q]
    by_cases q2 : j = 1
    · rw [if_pos q2]; exact Or.inr (Or.inl rfl)
    · rw [if_neg q2]; exact Or.inr (Or.inr rfl)
theorem Ed.to {γ : St} {s c : Int} (h : Ed γ s c) : ∃ j, 0 ≤ j ∧ j < 3 ∧ sdV γ s j = c := by
  rcases h.2 with q | q | q
  · exact ⟨0, by omega, by omega, by unfold sdV; rw [if_pos rfl]; exact q⟩
  · exact ⟨1, by omega, by omega, by unfold sdV; rw [if_neg (by omega), if_pos rfl]; exact q⟩
  · exact ⟨2, by omega, by omega, by unfold sdV; rw [if_neg (by omega), if_neg (by omega)]; exact q⟩
theorem side_eq {γ : St} {s j : Int} (hs : 0 ≤ s ∧ s < 9001) : f_Sl_side γ s j = some (sdV γ s j, γ) := by
  unfold f_Sl_side sdV
  by_cases q : j = 0
  · rw [if_neg (by omega), if_pos q]
    exact some_wp (wp_chk (by omega) (wp_some rfl))
  · rw [if_pos q, if_neg q]
    by_cases q2 : j = 1
    · rw [if_neg (by omega), if_pos q2]
      exact some_wp (wp_chk (by omega) (wp_some rfl))
    · rw [if_pos q2, if_neg q2]
      exact some_wp (wp_chk (by omega) (wp_some rfl))
