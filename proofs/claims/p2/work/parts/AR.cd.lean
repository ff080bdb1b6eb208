/-! the reference's causes: caused -/
def EdM (γ : St) (v c : Int) : Prop := ∃ i, γ 44 v ≤ i ∧ i < γ 44 (v + 1) ∧ γ 45 i = c
/-- the causes are listed -/
def CgI (γ : St) : Prop := (0 ≤ γ 0 51 ∧ γ 0 51 ≤ 6000) ∧ CsM γ ∧ ∀ v, 0 ≤ v → v ≤ γ 0 51 → 0 ≤ γ 44 v ∧ γ 44 v ≤ γ 0 67
theorem CgI.ed {γ : St} (h : CgI γ) {v c : Int} (h0 : 0 ≤ v) (h1 : v < γ 0 51) (e : EdM γ v c) : 0 ≤ c ∧ c < γ 0 51 := by
  obtain ⟨i, i1, i2, i3⟩ := e
  have a := h.2.2 v h0 (by omega)
  have b := h.2.2 (v + 1) (by omega) (by omega)
  rw [← i3]
  exact h.2.1.2 i (by omega) (by omega)
theorem CgI.fr {γ γ' : St} (h : CgI γ) (e51 : γ' 0 51 = γ 0 51) (e67 : γ' 0 67 = γ 0 67) (e44 : ∀ k, γ' 44 k = γ 44 k) (e45 : ∀ k, γ' 45 k = γ 45 k) : CgI γ' := by
  have ⟨a, ⟨b, c⟩, d⟩ := h
  unfold CgI CsM
  rw [e51, e67]
  exact ⟨a, ⟨b, fun i q1 q2 => by rw [e45]; exact c i q1 q2⟩, fun v q1 q2 => by rw [e44]; exact d v q1 q2⟩
theorem EdM_eq {γ γ' : St} (e44 : ∀ k, γ' 44 k = γ 44 k) (e45 : ∀ k, γ' 45 k = γ 45 k) : EdM γ' = EdM γ := by
  funext v c
  unfold EdM
  rw [e44, e44, show γ' 45 = γ 45 from funext e45]
theorem cntN_flip {f g : Int → Int} {lo w k : Int} (fk : f k = w) (gk : g k ≠ w) (ag : ∀ i, i ≠ k → g i = f i) : ∀ {n : Nat}, lo ≤ k → k < lo + n → cntN g lo w n = cntN f lo w n - 1
  | 0, h1, h2 => by exfalso; omega
  | n + 1, h1, h2 => by
    show cntN g lo w n + (if g (lo + n) = w then 1 else 0) = cntN f lo w n + (if f (lo + n) = w then 1 else 0) - 1
    by_cases q : k = lo + n
    · rw [cntN_agree (f := f) (fun i a b => ag i (by omega)), ← q, if_neg gk, if_pos fk]; omega
    · rw [cntN_flip fk gk ag (n := n) h1 (by omega), ag (lo + n) (by omega)]; omega
/-- how many are not reached -/
def zrM (γ : St) : Int := cntN (γ 46) 0 0 (γ 0 51).toNat
theorem zrM_nn (γ : St) : 0 ≤ zrM γ := (cntN_b _ _ _ _).1
theorem zrM_le {γ : St} (h : 0 ≤ γ 0 51) : zrM γ ≤ γ 0 51 := by
  have := (cntN_b (γ 46) 0 0 (γ 0 51).toNat).2
  unfold zrM; omega
/-- one step and more -/
def Rp (E : Int → Int → Prop) (a b : Int) : Prop := ∃ c, E a c ∧ Rc E c b
theorem Rp.mk {E : Int → Int → Prop} {a v b : Int} (h : Rc E a v) (e : E v b) : Rp E a b := by
  obtain ⟨n, h⟩ := h
  cases n with
  | zero => have h : a = v := h; subst h; exact ⟨b, e, Rc.rf⟩
  | succ n =>
    obtain ⟨c, h1, h2⟩ := h
    exact ⟨c, h1, Rc.tr ⟨n, h2⟩ (Rc.ed e)⟩
/-- while what a reaches is looked through for b -/
def CdI (γ0 : St) (a b : Int) (γ : St) (n v m : Int) : Prop := (∀ j k, j ≠ 46 → j ≠ 47 → γ j k = γ0 j k) ∧ (∀ u, γ 46 u = 0 ∨ γ 46 u = 1) ∧ (0 ≤ n ∧ n + zrM γ ≤ m) ∧ (∀ s, 0 ≤ s → s < n → (0 ≤ γ 47 s ∧ γ 47 s < γ0 0 51) ∧ Rc (EdM γ0) a (γ 47 s)) ∧ ∀ u, 0 ≤ u → u < γ0 0 51 → (u = a ∨ γ 46 u = 1) → u = v ∨ (∃ s, 0 ≤ s ∧ s < n ∧ γ 47 s = u) ∨ ∀ c, EdM γ0 u c → c ≠ b ∧ γ 46 c = 1
def CdO (γ0 : St) (a b : Int) (z : Int × St) : Prop := (∀ j k, j ≠ 46 → j ≠ 47 → z.2 j k = γ0 j k) ∧ (∀ u, z.2 46 u = 0 ∨ z.2 46 u = 1) ∧ (z.1 = 1 ∧ Rp (EdM γ0) a b ∨ z.1 = 0 ∧ ¬ Rp (EdM γ0) a b)
theorem w_caused_L59 {γ0 : St} {a b v m : Int} {x128 : St → Int → Int → Option (Int × St)} (h : CgI γ0) (hv : 0 ≤ v ∧ v < γ0 0 51) (rv : Rc (EdM γ0) a v) (hm : m ≤ γ0 0 51) (hx : ∀ γ n, CdI γ0 a b γ n (-1) m → wp (x128 γ b n) (CdO γ0 a b)) : ∀ (f : Nat) (γ : St) (n i : Int), CdI γ0 a b γ n v m → γ0 44 v ≤ i → (∀ k, γ0 44 v ≤ k → k < i → γ0 45 k ≠ b ∧ γ 46 (γ0 45 k) = 1) → γ0 44 (v + 1) - i < f → 0 < f → wp (f_M_caused_L59 x128 f γ b n v i) (CdO γ0 a b) := by
  have g1 := h.2.2 v hv.1 (by omega)
  have g2 := h.2.2 (v + 1) (by omega) (by omega)
  have c67 := h.2.1.1
  have m51 := h.1
  intro f
  induction f with
  | zero => intro γ n i h1 h2 h3 h4 h5; exact absurd h5 (by omega)
  | succ f ih =>
    intro γ n i h1 h2 h3 h4 h5
    have ⟨p1, p2, p3, p4, p5⟩ := h1
    unfold f_M_caused_L59
    rw [p1 44 _ (by omega) (by omega), p1 45 _ (by omega) (by omega)]
    refine wp_chk (by omega) (wp_chk (by omega) (wp_ite (fun q => ?_) (fun q => ?_)))
    · refine hx γ n ⟨p1, p2, p3, p4, fun u q1 q2 q3 => ?_⟩
      rcases p5 u q1 q2 q3 with c | c | c
      · refine Or.inr (Or.inr (fun c2 e => ?_))
        obtain ⟨k, k1, k2, k3⟩ := e
        rw [c] at k1 k2
        rw [← k3]
        exact h3 k k1 (by omega)
      · exact Or.inr (Or.inl c)
      · exact Or.inr (Or.inr c)
    · have ci := h.2.1.2 i (by omega) (by omega)
      have ed : EdM γ0 v (γ0 45 i) := ⟨i, h2, by omega, rfl⟩
      refine wp_chk (by omega) (wp_sub (wp_ite (fun q2 => ?_) (fun q2 => wp_some ⟨p1, p2, Or.inl ⟨rfl, ?_⟩⟩)))
      · have zn := zrM_nn γ
        have b122 : ∀ γ' n', CdI γ0 a b γ' n' v m → (∀ u, γ 46 u = 1 → γ' 46 u = 1) → γ' 46 (γ0 45 i) = 1 → wp (f_M_caused_b122 (f_M_caused_L59 x128 f) x128 γ' b n' v i) (CdO γ0 a b) := fun γ' n' h' u1 u2 => by
          unfold f_M_caused_b122
          refine wp_chk (by omega) (ih γ' n' (i + 1) h' (by omega) (fun k k1 k2 => ?_) (by omega) (by omega))
          by_cases q3 : k = i
          · rw [q3]; exact ⟨q2, u2⟩
          · have := h3 k k1 (by omega)
            exact ⟨this.1, u1 _ this.2⟩
        refine wp_chk (by omega) (wp_ite (fun q3 => ?_) (fun q3 => ?_))
        · have e51 : γ 0 51 = γ0 0 51 := p1 0 51 (by omega) (by omega)
          have zl := zrM_le (γ := γ) (by omega)
          have zz : 1 ≤ zrM γ := by
            by_cases q4 : zrM γ = 0
            · exfalso
              have := cntN_flip (f := γ 46) (g := fun u => if u = γ0 45 i then 1 else γ 46 u) (lo := 0) (w := 0) (k := γ0 45 i) (n := (γ 0 51).toNat) q3 (by rw [if_pos rfl]; decide) (fun u q5 => by rw [if_neg q5]) ci.1 (by omega)
              have := (cntN_b (fun u => if u = γ0 45 i then 1 else γ 46 u) 0 0 (γ 0 51).toNat).1
              unfold zrM at q4
              omega
            · omega
          refine wp_chk (by omega) (wp_sub (wp_chk (by omega) (wp_chk (by omega) (wp_sub ?_))))
          have s : ∀ j k, setA (setA γ 46 (γ0 45 i) 1) 47 n (γ0 45 i) j k = if j = 47 ∧ k = n then γ0 45 i else if j = 46 ∧ k = γ0 45 i then 1 else γ j k := fun j k => by rw [stA, stA]
          generalize setA (setA γ 46 (γ0 45 i) 1) 47 n (γ0 45 i) = γ1 at *
          have s0 : ∀ j k, (j = 47 → k ≠ n) → (j = 46 → k ≠ γ0 45 i) → γ1 j k = γ j k := fun j k q1 q2 => by rw [s, if_neg (by omega), if_neg (by omega)]
          have sc : γ1 46 (γ0 45 i) = 1 := by rw [s, if_neg (by omega), if_pos ⟨rfl, rfl⟩]
          have sn : γ1 47 n = γ0 45 i := by rw [s, if_pos ⟨rfl, rfl⟩]
          have up : ∀ u, γ 46 u = 1 → γ1 46 u = 1 := fun u q5 => by
            by_cases q6 : u = γ0 45 i
            · rw [q6]; exact sc
            · rw [s0 46 u (by omega) (fun _ => q6)]; exact q5
          have zr : zrM γ1 = zrM γ - 1 := by
            unfold zrM
            rw [s0 0 51 (by omega) (by omega)]
            exact cntN_flip q3 (by rw [sc]; decide) (fun u q5 => s0 46 u (by omega) (fun _ => q5)) ci.1 (by omega)
          refine b122 γ1 (n + 1) ⟨fun j k q5 q6 => by rw [s0 j k (by omega) (by omega)]; exact p1 j k q5 q6, fun u => ?_, by omega, fun t q5 q6 => ?_, fun u q5 q6 q7 => ?_⟩ up sc
          · by_cases q6 : u = γ0 45 i
            · rw [q6]; exact Or.inr sc
            · rw [s0 46 u (by omega) (fun _ => q6)]; exact p2 u
          · by_cases q7 : t = n
            · rw [q7, sn]; exact ⟨ci, rv.tr (Rc.ed ed)⟩
            · rw [s0 47 t (fun _ => q7) (by omega)]; exact p4 t q5 (by omega)
          · by_cases q8 : u = γ0 45 i
            · exact Or.inr (Or.inl ⟨n, by omega, by omega, by rw [sn, q8]⟩)
            · rw [s0 46 u (by omega) (fun _ => q8)] at q7
              rcases p5 u q5 q6 q7 with c | ⟨t, t1, t2, t3⟩ | c
              · exact Or.inl c
              · exact Or.inr (Or.inl ⟨t, t1, by omega, by rw [s0 47 t (by omega) (by omega)]; exact t3⟩)
              · exact Or.inr (Or.inr (fun c2 e => ⟨(c c2 e).1, up _ (c c2 e).2⟩))
        · have q4 : γ 46 (γ0 45 i) = 1 := by
            rcases p2 (γ0 45 i) with c | c
            · exact absurd c q3
            · exact c
          exact b122 γ n h1 (fun _ q => q) q4
      · have eb : γ0 45 i = b := by
          by_cases q5 : γ0 45 i = b
          · exact q5
          · exact absurd q5 q2
        rw [eb] at ed
        exact Rp.mk rv ed
theorem w_caused_L35 {γ0 : St} {a b : Int} (h : CgI γ0) (ha : 0 ≤ a ∧ a < γ0 0 51) : ∀ (f : Nat) (γ : St) (n m : Int), CdI γ0 a b γ n (-1) m → m ≤ γ0 0 51 + 1 → m < f → wp (f_M_caused_L35 f γ b n) (CdO γ0 a b) := by
  have := FU_v
  have m51 := h.1
  have c67 := h.2.1.1
  intro f
  induction f with
  | zero => intro γ n m h1 h2 h3; have := h1.2.2.1; have := zrM_nn γ; exfalso; omega
  | succ f ih =>
    intro γ n m h1 h2 h3
    have ⟨p1, p2, p3, p4, p5⟩ := h1
    have zn := zrM_nn γ
    unfold f_M_caused_L35
    refine wp_ite (fun q => wp_some ⟨p1, p2, Or.inr ⟨rfl, fun ⟨c, e, r⟩ => ?_⟩⟩) (fun q => ?_)
    · have cl : ∀ u, 0 ≤ u → u < γ0 0 51 → (u = a ∨ γ 46 u = 1) → ∀ c, EdM γ0 u c → c ≠ b ∧ γ 46 c = 1 := fun u q1 q2 q3 => by
        rcases p5 u q1 q2 q3 with t | ⟨s, s1, s2, _⟩ | t
        · exfalso; omega
        · exfalso; omega
        · exact t
      have e0 := h.ed ha.1 ha.2 e
      have x := Rc.cl (P := fun u => (0 ≤ u ∧ u < γ0 0 51) ∧ γ 46 u = 1 ∧ u ≠ b) (fun u w hu e => by
        have k := cl u hu.1.1 hu.1.2 (Or.inr hu.2.1) w e
        exact ⟨h.ed hu.1.1 hu.1.2 e, k.2, k.1⟩) r ⟨e0, (cl a ha.1 ha.2 (Or.inl rfl) c e).2, (cl a ha.1 ha.2 (Or.inl rfl) c e).1⟩
      exact x.2.2 rfl
    · have t := p4 (n + -1) (by omega) (by omega)
      have g1 := h.2.2 (γ 47 (n + -1)) t.1.1 (by omega)
      have g2 := h.2.2 (γ 47 (n + -1) + 1) (by omega) (by omega)
      refine wp_chk (by omega) (wp_chk (by omega) (wp_sub ?_))
      rw [p1 44 _ (by omega) (by omega)]
      refine wp_chk (by omega) (wp_sub ?_)
      refine w_caused_L59 (m := m - 1) h t.1 t.2 (by omega) (fun γ' n' h' => ?_) FU γ (n + -1) _ ⟨p1, p2, by omega, fun s q1 q2 => p4 s q1 (by omega), fun u q1 q2 q3 => ?_⟩ (Int.le_refl _) (fun k k1 k2 => by omega) (by omega) (by omega)
      · unfold f_M_caused_b128
        exact ih γ' n' (m - 1) h' (by omega) (by omega)
      · rcases p5 u q1 q2 q3 with c | ⟨s, s1, s2, s3⟩ | c
        · exfalso; omega
        · by_cases q4 : s = n + -1
          · rw [q4] at s3; exact Or.inl s3.symm
          · exact Or.inr (Or.inl ⟨s, s1, by omega, s3⟩)
        · exact Or.inr (Or.inr c)
theorem w_caused_L2 {γ0 : St} {a b : Int} (h : CgI γ0) (ha : 0 ≤ a ∧ a < γ0 0 51) : ∀ (f : Nat) (γ : St) (v : Int), (∀ j k, j ≠ 46 → j ≠ 47 → γ j k = γ0 j k) → (∀ u, γ 46 u = 0 ∨ γ 46 u = 1) → 0 ≤ v → v ≤ γ0 0 51 → (∀ u, 0 ≤ u → u < v → γ 46 u = 0) → γ0 0 51 - v < f → wp (f_M_caused_L2 f_M_caused_b23 f γ a b v) (CdO γ0 a b) := by
  have := FU_v
  have m51 := h.1
  intro f
  induction f with
  | zero => intro γ v h1 h2 h3 h4 h5 h6; exfalso; omega
  | succ f ih =>
    intro γ v h1 h2 h3 h4 h5 h6
    have e51 : γ 0 51 = γ0 0 51 := h1 0 51 (by omega) (by omega)
    unfold f_M_caused_L2
    rw [e51]
    refine wp_ite (fun q => ?_) (fun q => ?_)
    · unfold f_M_caused_b23
      refine wp_chk (by omega) (wp_chk (by omega) (wp_sub ?_))
      have s : ∀ j k, setA γ 47 0 a j k = if j = 47 ∧ k = 0 then a else γ j k := fun j k => by rw [stA]
      generalize setA γ 47 0 a = γ1 at *
      have s0 : ∀ j k, j ≠ 47 → γ1 j k = γ j k := fun j k q => by rw [s, if_neg (by omega)]
      have zl := zrM_le (γ := γ1) (by rw [s0 0 51 (by omega)]; omega)
      rw [s0 0 51 (by omega)] at zl
      refine w_caused_L35 h ha FU γ1 (0 + 1) (γ0 0 51 + 1) ⟨fun j k q1 q2 => by rw [s0 j k q2]; exact h1 j k q1 q2, fun u => by rw [s0 46 u (by omega)]; exact h2 u, by omega, fun t q1 q2 => ?_, fun u q1 q2 q3 => ?_⟩ (by omega) (by omega)
      · have et : t = 0 := by omega
        rw [et, s, if_pos ⟨rfl, rfl⟩]
        exact ⟨ha, Rc.rf⟩
      · rcases q3 with c | c
        · exact Or.inr (Or.inl ⟨0, by omega, by omega, by rw [s, if_pos ⟨rfl, rfl⟩]; exact c.symm⟩)
        · rw [s0 46 u (by omega), h5 u q1 (by omega)] at c
          exact absurd c (by decide)
    · refine wp_chk (by omega) (wp_sub ?_)
      have s : ∀ j k, setA γ 46 v 0 j k = if j = 46 ∧ k = v then 0 else γ j k := fun j k => by rw [stA]
      generalize setA γ 46 v 0 = γ1 at *
      refine wp_chk (by omega) (ih γ1 (v + 1) (fun j k q1 q2 => by rw [s, if_neg (by omega)]; exact h1 j k q1 q2) (fun u => ?_) (by omega) (by omega) (fun u q1 q2 => ?_) (by omega))
      · rw [s]
        by_cases q3 : u = v
        · rw [if_pos ⟨rfl, q3⟩]; exact Or.inl rfl
        · rw [if_neg (by omega)]; exact h2 u
      · rw [s]
        by_cases q3 : u = v
        · rw [if_pos ⟨rfl, q3⟩]
        · rw [if_neg (by omega)]; exact h5 u q1 (by omega)
theorem w_caused {γ : St} {a b : Int} (h : CgI γ) (h46 : ∀ u, γ 46 u = 0 ∨ γ 46 u = 1) (ha : 0 ≤ a ∧ a < γ 0 51) : wp (f_M_caused γ a b) (CdO γ a b) := by
  have := FU_v
  have m51 := h.1
  unfold f_M_caused
  exact w_caused_L2 h ha FU γ 0 (fun _ _ _ _ => rfl) h46 (by omega) (by omega) (fun u q1 q2 => by omega) (by omega)
