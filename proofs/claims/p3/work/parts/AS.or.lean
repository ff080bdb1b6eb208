/-! the reference's order -/
theorem Rc.map {E F : Int → Int → Prop} (hm : ∀ a b, E a b → Rc F a b) {a b : Int} (h : Rc E a b) : Rc F a b := by
  have x : ∀ (n : Nat) (a : Int), Rch E n a b → Rc F a b := by
    intro n
    induction n with
    | zero => intro a h; have h : a = b := h; subst h; exact Rc.rf
    | succ n ih =>
      intro a h
      obtain ⟨c, h1, h2⟩ := h
      exact (hm a c h1).tr (ih c h2)
  obtain ⟨n, h⟩ := h
  exact x n a h
/-- where each has a follower, there is a circle -/
theorem circ : ∀ (N : Nat) (E : Int → Int → Prop) (U : Int → Prop), (∀ u, U u → 0 ≤ u ∧ u < N) → (∃ u, U u) → (∀ u, U u → ∃ c, U c ∧ E u c) → ∃ u, U u ∧ Rp E u u := by
  intro N
  induction N with
  | zero => intro E U h1 ⟨u, h2⟩ _; have := h1 u h2; exfalso; omega
  | succ N ih =>
    intro E U h1 h2 h3
    by_cases w : U N
    · by_cases e : E N N
      · exact ⟨N, w, N, e, Rc.rf⟩
      · have out : ∃ c, U c ∧ c ≠ N ∧ E N c := by
          obtain ⟨c, c1, c2⟩ := h3 N w
          exact ⟨c, c1, fun q => e (by rw [q] at c2; exact c2), c2⟩
        obtain ⟨c, c1, c2, c3⟩ := out
        obtain ⟨u, u1, d, d1, d2⟩ := ih (fun a b => E a b ∨ E a N ∧ E N b) (fun u => U u ∧ u ≠ N) (fun u q => by have := h1 u q.1; have := q.2; omega) ⟨c, c1, c2⟩ (fun u q => by
          obtain ⟨d, d1, d2⟩ := h3 u q.1
          by_cases q2 : d = N
          · exact ⟨c, ⟨c1, c2⟩, Or.inr ⟨by rw [q2] at d2; exact d2, c3⟩⟩
          · exact ⟨d, ⟨d1, q2⟩, Or.inl d2⟩)
        have mp : ∀ a b, (E a b ∨ E a N ∧ E N b) → Rc E a b := fun a b q => by
          rcases q with q | q
          · exact Rc.ed q
          · exact (Rc.ed q.1).tr (Rc.ed q.2)
        have r := Rc.map mp d2
        refine ⟨u, u1.1, ?_⟩
        rcases d1 with q | q
        · exact ⟨d, q, r⟩
        · exact ⟨N, q.1, (Rc.ed q.2).tr r⟩
    · exact ih E U (fun u q => by
        have := h1 u q
        by_cases q2 : u = N
        · rw [q2] at q; exact absurd q w
        · omega) h2 h3
/-- while the order is made: n are in it -/
def OrI (γ0 γ : St) (n : Int) : Prop := (∀ j k, j ≠ 46 → j ≠ 48 → γ j k = γ0 j k) ∧ (∀ u, γ 46 u = 0 ∨ γ 46 u = 1) ∧ (0 ≤ n ∧ n + zrM γ = γ0 0 51) ∧ (∀ i, 0 ≤ i → i < n → ((0 ≤ γ 48 i ∧ γ 48 i < γ0 0 51) ∧ γ 46 (γ 48 i) = 1) ∧ (∀ c, EdM γ0 (γ 48 i) c → ∃ j, 0 ≤ j ∧ j < i ∧ γ 48 j = c) ∧ ∀ j, 0 ≤ j → j < i → γ 48 j ≠ γ 48 i) ∧ ∀ u, 0 ≤ u → u < γ0 0 51 → γ 46 u = 1 → ∃ i, 0 ≤ i ∧ i < n ∧ γ 48 i = u
/-- what is in the order is on no circle -/
theorem OrI.nc {γ0 γ : St} {n u : Int} (h : OrI γ0 γ n) (h0 : 0 ≤ u) (h1 : u < γ0 0 51) (h2 : γ 46 u = 1) : ¬ Rp (EdM γ0) u u := by
  have ⟨p1, p2, p3, p4, p5⟩ := h
  obtain ⟨i, i1, i2, i3⟩ := p5 u h0 h1 h2
  intro ⟨c, e, r⟩
  rw [← i3] at e r
  have c0 := (p4 i i1 i2).2.1 c e
  obtain ⟨j, j1, j2, j3⟩ := Rc.cl (P := fun w => ∃ j, 0 ≤ j ∧ j < i ∧ γ 48 j = w) (fun a b ha e => by
    obtain ⟨j, j1, j2, j3⟩ := ha
    rw [← j3] at e
    obtain ⟨k, k1, k2, k3⟩ := (p4 j j1 (by omega)).2.1 b e
    exact ⟨k, k1, by omega, k3⟩) r c0
  exact (p4 i i1 i2).2.2 j j1 j2 j3
/-- one more in the order -/
theorem OrI.add {γ0 γ γ' : St} {n v : Int} (h : OrI γ0 γ n) (m51 : 0 ≤ γ0 0 51) (h0 : 0 ≤ v) (h1 : v < γ0 0 51) (h2 : γ 46 v = 0) (hr : ∀ c, EdM γ0 v c → (0 ≤ c ∧ c < γ0 0 51) ∧ γ 46 c = 1) (s : ∀ j k, γ' j k = if j = 48 ∧ k = n then v else if j = 46 ∧ k = v then 1 else γ j k) : OrI γ0 γ' (n + 1) ∧ zrM γ' = zrM γ - 1 := by
  have ⟨p1, p2, p3, p4, p5⟩ := h
  have s0 : ∀ j k, (j = 48 → k ≠ n) → (j = 46 → k ≠ v) → γ' j k = γ j k := fun j k q1 q2 => by rw [s, if_neg (by omega), if_neg (by omega)]
  have sv : γ' 46 v = 1 := by rw [s, if_neg (by omega), if_pos ⟨rfl, rfl⟩]
  have sn : γ' 48 n = v := by rw [s, if_pos ⟨rfl, rfl⟩]
  have e51 : γ 0 51 = γ0 0 51 := p1 0 51 (by omega) (by omega)
  have up : ∀ u, γ 46 u = 1 → γ' 46 u = 1 := fun u q => by
    by_cases q2 : u = v
    · rw [q2]; exact sv
    · rw [s0 46 u (by omega) (fun _ => q2)]; exact q
  have zr : zrM γ' = zrM γ - 1 := by
    unfold zrM
    rw [s0 0 51 (by omega) (by omega)]
    exact cntN_flip h2 (by rw [sv]; decide) (fun u q => s0 46 u (by omega) (fun _ => q)) h0 (by omega)
  refine ⟨⟨fun j k q1 q2 => by rw [s0 j k (by omega) (by omega)]; exact p1 j k q1 q2, fun u => ?_, by omega, fun i q1 q2 => ?_, fun u q1 q2 q3 => ?_⟩, zr⟩
  · by_cases q : u = v
    · rw [q]; exact Or.inr sv
    · rw [s0 46 u (by omega) (fun _ => q)]; exact p2 u
  · by_cases q : i = n
    · rw [q, sn]
      refine ⟨⟨⟨h0, h1⟩, sv⟩, fun c e => ?_, fun j j1 j2 => ?_⟩
      · have k := hr c e
        obtain ⟨t, t1, t2, t3⟩ := p5 c k.1.1 k.1.2 k.2
        exact ⟨t, t1, t2, by rw [s0 48 t (by omega) (by omega)]; exact t3⟩
      · rw [s0 48 j (by omega) (by omega)]
        intro e
        have k := (p4 j j1 j2).1.2
        rw [e, h2] at k
        exact absurd k (by decide)
    · rw [s0 48 i (fun _ => q) (by omega)]
      have k := p4 i q1 (by omega)
      refine ⟨⟨k.1.1, up _ k.1.2⟩, fun c e => ?_, fun j j1 j2 => by rw [s0 48 j (by omega) (by omega)]; exact k.2.2 j j1 j2⟩
      obtain ⟨t, t1, t2, t3⟩ := k.2.1 c e
      exact ⟨t, t1, t2, by rw [s0 48 t (by omega) (by omega)]; exact t3⟩
  · by_cases q : u = v
    · exact ⟨n, by omega, by omega, by rw [sn, q]⟩
    · rw [s0 46 u (by omega) (fun _ => q)] at q3
      obtain ⟨i, i1, i2, i3⟩ := p5 u q1 q2 q3
      exact ⟨i, i1, by omega, by rw [s0 48 i (by omega) (by omega)]; exact i3⟩
/-- an undone one waits for an undone one -/
def WtI (γ0 γ : St) (v : Int) : Prop := ∀ u, 0 ≤ u → u < v → γ 46 u = 0 → ∃ c, EdM γ0 u c ∧ γ 46 c = 0
theorem w_ordered_L66 {γ0 γ : St} {n m v : Int} {x104 : St → Int → Int → Int → Int → Option Res} {Q : Res → Prop} (h : CgI γ0) (hv : 0 ≤ v ∧ v < γ0 0 51) (p1 : ∀ j k, j ≠ 46 → j ≠ 48 → γ j k = γ0 j k) (p2 : ∀ u, γ 46 u = 0 ∨ γ 46 u = 1) (hx : ∀ r, (r = 1 ∧ ∀ c, EdM γ0 v c → γ 46 c = 1) ∨ (r = 0 ∧ ∃ c, EdM γ0 v c ∧ γ 46 c = 0) → wp (x104 γ n m v r) Q) : ∀ (f : Nat) (r i : Int), γ0 44 v ≤ i → (r = 1 ∧ (∀ k, γ0 44 v ≤ k → k < i → γ 46 (γ0 45 k) = 1)) ∨ (r = 0 ∧ ∃ c, EdM γ0 v c ∧ γ 46 c = 0) → γ0 44 (v + 1) - i < f → 0 < f → wp (f_M_ordered_L66 x104 f γ n m v r i) Q := by
  have g1 := h.2.2 v hv.1 (by omega)
  have g2 := h.2.2 (v + 1) (by omega) (by omega)
  have c67 := h.2.1.1
  have m51 := h.1
  intro f
  induction f with
  | zero => intro r i h1 h2 h3 h4; exact absurd h4 (by omega)
  | succ f ih =>
    intro r i h1 h2 h3 h4
    unfold f_M_ordered_L66
    rw [p1 44 _ (by omega) (by omega), p1 45 _ (by omega) (by omega)]
    refine wp_chk (by omega) (wp_chk (by omega) (wp_ite (fun q => hx r ?_) (fun q => wp_ite (fun q2 => hx r ?_) (fun q2 => ?_))))
    · rcases h2 with c | c
      · refine Or.inl ⟨c.1, fun d ⟨k, k1, k2, k3⟩ => ?_⟩
        rw [← k3]
        exact c.2 k k1 (by omega)
      · exact Or.inr c
    · rcases h2 with c | c
      · exfalso; omega
      · exact Or.inr c
    · have ci := h.2.1.2 i (by omega) (by omega)
      refine wp_chk (by omega) (wp_chk (by omega) (wp_sub (wp_chk (by omega) (ih _ (i + 1) (by omega) ?_ (by omega) (by omega)))))
      rcases h2 with c | c
      · rcases p2 (γ0 45 i) with d | d
        · exact Or.inr ⟨d, γ0 45 i, ⟨i, h1, by omega, rfl⟩, d⟩
        · refine Or.inl ⟨d, fun k k1 k2 => ?_⟩
          by_cases q3 : k = i
          · rw [q3]; exact d
          · exact c.2 k k1 (by omega)
      · exfalso; omega
theorem w_ordered_L35 {γ0 : St} {x137 : St → Int → Int → Option Res} {Q : Res → Prop} {Z : Int} (h : CgI γ0) (hx : ∀ γ n m, OrI γ0 γ n → (m = 0 ∧ WtI γ0 γ (γ0 0 51) ∧ zrM γ ≤ Z) ∨ (m = 1 ∧ zrM γ < Z) → wp (x137 γ n m) Q) : ∀ (f : Nat) (γ : St) (n m v : Int), OrI γ0 γ n → 0 ≤ v → v ≤ γ0 0 51 → (m = 0 ∧ WtI γ0 γ v ∧ zrM γ ≤ Z) ∨ (m = 1 ∧ zrM γ < Z) → γ0 0 51 - v < f → wp (f_M_ordered_L35 x137 f γ n m v) Q := by
  have := FU_v
  have m51 := h.1
  have c67 := h.2.1.1
  intro f
  induction f with
  | zero => intro γ n m v h1 h2 h3 h4 h5; exfalso; omega
  | succ f ih =>
    intro γ n m v h1 h2 h3 h4 h5
    have ⟨p1, p2, p3, p4, p5⟩ := h1
    have e51 : γ 0 51 = γ0 0 51 := p1 0 51 (by omega) (by omega)
    unfold f_M_ordered_L35
    rw [e51]
    refine wp_ite (fun q => ?_) (fun q => ?_)
    · rw [show v = γ0 0 51 by omega] at h4
      exact hx γ n m h1 h4
    · refine wp_chk (by omega) (wp_ite (fun q2 => ?_) (fun q2 => ?_))
      · rw [p1 44 _ (by omega) (by omega)]
        have g1 := h.2.2 v h2 (by omega)
        have g2 := h.2.2 (v + 1) (by omega) (by omega)
        refine wp_chk (by omega) (wp_sub ?_)
        refine w_ordered_L66 h ⟨h2, by omega⟩ p1 p2 (fun r hr => ?_) FU 1 _ (Int.le_refl _) (Or.inl ⟨rfl, fun k k1 k2 => by omega⟩) (by omega) (by omega)
        unfold f_M_ordered_b104
        have zl := zrM_nn γ
        refine wp_ite (fun q3 => ?_) (fun q3 => ?_)
        · have rr : ∀ c, EdM γ0 v c → γ 46 c = 1 := by
            rcases hr with c | c
            · exact c.2
            · exact absurd c.1 q3
          have nb : n < 6100 := by omega
          refine wp_chk (by omega) (wp_sub (wp_chk (by omega) (wp_chk (by omega) (wp_sub ?_))))
          have s : ∀ j k, setA (setA γ 46 v 1) 48 n v j k = if j = 48 ∧ k = n then v else if j = 46 ∧ k = v then 1 else γ j k := fun j k => by rw [stA, stA]
          generalize setA (setA γ 46 v 1) 48 n v = γ1 at *
          have ad := h1.add (by omega) h2 (by omega) q2 (fun c e => ⟨h.ed h2 (by omega) e, rr c e⟩) s
          have az := ad.2
          unfold f_M_ordered_b131
          refine wp_chk (by omega) (ih γ1 (n + 1) 1 (v + 1) ad.1 (by omega) (by omega) (Or.inr ⟨rfl, ?_⟩) (by omega))
          rcases h4 with c | c <;> omega
        · unfold f_M_ordered_b131
          refine wp_chk (by omega) (ih γ n m (v + 1) h1 (by omega) (by omega) ?_ (by omega))
          rcases h4 with c | c
          · refine Or.inl ⟨c.1, fun u u1 u2 u3 => ?_, c.2.2⟩
            by_cases q4 : u = v
            · rcases hr with d | d
              · exfalso; omega
              · rw [q4]; exact d.2
            · exact c.2.1 u u1 (by omega) u3
          · exact Or.inr c
      · unfold f_M_ordered_b131
        refine wp_chk (by omega) (ih γ n m (v + 1) h1 (by omega) (by omega) ?_ (by omega))
        rcases h4 with c | c
        · refine Or.inl ⟨c.1, fun u u1 u2 u3 => ?_, c.2.2⟩
          by_cases q4 : u = v
          · rw [q4] at u3; exact absurd u3 q2
          · exact c.2.1 u u1 (by omega) u3
        · exact Or.inr c
theorem w_ordered_L27 {γ0 : St} {x140 : St → Int → Option Res} {Q : Res → Prop} (h : CgI γ0) (hx : ∀ γ n, OrI γ0 γ n → WtI γ0 γ (γ0 0 51) → wp (x140 γ n) Q) : ∀ (f : Nat) (γ : St) (n m : Int), OrI γ0 γ n → (m = 0 ∧ WtI γ0 γ (γ0 0 51)) ∨ m = 1 → zrM γ + m < f → 0 < f → wp (f_M_ordered_L27 x140 f γ n m) Q := by
  have := FU_v
  have m51 := h.1
  intro f
  induction f with
  | zero => intro γ n m h1 h2 h3 h4; exact absurd h4 (by omega)
  | succ f ih =>
    intro γ n m h1 h2 h3 h4
    unfold f_M_ordered_L27
    refine wp_ite (fun q => ?_) (fun q => ?_)
    · rcases h2 with c | c
      · exact hx γ n h1 c.2
      · exfalso; omega
    · have m1 : m = 1 := by
        rcases h2 with c | c
        · exact absurd c.1 q
        · exact c
      refine w_ordered_L35 (Z := zrM γ) h (fun γ' n' m' h' k => ?_) FU γ n 0 0 h1 (by omega) (by omega) (Or.inl ⟨rfl, fun u u1 u2 => by omega, Int.le_refl _⟩) (by omega)
      unfold f_M_ordered_b137
      have zn := zrM_nn γ'
      refine ih γ' n' m' h' ?_ ?_ ?_
      · rcases k with c | c
        · exact Or.inl ⟨c.1, c.2.1⟩
        · exact Or.inr c.1
      · rcases k with c | c <;> omega
      · rcases k with c | c <;> omega
