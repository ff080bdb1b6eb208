/-! equality: sizes, and what lies around a part -/
theorem Sg.st {p : Int → Int} : ∀ {ks : List Int} {lo hi : Int}, Sg p lo ks hi → ∀ y ∈ ks, lo ≤ y + 1 - p y
  | [], _, _, _, y, m => by cases m
  | z :: t, lo, hi, h, y, m => by
    rcases List.mem_cons.1 m with q | q
    · rw [q]; have := h.2.1; omega
    · have := Sg.st h.2.2 y q
      have := h.1
      omega
theorem Sg.dis {p : Int → Int} {x z : Int} : ∀ {ks : List Int} {lo hi : Int}, Sg p lo ks hi → x ∈ ks → z ∈ ks → x < z → x < z + 1 - p z
  | [], _, _, _, m, _, _ => by cases m
  | y :: t, lo, hi, h, m1, m2, l => by
    rcases List.mem_cons.1 m1 with q1 | q1
    · rcases List.mem_cons.1 m2 with q2 | q2
      · omega
      · have := Sg.st h.2.2 z q2; omega
    · rcases List.mem_cons.1 m2 with q2 | q2
      · have := (Sg.mem h.2.2 x q1).1; omega
      · exact Sg.dis h.2.2 q1 q2 l
/-- a part within another lies there with all that it holds -/
theorem nestG {γ : St} {nv nn lo hi : Int} (g : ∀ e, lo ≤ e → e ≤ hi → Gn nv nn γ lo e) : ∀ (n : Nat) (z e : Int), lo ≤ z → z ≤ hi → z - lo < n → z + 1 - γ 26 z ≤ e → e ≤ z → z + 1 - γ 26 z ≤ e + 1 - γ 26 e := by
  intro n
  induction n with
  | zero => intro z e h1 h2 h3; exfalso; omega
  | succ n ih =>
    intro z e h1 h2 h3 h4 h5
    by_cases q : e = z
    · rw [q]; omega
    · obtain ⟨ks, c1, c2, c3, _⟩ := g z h1 h2
      obtain ⟨y, m, d1, d2⟩ := c2.find h4 (by omega)
      have b := c2.mem y m
      have s := c2.st y m
      have := ih y e (by omega) (by omega) (by omega) d1 d2
      omega
/-- a part lies right under one -/
theorem kid_one {γ : St} {nv nn lo hi e p x : Int} {ks ms : List Int} (g : ∀ e, lo ≤ e → e ≤ hi → Gn nv nn γ lo e) (he : lo ≤ e) (hp : p ≤ hi) (lt : e < p) (c1 : Ch (γ 23) (γ 22 e) ks) (m1 : x ∈ ks) (c2 : Ch (γ 23) (γ 22 p) ms) (m2 : x ∈ ms) : False := by
  obtain ⟨ks', a1, a2, a3, _⟩ := g e he (by omega)
  obtain ⟨ms', b1, b2, b3, _⟩ := g p (by omega) hp
  rw [Ch.uniq c1 a1] at m1
  rw [Ch.uniq c2 b1] at m2
  have u1 := a2.mem x m1
  have u2 := b2.mem x m2
  obtain ⟨z, mz, z1, z2⟩ := b2.find (x := e) (by omega) lt
  have u3 := b2.mem z mz
  have ns := nestG g ((z - lo).toNat + 1) z e (by omega) (by omega) (by omega) z1 z2
  have := b2.dis m2 mz (by omega)
  omega
theorem sumC_front (γ : St) : ∀ (n : Nat) (lo : Int), sumC γ lo (n + 1) = (if γ 20 lo = 3 then γ 34 (γ 21 lo) else 0) + sumC γ (lo + 1) n
  | 0, lo => by
    show sumC γ lo 0 + (if γ 20 (lo + (0 : Nat)) = 3 then γ 34 (γ 21 (lo + (0 : Nat))) else 0) = _
    rw [show lo + ((0 : Nat) : Int) = lo by omega]
    show (0 : Int) + _ = _ + (0 : Int)
    omega
  | n + 1, lo => by
    have i := sumC_front γ n lo
    show sumC γ lo (n + 1) + (if γ 20 (lo + ((n + 1 : Nat) : Int)) = 3 then γ 34 (γ 21 (lo + ((n + 1 : Nat) : Int))) else 0) = _ + (sumC γ (lo + 1) n + if γ 20 (lo + 1 + (n : Int)) = 3 then γ 34 (γ 21 (lo + 1 + (n : Int))) else 0)
    rw [i, show lo + ((n + 1 : Nat) : Int) = lo + 1 + (n : Int) by omega]
    omega
theorem sumC_nn {γ : St} : ∀ (n : Nat) (lo : Int), (∀ k, lo ≤ k → k < lo + n → γ 20 k = 3 → 0 ≤ γ 34 (γ 21 k)) → 0 ≤ sumC γ lo n
  | 0, _, _ => Int.le_refl _
  | n + 1, lo, h => by
    have i := sumC_nn n lo (fun k a b => h k a (by omega))
    have j := h (lo + n) (by omega) (by omega)
    show 0 ≤ sumC γ lo n + (if γ 20 (lo + (n : Int)) = 3 then γ 34 (γ 21 (lo + (n : Int))) else 0)
    by_cases q : γ 20 (lo + (n : Int)) = 3
    · rw [if_pos q]; have := j q; omega
    · rw [if_neg q]; omega
theorem rfo_sum {w : Int → Int} {δ : St} : ∀ (n : Nat) (i c : Int), 0 ≤ c → (∀ k, i ≤ k → k < i + n → δ 20 k = 3 → 0 ≤ w (δ 21 k) ∧ δ 34 (δ 21 k) = min 100000 (w (δ 21 k))) → min 100000 (rfo w δ n i c) = min 100000 (c + sumC δ i n) ∧ 0 ≤ rfo w δ n i c
  | 0, i, c, h, _ => by
    show min 100000 c = min 100000 (c + 0) ∧ 0 ≤ c
    omega
  | n + 1, i, c, h, g => by
    rw [sumC_front]
    show min 100000 (rfo w δ n (i + 1) (if δ 20 i = 3 then min 1000000 (c + w (δ 21 i)) else c)) = _ ∧ 0 ≤ rfo w δ n (i + 1) (if δ 20 i = 3 then min 1000000 (c + w (δ 21 i)) else c)
    have s := sumC_nn (γ := δ) n (i + 1) (fun k a b q => by have := g k (by omega) (by omega) q; omega)
    by_cases q : δ 20 i = 3
    · rw [if_pos q, if_pos q]
      have g0 := g i (Int.le_refl _) (by omega) q
      have r := rfo_sum (w := w) (δ := δ) n (i + 1) (min 1000000 (c + w (δ 21 i))) (by omega) (fun k a b => g k (by omega) (by omega))
      refine ⟨?_, r.2⟩
      rw [r.1]
      omega
    · rw [if_neg q, if_neg q]
      have r := rfo_sum (w := w) (δ := δ) n (i + 1) c h (fun k a b => g k (by omega) (by omega))
      refine ⟨?_, r.2⟩
      rw [r.1]
      omega
def faV (γ0 : St) (v0 c e y : Int) : Int := if γ0 24 y = -2 then (if γ0 20 e = 26 then γ0 12 (v0 + γ0 21 e / 2) else c) else γ0 24 y
def paV (γ0 : St) (e i p x : Int) : Int := if γ0 20 e = 24 ∨ γ0 20 e = 3 ∨ γ0 20 e = 6 ∧ i = 1 then x else p
theorem a2_L187 {γ0 : St} {n v0 b : Int} (h4 : γ0 4 n = v0) {x343 : St → Int → Int → Int → Int → Option (Int × St)} {Q : Int × St → Prop} {k e : Int} (hw : γ0 20 e = 26 → 0 ≤ γ0 21 e ∧ γ0 21 e ≤ 1000) : ∀ (f : Nat) (γ : St) (ks : List Int) (lo hi i x : Int), (∀ j k, j ≤ 28 → γ j k = γ0 j k) → Ch (γ0 23) x ks → Sg (γ0 26) lo ks hi → hi ≤ e → (∀ γ', (∀ j k, j ≠ 29 → j ≠ 30 → γ' j k = γ j k) → (∀ y, y ∉ ks → γ' 29 y = γ 29 y ∧ γ' 30 y = γ 30 y) → (∀ (j : Nat) y, ks[j]? = some y → γ' 29 y = faV γ0 v0 (γ 29 e) e y ∧ γ' 30 y = paV γ0 e (i + j) (γ 30 e) y) → pc (x343 γ' n k b e) Q) → pc (f_M_around_L187 x343 f γ n k b e i x) Q := by
  intro f
  induction f with
  | zero => intro γ ks lo hi i x _ _ _ _ _; exact pc_n
  | succ f ih =>
    intro γ ks lo hi i x r h2 h3 h5 hk
    unfold f_M_around_L187
    match ks, h2, h3, hk with
    | [], h2, h3, hk =>
      have ex : x = -1 := h2
      rw [if_pos (by omega)]
      exact hk γ (fun _ _ _ _ => rfl) (fun _ _ => ⟨rfl, rfl⟩) (fun j y q => by simp at q)
    | y :: t, h2, h3, hk =>
      have ex : x = y := h2.1
      have e0 := h2.2.1
      subst ex
      rw [if_neg (by omega)]
      have xlt := (h3.mem x List.mem_cons_self).2
      have tl : ∀ z ∈ t, x < z ∧ z < e := fun z hz => by have := Sg.mem h3.2.2 z hz; omega
      have n3 : ∀ c p γ1, (∀ j i, γ1 j i = if j = 29 ∧ i = x then c else γ j i) → c = faV γ0 v0 (γ 29 e) e x → p = paV γ0 e i (γ 30 e) x → pc (f_M_around_b327 (f_M_around_L187 x343 f) x343 γ1 n k b e i x p x) Q := fun c p γ1 s hc hp => by
        unfold f_M_around_b327
        refine pc_c (fun _ => pc_a ?_)
        have s2 : ∀ j k, setA γ1 30 x p j k = if j = 30 ∧ k = x then p else if j = 29 ∧ k = x then c else γ j k := fun j k => by rw [stA, s]
        generalize setA γ1 30 x p = γ2 at *
        have s0 : ∀ j k, (j = 29 ∨ j = 30 → k ≠ x) → γ2 j k = γ j k := fun j k q => by rw [s2, if_neg (by omega), if_neg (by omega)]
        have sx : γ2 29 x = c := by rw [s2, if_neg (by omega), if_pos ⟨rfl, rfl⟩]
        have sy : γ2 30 x = p := by rw [s2, if_pos ⟨rfl, rfl⟩]
        refine pc_c (fun _ => pc_c (fun _ => pc_a ?_))
        rw [s0 23 x (by omega), r 23 x (by omega)]
        refine ih γ2 t (x + 1) hi (i + 1) _ (fun j k q => by rw [s0 j k (by omega)]; exact r j k q) h2.2.2 h3.2.2 h5 (fun γ' f1 f2 f3 => ?_)
        have xt : x ∉ t := fun q => by have := (tl x q).1; omega
        refine hk γ' (fun j k q1 q2 => by rw [f1 j k q1 q2, s0 j k (by omega)]) (fun z hz => ?_) (fun j z hz => ?_)
        · have z1 : z ≠ x := fun q => hz (by rw [q]; exact List.mem_cons_self)
          have z2 := f2 z (fun q => hz (List.mem_cons_of_mem _ q))
          rw [s0 29 z (by omega), s0 30 z (by omega)] at z2
          exact z2
        · cases j with
          | zero =>
            simp only [List.getElem?_cons_zero, Option.some.injEq] at hz
            rw [← hz, (f2 x xt).1, (f2 x xt).2, sx, sy, hc, hp]
            refine ⟨rfl, ?_⟩
            rw [show i + ((0 : Nat) : Int) = i by omega]
          | succ j =>
            rw [List.getElem?_cons_succ] at hz
            have := f3 j z hz
            rw [s0 29 e (by omega), s0 30 e (by omega)] at this
            rw [show i + ((j + 1 : Nat) : Int) = i + 1 + (j : Int) by omega]
            exact this
      have n2 : ∀ c, c = faV γ0 v0 (γ 29 e) e x → pc (f_M_around_b267 (f_M_around_L187 x343 f) x343 γ n k b e i x c x) Q := fun c hc => by
        unfold f_M_around_b267
        refine pc_c (fun _ => pc_a ?_)
        have s : ∀ j k, setA γ 29 x c j k = if j = 29 ∧ k = x then c else γ j k := fun j k => by rw [stA]
        generalize setA γ 29 x c = γ1 at *
        have e20 : γ1 20 e = γ0 20 e := by rw [s, if_neg (by omega)]; exact r 20 e (by omega)
        have e30 : γ1 30 e = γ 30 e := by rw [s, if_neg (by omega)]
        rw [e20]
        unfold f_M_around_b315 f_M_around_b320
        refine pc_c (fun _ => pc_i (fun q => n3 c x γ1 s hc ?_) (fun q => pc_c (fun _ => pc_i (fun q2 => n3 c x γ1 s hc ?_) (fun q2 => pc_c (fun _ => pc_i (fun q3 => pc_c (fun _ => n3 c _ γ1 s hc ?_)) (fun q3 => pc_i (fun q4 => pc_c (fun _ => n3 c _ γ1 s hc ?_)) (fun q4 => n3 c x γ1 s hc ?_)))))))
        · unfold paV; rw [if_pos (Or.inl q)]
        · unfold paV; rw [if_pos (Or.inr (Or.inl q2))]
        · unfold paV; rw [if_neg (by omega), e30]
        · unfold paV; rw [if_neg (by omega), e30]
        · unfold paV; rw [if_pos (by omega)]
      have nx : ∀ o, o = (if γ0 20 e = 26 then γ0 12 (v0 + γ0 21 e / 2) else γ 29 e) → pc (f_M_around_b235 (f_M_around_L187 x343 f) x343 γ n k b e i x o) Q := fun o ho => by
        unfold f_M_around_b235
        rw [r 24 x (by omega)]
        refine pc_c (fun _ => pc_i (fun q => pc_c (fun _ => n2 _ ?_)) (fun q => n2 _ ?_))
        · unfold faV; rw [if_neg q]
        · unfold faV; rw [if_pos (by omega), ho]
      rw [r 20 e (by omega), r 21 e (by omega), r 4 n (by omega), h4]
      refine pc_c (fun _ => pc_i (fun q => pc_c (fun _ => nx _ ?_)) (fun q => ?_))
      · rw [if_neg q]
      · have w := hw (by omega)
        have ed := idiv_2 w.1 (by omega)
        rw [ed, r 12 _ (by omega)]
        refine pc_c (fun _ => pc_c (fun _ => pc_c (fun _ => pc_c (fun _ => pc_c (fun _ => nx _ ?_)))))
        rw [if_pos (by omega)]
/-- what lies around the sides of e -/
def KdA (γ0 γ : St) (v0 e : Int) : Prop := ∀ ms, Ch (γ0 23) (γ0 22 e) ms → ∀ (j : Nat) x, ms[j]? = some x → γ 29 x = faV γ0 v0 (γ 29 e) e x ∧ γ 30 x = paV γ0 e j (γ 30 e) x
theorem a2_L164 {γ0 : St} {n v0 v1 a b l0 l P0 P : Int} (X : NdX γ0 n v0 v1 a b l0 l P0 P) (h4 : γ0 4 n = v0) {k : Int} {x349 : St → Int → Int → Int → Option (Int × St)} {Q : Int × St → Prop} (hk : a ≤ k ∧ k < b) : ∀ (f : Nat) (γ : St) (e : Int), (∀ j k, j ≤ 28 → γ j k = γ0 j k) → γ0 19 k - 1 ≤ e → e ≤ γ0 17 k → (∀ p, e < p → p ≤ γ0 17 k → KdA γ0 γ v0 p) → (∀ γ', (∀ j i, j ≠ 29 → j ≠ 30 → γ' j i = γ j i) → (∀ y, y < γ0 19 k ∨ γ0 17 k ≤ y → γ' 29 y = γ 29 y ∧ γ' 30 y = γ 30 y) → (∀ p, γ0 19 k ≤ p → p ≤ γ0 17 k → KdA γ0 γ' v0 p) → pc (x349 γ' n k (γ0 17 k)) Q) → pc (f_M_around_L164 x349 f γ n k (γ0 17 k) e) Q := by
  have ⟨x1, x2, x3, x4, x5, x6, x7, x8, x9, x10, x11, x12, x13, x14, x15⟩ := X.1
  have er := x4.1 k hk.1 hk.2
  have gn := er.1.2.2.2.2.1
  intro f
  induction f with
  | zero => intro γ e _ _ _ _ _; exact pc_n
  | succ f ih =>
    intro γ e r h2 h3 h5 hx
    unfold f_M_around_L164
    rw [r 19 k (by omega)]
    refine pc_c (fun _ => pc_i (fun q => ?_) (fun q => ?_))
    · exact hx γ (fun _ _ _ _ => rfl) (fun _ _ => ⟨rfl, rfl⟩) (fun p q1 q2 => h5 p (by omega) q2)
    · obtain ⟨ks, c1, c2, c3, c4, c5, c6, c7⟩ := gn e (by omega) h3
      have mm := c2.mem
      rw [r 22 e (by omega)]
      refine pc_c (fun _ => pc_a ?_)
      refine a2_L187 h4 (fun q3 => by have := c5.2.2.2 q3; omega) FU γ ks _ _ 0 _ r c1 c2 (Int.le_refl _) (fun γ' f1 f2 f3 => ?_)
      unfold f_M_around_b343
      have ek : e ∉ ks := fun m => by have := (mm e m).2; omega
      refine pc_c (fun _ => ih γ' (e + -1) (fun j i q1 => by rw [f1 j i (by omega) (by omega)]; exact r j i q1) (by omega) (by omega) (fun p q1 q2 => ?_) (fun γ2 g1 g2 g3 => hx γ2 (fun j i q1 q2 => by rw [g1 j i q1 q2, f1 j i q1 q2]) (fun y q1 => ?_) g3))
      · by_cases q3 : p = e
        · subst q3
          intro ms cm j x jx
          rw [← Ch.uniq c1 cm] at jx
          have := f3 j x jx
          rw [(f2 p ek).1, (f2 p ek).2]
          rw [show (0 : Int) + (j : Int) = (j : Int) by omega] at this
          exact this
        · intro ms cm j x jx
          have hp := h5 p (by omega) q2 ms cm j x jx
          have mx : x ∈ ms := List.mem_of_getElem? jx
          have nx : x ∉ ks := fun m => kid_one gn (by omega) q2 (by omega) c1 m cm mx
          have np : p ∉ ks := fun m => by have := (mm p m).2; omega
          rw [(f2 x nx).1, (f2 x nx).2, (f2 p np).1, (f2 p np).2]
          exact hp
      · have ny : y ∉ ks := fun m => by have := mm y m; omega
        rw [(g2 y q1).1, (g2 y q1).2]
        exact f2 y ny
theorem a2_L357 {γ0 : St} {n k h : Int} {x403 : St → Int → Int → Option (Int × St)} {Q : Int × St → Prop} : ∀ (f : Nat) (γ : St) (e : Int), (∀ j i, j ≠ 31 → γ j i = γ0 j i) → (∀ γ', (∀ j i, j ≠ 31 → γ' j i = γ0 j i) → pc (x403 γ' n k) Q) → pc (f_M_around_L357 x403 f γ n k h e) Q := by
  intro f
  induction f with
  | zero => intro γ e _ _; exact pc_n
  | succ f ih =>
    intro γ e h1 hx
    have nx : ∀ w, pc (f_M_around_b396 (f_M_around_L357 x403 f) x403 γ n k h e w e) Q := fun w => by
      unfold f_M_around_b396
      exact pc_c (fun _ => pc_a (pc_c (fun _ => ih _ _ (fun j i q => by rw [stA, if_neg (by omega)]; exact h1 j i q) hx)))
    unfold f_M_around_L357
    exact pc_i (fun _ => hx γ h1) (fun _ => pc_c (fun _ => pc_i (fun _ => pc_c (fun _ => pc_c (fun _ => nx _))) (fun _ => nx _)))
theorem a2_L34 {γ0 : St} {n k h : Int} {x101 : St → Int → Int → Int → Option (Int × St)} {Q : Int × St → Prop} : ∀ (f : Nat) (γ : St) (i : Int), (∀ j i, j ≠ 32 → j ≠ 33 → γ j i = γ0 j i) → (∀ γ', (∀ j i, j ≠ 32 → j ≠ 33 → γ' j i = γ0 j i) → pc (x101 γ' n k h) Q) → pc (f_M_around_L34 x101 f γ n k h i) Q := by
  intro f
  induction f with
  | zero => intro γ e _ _; exact pc_n
  | succ f ih =>
    intro γ i h1 hx
    unfold f_M_around_L34
    exact pc_c (fun _ => pc_c (fun _ => pc_i (fun _ => hx γ h1) (fun _ => pc_c (fun _ => pc_c (fun _ => pc_c (fun _ => pc_c (fun _ => pc_a (pc_c (fun _ => pc_c (fun _ => pc_c (fun _ => pc_c (fun _ => pc_c (fun _ => pc_c (fun _ => pc_a (pc_c (fun _ => ih _ _ (fun j i q1 q2 => by rw [stA, if_neg (by omega), stA, if_neg (by omega)]; exact h1 j i q1 q2) hx))))))))))))))))
/-- what lies around the parts of an equation -/
def ArE (γ0 γ : St) (v0 k : Int) : Prop := γ 29 (γ0 17 k) = (if γ0 24 (γ0 17 k) = -2 then γ0 12 (v0 + γ0 18 (γ0 16 k)) else γ0 24 (γ0 17 k)) ∧ γ 30 (γ0 17 k) = γ0 17 k ∧ ∀ e, γ0 19 k ≤ e → e ≤ γ0 17 k → KdA γ0 γ v0 e
theorem ArE.fr {γ0 γ γ' : St} {nv nn l5 v0 k : Int} (h : ArE γ0 γ v0 k) (g : EqR nv nn l5 γ0 k) (f : ∀ y, γ0 19 k ≤ y → y ≤ γ0 17 k → γ' 29 y = γ 29 y ∧ γ' 30 y = γ 30 y) : ArE γ0 γ' v0 k := by
  have ⟨_, _, _, p19, gn, _⟩ := g
  obtain ⟨h1, h2, h3⟩ := h
  refine ⟨by rw [(f _ (by omega) (by omega)).1]; exact h1, by rw [(f _ (by omega) (by omega)).2]; exact h2, fun e q1 q2 ms c j x jx => ?_⟩
  obtain ⟨ks, c1, c2, c3, _⟩ := gn e q1 q2
  have mx : x ∈ ks := by rw [Ch.uniq c1 c]; exact List.mem_of_getElem? jx
  have := c2.mem x mx
  rw [(f x (by omega) (by omega)).1, (f x (by omega) (by omega)).2, (f e q1 q2).1, (f e q1 q2).2]
  exact h3 e q1 q2 ms c j x jx
theorem a2_L7 {γ0 : St} {n v0 v1 a b l0 l P0 P : Int} (X : NdX γ0 n v0 v1 a b l0 l P0 P) (h4 : γ0 4 n = v0) (h7 : γ0 7 (n + 1) = b) : ∀ (f : Nat) (γ : St) (k : Int), (∀ j i, j ≤ 28 → γ j i = γ0 j i) → a ≤ k → (k < b → ∀ k', a ≤ k' → k' < k → γ0 17 k' < γ0 19 k) → (∀ k', a ≤ k' → k' < k → k' < b → ArE γ0 γ v0 k') → pc (f_M_around_L7 f γ n k) (fun z => ∀ k', a ≤ k' → k' < b → ArE γ0 z.2 v0 k') := by
  have ⟨x1, x2, x3, x4, x5, x6, x7, x8, x9, x10, x11, x12, x13, x14, x15⟩ := X.1
  intro f
  induction f with
  | zero => intro γ k _ _ _ _; exact pc_n
  | succ f ih =>
    intro γ k r h2 h3 h5
    unfold f_M_around_L7
    rw [r 7 _ (by omega), h7]
    refine pc_c (fun _ => pc_c (fun _ => pc_i (fun q => ?_) (fun q => ?_)))
    · exact pc_s (fun k' q1 q2 => h5 k' q1 (by omega) q2)
    · have er := x4.1 k h2 (by omega)
      have r4 := er.1.2.2.2.1
      rw [r 17 k (by omega), r 16 k (by omega)]
      refine pc_c (fun _ => pc_a (pc_c (fun _ => pc_a ?_)))
      refine a2_L34 (γ0 := γ) FU γ _ (fun _ _ _ _ => rfl) (fun γ1 f1 => ?_)
      have r1 : ∀ j k, j ≤ 28 → γ1 j k = γ0 j k := fun j k q => by rw [f1 j k (by omega) (by omega)]; exact r j k q
      unfold f_M_around_b101
      rw [r1 16 k (by omega), r1 4 n (by omega), h4, r1 18 _ (by omega), r1 12 _ (by omega), r1 24 _ (by omega)]
      have nx : ∀ c, c = (if γ0 24 (γ0 17 k) = -2 then γ0 12 (v0 + γ0 18 (γ0 16 k)) else γ0 24 (γ0 17 k)) → pc (f_M_around_b153 (f_M_around_L7 f) γ1 n k (γ0 17 k) c (γ0 17 k)) (fun z => ∀ k', a ≤ k' → k' < b → ArE γ0 z.2 v0 k') := fun c hc => by
        unfold f_M_around_b153
        refine pc_c (fun _ => pc_a (pc_c (fun _ => pc_a ?_)))
        have sf : ∀ j t, setA (setA γ1 29 (γ0 17 k) c) 30 (γ0 17 k) (γ0 17 k) j t = if j = 30 ∧ t = γ0 17 k then γ0 17 k else if j = 29 ∧ t = γ0 17 k then c else γ1 j t := fun j t => by rw [stA, stA]
        generalize setA (setA γ1 29 (γ0 17 k) c) 30 (γ0 17 k) (γ0 17 k) = γ2 at *
        have s0 : ∀ j t, (j = 29 ∨ j = 30 → t ≠ γ0 17 k) → γ2 j t = γ1 j t := fun j t q => by rw [sf, if_neg (by omega), if_neg (by omega)]
        refine a2_L164 X h4 ⟨h2, by omega⟩ FU γ2 _ (fun j i q => by rw [s0 j i (by omega)]; exact r1 j i q) (by omega) (Int.le_refl _) (fun p q1 q2 => by omega) (fun γ3 g1 g2 g3 => ?_)
        unfold f_M_around_b349
        refine pc_c (fun _ => pc_a ?_)
        refine a2_L357 (γ0 := γ3) FU γ3 _ (fun _ _ _ => rfl) (fun γ4 i1 => ?_)
        unfold f_M_around_b403
        have e29 : ∀ y, y < γ0 19 k → γ4 29 y = γ 29 y ∧ γ4 30 y = γ 30 y := fun y qy => by
          rw [i1 29 y (by omega), i1 30 y (by omega), (g2 y (by omega)).1, (g2 y (by omega)).2, s0 29 y (by omega), s0 30 y (by omega), f1 29 y (by omega) (by omega), f1 30 y (by omega) (by omega)]
          exact ⟨rfl, rfl⟩
        refine pc_c (fun _ => ih γ4 (k + 1) (fun j i q1 => by rw [i1 j i (by omega), g1 j i (by omega) (by omega), s0 j i (by omega)]; exact r1 j i q1) (by omega) (fun q1 k' q2 q3 => ?_) (fun k' q1 q2 q3 => ?_))
        · have nx2 := x4.2.1 k h2 (by omega)
          by_cases q4 : k' = k
          · rw [q4]; omega
          · have := h3 (by omega) k' q2 (by omega); omega
        · by_cases q4 : k' = k
          · subst q4
            refine ⟨?_, ?_, fun e d1 d2 ms cm j x jx => ?_⟩
            · rw [i1 29 _ (by omega), (g2 _ (by omega)).1, sf, if_neg (by omega), if_pos ⟨rfl, rfl⟩]; exact hc
            · rw [i1 30 _ (by omega), (g2 _ (by omega)).2, sf, if_pos ⟨rfl, rfl⟩]
            · rw [i1 29 _ (by omega), i1 29 _ (by omega), i1 30 _ (by omega), i1 30 _ (by omega)]
              exact g3 e d1 d2 ms cm j x jx
          · have l := h3 (by omega) k' q1 (by omega)
            exact (h5 k' q1 (by omega) q3).fr (x4.1 k' q1 q3).1 (fun y y1 y2 => e29 y (by omega))
      refine pc_c (fun _ => pc_c (fun _ => pc_c (fun _ => pc_c (fun _ => pc_c (fun _ => pc_a (pc_c (fun _ => pc_i (fun q2 => pc_c (fun _ => nx _ ?_)) (fun q2 => nx _ ?_))))))))
      · rw [if_neg q2]
      · rw [if_pos (by omega)]
theorem a2_around {γ0 : St} {n v0 v1 a b l0 l P0 P : Int} (X : NdX γ0 n v0 v1 a b l0 l P0 P) (h4 : γ0 4 n = v0) (h7 : γ0 7 n = a) (h7' : γ0 7 (n + 1) = b) : pc (f_M_around γ0 n) (fun z => ∀ k', a ≤ k' → k' < b → ArE γ0 z.2 v0 k') := by
  unfold f_M_around
  rw [h7]
  exact pc_c (fun _ => pc_a (a2_L7 X h4 h7' FU γ0 a (fun _ _ _ => rfl) (Int.le_refl _) (fun _ k' q1 q2 => by omega) (fun k' q1 q2 _ => by omega)))
