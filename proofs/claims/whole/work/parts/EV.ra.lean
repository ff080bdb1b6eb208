/-! equality: what the reference calls a cause is one in the class -/
def LB (V : Int) (γ δ : St) (σ : Int → Int → Int) (κ : Int → Int) : Prop := LkM δ ∧ (∀ f, 0 ≤ f → f < δ 0 18 → ArN δ f ∧ ∀ k, δ 7 f ≤ k → k < δ 7 (f + 1) → ClE δ (δ 4 f) k) ∧ TbR γ δ ∧ (∀ f e, 0 ≤ f → f < δ 0 18 → psN δ f ≤ e → e < peN δ f → γ 41 e = if δ 20 e = 25 then δ 29 (δ 22 e) else δ 29 e) ∧ (∀ v, 0 ≤ v → v < δ 0 19 → γ 34 v = δ 12 v) ∧ (κ 0 = 0 ∧ V = δ 0 51) ∧ (∀ y, 0 ≤ y → y < δ 0 50 → LqIn V γ δ σ κ y ∧ (0 < y → LqIp γ δ σ κ y)) ∧ ∀ i, 0 ≤ i → i < γ 26 (δ 35 0) → γ 55 i = -1
theorem slC_cc {B c : Int} (_hB : 0 ≤ B) (hc : 0 ≤ c) : slC (1 + 2 * B + c) = B + c / 2 := by
  unfold slC
  rw [if_neg (by omega)]
  omega
theorem ck_cv {V : Int} {γ δ : St} {σ : Int → Int → Int} {κ : Int → Int} (h : LB V γ δ σ κ) : ∀ (n : Nat) (x c : Int), 0 ≤ x → x < δ 0 50 → x < n → (c = -1 ∨ 0 ≤ c ∧ c ≤ 2000000) → slC (ccK (δ 38 x) (κ x) c) = clV δ n x c := by
  obtain ⟨l, ar, tb, f41, g34, ⟨k0, _⟩, iy, _⟩ := h
  intro n
  induction n with
  | zero => intro x c h0 h1 h2; exfalso; omega
  | succ n ih =>
    intro x c h0 h1 h2 hc
    show _ = (if c ≠ -1 then δ 38 x + idiv c 2 else if δ 36 x < 0 then -1 else clV δ n (δ 36 x) (δ 29 (δ 37 x)))
    have ⟨ix, _, io, _⟩ := l.2.2.2.2.2.2.2.2.1 x h0 h1
    have b38 := ix.2.1.1
    unfold ccK
    by_cases q : c = -1
    · rw [if_pos q, if_neg (by omega)]
      by_cases q2 : x = 0
      · rw [q2, k0, l.2.2.2.2.2.2.2.1.2.1, if_pos (by omega)]; rfl
      · have ⟨o1, o2, o3, o4⟩ := io (by omega)
        have ⟨p1, _⟩ := (iy x h0 h1).2 (by omega)
        have nr := (l.2.2.2.2.2.2.2.2.1 (δ 36 x) (by omega) (by omega)).1.1
        have nd := l.nd (x := δ 36 x) (by omega) (by omega)
        have sz := nd.sz
        obtain ⟨_, _, _, _, _, _, fv, _⟩ := nd.pt o2.1 o2.2
        have nv : nvN δ (δ 35 (δ 36 x)) = δ 4 (δ 35 (δ 36 x) + 1) - δ 4 (δ 35 (δ 36 x)) := rfl
        have e41 := f41 _ (δ 37 x) nr.1 nr.2 o2.1 o2.2
        rw [if_neg (by omega)] at e41
        rw [if_neg (by omega), p1, e41]
        refine ih (δ 36 x) _ (by omega) (by omega) (by omega) ?_
        unfold FlV at fv
        omega
    · rw [if_neg q, if_pos q, slC_cc b38 (by omega), idiv_2 (by omega) (by omega)]
/-- the full clocks -/
theorem fl_own {δ : St} {f k e : Int} (nd : NdS δ f) (ar : ArN δ f) (k1 : δ 7 f ≤ k) (k2 : k < δ 7 (f + 1)) (e1 : δ 19 k ≤ e) (e2 : e ≤ δ 17 k) (h : δ 24 e ≠ -2) : δ 29 e = δ 24 e := by
  obtain ⟨a1, a2, a3⟩ := ar k k1 k2
  by_cases q : e = δ 17 k
  · rw [q] at h ⊢
    rw [a1, if_neg h]
  · have eq := nd.eq k1 k2
    obtain ⟨p, p1, p2, ms, c1, m1⟩ := cover (nd.gn k1 k2) ((δ 17 k - δ 19 k).toNat + 1) (δ 17 k) e (by omega) (Int.le_refl _) (by omega) (by omega) (by omega)
    obtain ⟨j, hj⟩ := List.getElem?_of_mem m1
    rw [(a3 p (by omega) p2 ms c1 j e hj).1]
    unfold faV
    rw [if_neg h]
theorem fl_body {δ : St} {f k i : Int} (nd : NdS δ f) (ar : ArN δ f) (cl : ClE δ (δ 4 f) k) (k1 : δ 7 f ≤ k) (k2 : k < δ 7 (f + 1)) (i1 : δ 16 k ≤ i) (i2 : i < δ 16 (k + 1)) : δ 29 (δ 17 k) = δ 12 (δ 4 f + δ 18 i) := by
  obtain ⟨a1, a2, a3⟩ := ar k k1 k2
  have c := cl.2 i i1 i2
  rw [a1]
  by_cases q : δ 24 (δ 17 k) = -2
  · rw [if_pos q, c.2]
  · rw [if_neg q]; exact c.1.resolve_left q
theorem fl_kid {δ : St} {f k e y : Int} {ms : List Int} (nd : NdS δ f) (ar : ArN δ f) (cl : ClE δ (δ 4 f) k) (k1 : δ 7 f ≤ k) (k2 : k < δ 7 (f + 1)) (e1 : δ 19 k ≤ e) (e2 : e ≤ δ 17 k) (c1 : Ch (δ 23) (δ 22 e) ms) (my : y ∈ ms) : (δ 20 e ≠ 25 → δ 20 e ≠ 26 → δ 29 y = δ 29 e) ∧ (δ 20 e = 26 → δ 29 y = δ 12 (δ 4 f + δ 21 e / 2)) ∧ (δ 20 e = 25 → 0 ≤ δ 29 y) ∧ (δ 20 e = 26 → δ 29 e = δ 21 e) := by
  obtain ⟨a1, a2, a3⟩ := ar k k1 k2
  obtain ⟨ms', d1, d2, d4, p1, p2, p3, p4⟩ := cl.1 e e1 e2
  rw [Ch.uniq d1 c1] at d2 d4 p4
  have ry := d2 y my
  obtain ⟨j, hj⟩ := List.getElem?_of_mem my
  have kd := (a3 e e1 e2 ms c1 j y hj).1
  have oy := fl_own nd ar k1 k2 (e := y) (by omega) (by omega)
  have oe := fl_own nd ar k1 k2 (e := e) e1 e2
  obtain ⟨ks, g1, g2, g3, g4, g5, _⟩ := nd.gn k1 k2 e e1 e2
  have one : (δ 20 e = 25 ∨ δ 20 e = 26) → y = δ 22 e := fun w => by
    rw [Ch.uniq g1 c1] at g4
    have l1 : ms.length = 1 := g4.2.2.2.2 (by omega)
    match ms, c1, l1, my with
    | [z], c1, _, my =>
      have ez : δ 22 e = z := c1.1
      rcases List.mem_cons.1 my with w | w
      · omega
      · cases w
  refine ⟨fun q1 q2 => ?_, fun q => ?_, fun q => ?_, fun q => ?_⟩
  · by_cases v : δ 20 e = 2
    · have l0 : ms.length = 0 := by rw [← Ch.uniq g1 c1]; exact g4.1 (by omega)
      have : ms = [] := List.length_eq_zero_iff.1 l0
      rw [this] at my; cases my
    · rcases p4 v q2 q1 y my with w | w
      · rw [kd]; unfold faV; rw [if_pos w, if_neg q2]
      · by_cases w2 : δ 24 y = -2
        · rw [kd]; unfold faV; rw [if_pos w2, if_neg q2]
        · rw [oy w2, w, oe (by rw [← w]; exact w2)]
  · have ey := one (Or.inr q)
    have p := (p2 q).1
    rw [← ey] at p
    by_cases w2 : δ 24 y = -2
    · rw [kd]; unfold faV; rw [if_pos w2, if_pos q]
    · rw [oy w2]; exact p.resolve_left w2
  · have ey := one (Or.inl q)
    have p := (p3 q).1
    rw [← ey] at p
    rw [oy (by omega)]; exact p
  · have p := (p2 q).2
    have w := g5.2.2.2 q
    rw [oe (by omega), p]
/-- a part of the same root lies right under another such -/
theorem ps_up {δ : St} {f k root e : Int} (nd : NdS δ f) (ar : ArN δ f) (k1 : δ 7 f ≤ k) (k2 : k < δ 7 (f + 1)) (r1 : δ 19 k ≤ root) (r2 : root ≤ δ 17 k) (e1 : root + 1 - δ 26 root ≤ e) (e2 : e < root) (h : δ 30 e = root) : ∃ (p : Int) (ms : List Int) (j : Nat), (e < p ∧ p ≤ root) ∧ δ 30 p = root ∧ Ch (δ 23) (δ 22 p) ms ∧ ms[j]? = some e ∧ ¬ (δ 20 p = 24 ∨ δ 20 p = 3 ∨ δ 20 p = 6 ∧ (j : Int) = 1) := by
  have gl := nd.gl k1 k2 r1 r2
  obtain ⟨p, p1, p2, ms, c1, m1⟩ := cover (nd.gn k1 k2) ((root - δ 19 k).toNat + 1) root e r1 r2 (by omega) e1 e2
  obtain ⟨j, hj⟩ := List.getElem?_of_mem m1
  have kd := ((ar k k1 k2).2.2 p (by omega) (by omega) ms c1 j e hj).2
  unfold paV at kd
  by_cases q : δ 20 p = 24 ∨ δ 20 p = 3 ∨ δ 20 p = 6 ∧ (j : Int) = 1
  · rw [if_pos q] at kd; omega
  · rw [if_neg q] at kd
    exact ⟨p, ms, j, ⟨p1, p2⟩, by omega, c1, hj, q⟩
