/-! equality: putIn, where there are too many variables -/
theorem pc_pq {β : Type} {m : Option β} {P : β → Prop} (h : pq (some ()) m (fun _ z => P z)) : pc m P := fun z e => h () z rfl e
def PuB (δ : St) (w : Int) (z : Res) : Prop := ((∃ r, z.1 = .inr r) ∧ FT δ z.2 ∧ z.2 0 51 = δ 0 51 + w ∧ z.2 0 51 ≤ 6000) ∨ z.1 = .inl (3, δ 0 1)
theorem rfo_nn {w : Int → Int} {δ : St} : ∀ (n : Nat) (i c : Int), (∀ k, i ≤ k → k < i + n → δ 20 k = 3 → 0 ≤ w (δ 21 k)) → 0 ≤ c → 0 ≤ rfo w δ n i c
  | 0, _, _, _, h => h
  | n + 1, i, c, g, h => by
    show 0 ≤ rfo w δ n (i + 1) (if δ 20 i = 3 then min 1000000 (c + w (δ 21 i)) else c)
    refine rfo_nn n (i + 1) _ (fun k a b => g k (by omega) (by omega)) ?_
    by_cases q : δ 20 i = 3
    · rw [if_pos q]; have := g i (Int.le_refl _) (by omega) q; omega
    · rw [if_neg q]; exact h
theorem pb_L232 {D δe : St} {w : Int → Int} {n x A W : Int} {E : Nat → St → Int → Int → Int → Option Res} (s : SN D (D 0 18)) (fe : FT D δe) (n0 : 0 ≤ n ∧ n < D 0 18) (hA : 0 ≤ A) (hw : ∀ g, 0 ≤ g → g < n → 0 ≤ w g) (hE : ∀ g, 0 ≤ g → g < n → ∀ δ out call, FT D δ → 0 ≤ δ 0 51 → pc (E 0 δ g out call) (PuB δ (w g))) {k : Int} (k1 : D 7 n ≤ k) (k2 : k < D 7 (n + 1)) {x363 : St → Int → Int → Int → Option Res} {P : Res → Prop} (kt : ∀ γ', P (.inl (3, δe 0 1), γ')) (hx : ∀ δ, FT δe δ → (A ≤ δ 0 51 ∧ δ 0 51 ≤ 6000) → rfo w D (peN D n - (D 17 k + 1)).toNat (D 17 k + 1) (δ 0 51 - A) = W → pc (x363 δ n x k) P) : ∀ (F : Nat) (δ : St) (e : Int), FT δe δ → (A ≤ δ 0 51 ∧ δ 0 51 ≤ 6000) → D 19 k ≤ e → e ≤ D 17 k + 1 → rfo w D (peN D n - e).toNat e (δ 0 51 - A) = W → pc (f_M_putIn_L232 E x363 F δ n x k e) P := by
  have hn := s n n0.1 n0.2
  have eq := hn.eq k1 k2
  intro F
  induction F with
  | zero => intro δ e _ _ _ _ _; exact pc_n
  | succ F ih =>
    intro δ e f h51 h1 h2 hr
    have fd := fe.tr f
    have b290 : ∀ δ1, FT δe δ1 → (A ≤ δ1 0 51 ∧ δ1 0 51 ≤ 6000) → e ≤ D 17 k → rfo w D (peN D n - (e + 1)).toNat (e + 1) (δ1 0 51 - A) = W → pc (f_M_putIn_b290 E (f_M_putIn_L232 E x363 F) x363 δ1 n x k e) P := fun δ1 f1 g1 g2 g3 => by
      rw [← bT_id (f_M_putIn_b290 _ _ _ _ _ _ _ _)]
      refine pc_pq (pq_b290 (fun δ' fd' f53 => ?_))
      rw [bT_id]
      have := ih δ' (e + 1) (f1.tr (fun j i q1 q2 => fd' j i (by omega))) (by rw [fd' 0 51 (by omega)]; exact g1) (by omega) (by omega) (by rw [fd' 0 51 (by omega)]; exact g3)
      exact fun _ z _ e2 => this z e2
    unfold f_M_putIn_L232
    rw [fd 17 k (by omega) (by omega), fd 20 e (by omega) (by omega), fd 21 e (by omega) (by omega)]
    refine pc_c (fun _ => pc_i (fun q => ?_) (fun q => ?_))
    · rw [show e = D 17 k + 1 by omega] at hr
      exact hx δ f h51 hr
    · have en : (peN D n - e).toNat = (peN D n - (e + 1)).toNat + 1 := by omega
      rw [en] at hr
      have hr : rfo w D (peN D n - (e + 1)).toNat (e + 1) (if D 20 e = 3 then min 1000000 (δ 0 51 - A + w (D 21 e)) else δ 0 51 - A) = W := hr
      refine pc_c (fun _ => pc_i (fun q2 => ?_) (fun q2 => ?_))
      · rw [if_neg q2] at hr
        exact b290 δ f h51 (by omega) hr
      · have c3 : D 20 e = 3 := by omega
        rw [if_pos c3] at hr
        obtain ⟨_, _, _, _, _, w', _⟩ := hn.pt (e := e) (by omega) (by omega)
        have w3 := w'.2.2.1 c3
        have wn := hw _ w3.1 w3.2
        refine pc_c (fun _ => pc_c (fun _ => pc_c (fun _ => pc_c (fun _ => ?_))))
        have h := hE _ w3.1 w3.2 δ x e fd (by omega)
        intro z e2
        match hm : E 0 δ (D 21 e) x e with
        | none => rw [hm] at e2; exact absurd e2 (by intro h; cases h)
        | some (.inl er, δ1) =>
          rw [hm] at e2
          have e2 : some ((.inl er, δ1) : Res) = some z := e2
          cases e2
          rcases h _ hm with ⟨⟨r, h1⟩, _⟩ | h1
          · cases h1
          · have h1 : (Sum.inl er : (Int × Int) ⊕ Int) = .inl (3, δ 0 1) := h1
            cases h1
            rw [f 0 1 (by omega) (by omega)]
            exact kt δ1
        | some (.inr r, δ1) =>
          rw [hm] at e2
          rcases h _ hm with ⟨_, h2, h3, h4⟩ | h1
          · have h2 : FT δ δ1 := h2
            have h3 : δ1 0 51 = δ 0 51 + w (D 21 e) := h3
            have h4 : δ1 0 51 ≤ 6000 := h4
            have b := b290 (setA δ1 41 (δ 40 x + δ 25 e) r) (f.tr (h2.tr (fun j i q1 q2 => by rw [stA, if_neg (by omega)]))) (by rw [stA, if_neg (by omega)]; omega) (by omega) (by rw [stA, if_neg (by omega), h3, show δ 0 51 + w (D 21 e) - A = δ 0 51 - A + w (D 21 e) by omega]; rw [show min 1000000 (δ 0 51 - A + w (D 21 e)) = δ 0 51 - A + w (D 21 e) by omega] at hr; exact hr)
            have pcc : pc (bndT (some ((.inr r, δ1) : Res)) fun r83 γ84 => chk (inb (δ 40 x + δ 25 e) 3200) (ap (setA γ84 41 (δ 40 x + δ 25 e) r83) fun γ85 => f_M_putIn_b290 E (f_M_putIn_L232 E x363 F) x363 γ85 n x k e)) P := pc_c (fun _ => pc_a b)
            exact pcc z e2
          · cases h1
theorem pb_L210 {D δe : St} {w : Int → Int} {n x A W : Int} {E : Nat → St → Int → Int → Int → Option Res} (s : SN D (D 0 18)) (fe : FT D δe) (n0 : 0 ≤ n ∧ n < D 0 18) (hA : 0 ≤ A) (hw : ∀ g, 0 ≤ g → g < n → 0 ≤ w g) (hE : ∀ g, 0 ≤ g → g < n → ∀ δ out call, FT D δ → 0 ≤ δ 0 51 → pc (E 0 δ g out call) (PuB δ (w g))) {P : Res → Prop} (kt : ∀ γ', P (.inl (3, δe 0 1), γ')) (hx : ∀ r δ, FT δe δ → δ 0 51 ≤ 6000 → δ 0 51 - A = W → P (.inr r, δ)) : ∀ (F : Nat) (δ : St) (k e : Int), FT δe δ → (A ≤ δ 0 51 ∧ δ 0 51 ≤ 6000) → D 7 n ≤ k → k ≤ D 7 (n + 1) → (k < D 7 (n + 1) → D 19 k = e) → (k = D 7 (n + 1) → e = peN D n) → rfo w D (peN D n - e).toNat e (δ 0 51 - A) = W → pc (f_M_putIn_L210 E F δ n x k) P := by
  have hn := s n n0.1 n0.2
  intro F
  induction F with
  | zero => intro δ k e _ _ _ _ _ _ _; exact pc_n
  | succ F ih =>
    intro δ k e f h51 k1 k2 e1 e2 hr
    have fd := fe.tr f
    unfold f_M_putIn_L210
    rw [fd 7 _ (by omega) (by omega), fd 19 _ (by omega) (by omega)]
    refine pc_c (fun _ => pc_c (fun _ => pc_i (fun q => pc_s ?_) (fun q => ?_)))
    · have ek : k = D 7 (n + 1) := by omega
      rw [e2 ek, show (peN D n - peN D n).toNat = 0 by omega] at hr
      exact hx x δ f h51.2 hr
    · have k3 : k < D 7 (n + 1) := by omega
      have eq := hn.eq k1 k3
      refine pc_c (fun _ => pc_a (pb_L232 (W := W) s fe n0 hA hw hE k1 k3 kt (fun δ2 f2 h2 r2 => ?_) FU δ _ f h51 (Int.le_refl _) (by omega) (by rw [e1 k3]; exact hr)))
      unfold f_M_putIn_b363
      exact pc_c (fun _ => ih δ2 (k + 1) (D 17 k + 1) f2 h2 (by omega) (by omega) (fun q3 => eq.2.2.2.2.2.2.1 q3) (fun q3 => eq.2.2.2.2.2.2.2 q3) r2)
/-- putIn counts the variables, and throws where there are too many -/
theorem pb_MP {D : St} {w : Int → Int} (s : SN D (D 0 18)) (hw : ∀ f, 0 ≤ f → f < D 0 18 → 0 ≤ w f ∧ w f = rfo w D (peN D f - psN D f).toNat (psN D f) (nvN D f)) : ∀ (M : Nat) (n : Int), 0 ≤ n → n < M → n < D 0 18 → ∀ δ out call, FT D δ → 0 ≤ δ 0 51 → pc (MP M 0 δ n out call) (PuB δ (w n))
  | 0, n, h0, h1, _, _, _, _, _, _ => by exfalso; omega
  | M + 1, n, h0, h1, h2, δ, out, call, f, h51 => by
    show pc (if (0 : Nat) = 0 then f_M_putIn (MP M) δ n out call else none) _
    rw [if_pos rfl, ← bT_id (f_M_putIn (MP M) δ n out call)]
    have hn := s n h0 h2
    have sz := hn.sz
    have nv : nvN D n = D 4 (n + 1) - D 4 n := rfl
    have env := f.nv n
    refine pc_pq (pq_putIn (by omega) h51 (fun q γ' g => pq_some (Or.inr rfl)) (fun hA δ1 pv => ?_))
    rw [bT_id]
    have ⟨p1, ⟨c0, c1, c2, c3, c4⟩, p3, p4⟩ := pv
    have f1 := p1.ft
    have h := pb_L210 (x := δ 0 50) (A := δ 0 51) (W := w n) (E := MP M) s f ⟨h0, h2⟩ h51 (fun g q1 q2 => (hw g q1 (by omega)).1) (fun g q1 q2 => pb_MP s hw M g q1 (by omega) (by omega)) (P := PuB δ (w n)) (fun γ' => Or.inr rfl) (fun r δ' g1 g2 g3 => Or.inl ⟨⟨r, rfl⟩, g1, by show δ' 0 51 = _; omega, g2⟩) FU δ1 (D 7 n) (psN D n) f1 (by omega) (Int.le_refl _) (by omega) (fun _ => rfl) (fun q => by omega) (by rw [c1, env, show δ 0 51 + nvN D n - δ 0 51 = nvN D n by omega]; exact (hw n h0 h2).2.symm)
    have h' : pc (f_M_putIn_b202 (MP M) δ1 n (δ 0 50)) (PuB δ (w n)) := by
      unfold f_M_putIn_b202
      rw [f1 7 n (by omega) (by omega), f 7 n (by omega) (by omega)]
      exact pc_c (fun _ => pc_a h)
    exact fun _ z _ e => h' z e
