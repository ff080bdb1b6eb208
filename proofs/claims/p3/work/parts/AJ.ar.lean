/-! the reference's nodes: around -/
def FlV (nv c : Int) : Prop := c = -1 ∨ 0 ≤ c ∧ c < 2 * nv
def IsKid (γ : St) (p x : Int) : Prop := ∃ ks, Ch (γ 23) (γ 22 p) ks ∧ x ∈ ks
theorem Sg.find {p : Int → Int} {x : Int} : ∀ {ks : List Int} {lo hi : Int}, Sg p lo ks hi → lo ≤ x → x < hi → ∃ y ∈ ks, y + 1 - p y ≤ x ∧ x ≤ y
  | [], lo, hi, h, h1, h2 => by have : lo = hi := h; omega
  | y :: t, lo, hi, h, h1, h2 => by
    have e := h.2.1
    by_cases q : x ≤ y
    · exact ⟨y, List.mem_cons_self, by omega, q⟩
    · obtain ⟨z, m, c⟩ := Sg.find h.2.2 (by omega) h2
      exact ⟨z, List.mem_cons_of_mem _ m, c⟩
/-- every part but the root lies right under another -/
theorem cover {γ : St} {nv nn lo hi : Int} (g : ∀ e, lo ≤ e → e ≤ hi → Gn nv nn γ lo e) : ∀ (n : Nat) (e x : Int), lo ≤ e → e ≤ hi → e - lo < n → e + 1 - γ 26 e ≤ x → x < e → ∃ p, x < p ∧ p ≤ e ∧ IsKid γ p x := by
  intro n
  induction n with
  | zero => intro e x h1 h2 h3; exfalso; omega
  | succ n ih =>
    intro e x h1 h2 h3 h4 h5
    obtain ⟨ks, c1, c2, c3, _⟩ := g e h1 h2
    obtain ⟨y, m, d1, d2⟩ := c2.find h4 h5
    have b := c2.mem y m
    by_cases q : x = y
    · exact ⟨e, by omega, by omega, ks, c1, by rw [q]; exact m⟩
    · obtain ⟨p, p1, p2, p3⟩ := ih y x (by omega) (by omega) (by omega) d1 (by omega)
      exact ⟨p, p1, by omega, p3⟩
/-- what around leaves as it was -/
def Fa (v0 v1 P0 P : Int) (γ0 γ : St) : Prop := ∀ j k, (29 ≤ j → j ≤ 31 → k < P0 ∨ P ≤ k) → (j = 32 ∨ j = 33 → k < v0 ∨ v1 ≤ k) → γ j k = γ0 j k
theorem Fa.tr {v0 v1 P0 P : Int} {γ γ' γ'' : St} (h : Fa v0 v1 P0 P γ γ') (g : Fa v0 v1 P0 P γ' γ'') : Fa v0 v1 P0 P γ γ'' := fun j k q1 q2 => (g j k q1 q2).trans (h j k q1 q2)
/-- where a variable is defined -/
def DbI (γ : St) (v0 a b w : Int) : Prop := ∃ k i, (a ≤ k ∧ k < b) ∧ (γ 16 k ≤ i ∧ i < γ 16 (k + 1)) ∧ γ 18 i = w ∧ γ 32 (v0 + w) = k ∧ γ 33 (v0 + w) = i - γ 16 k
theorem DbI.fr {γ γ' : St} {v0 a b w : Int} (h : DbI γ v0 a b w) (e16 : ∀ k, γ' 16 k = γ 16 k) (e18 : ∀ k, γ' 18 k = γ 18 k) (e32 : γ' 32 (v0 + w) = γ 32 (v0 + w)) (e33 : γ' 33 (v0 + w) = γ 33 (v0 + w)) : DbI γ' v0 a b w := by
  obtain ⟨k, i, h1, h2, h3, h4, h5⟩ := h
  exact ⟨k, i, h1, by rw [e16, e16]; exact h2, by rw [e18]; exact h3, by rw [e32]; exact h4, by rw [e33, e16]; exact h5⟩
/-- what around leaves of a node -/
def AkX (γ : St) (n v0 v1 a b P0 P : Int) : Prop := (∀ e, P0 ≤ e → e < P → FlV (v1 - v0) (γ 29 e) ∧ γ 31 e = e + 1 - γ 26 e) ∧ ∀ v, v0 + γ 5 n ≤ v → v < v1 → DbI γ v0 a b (v - v0)
theorem w_around_L187 {γ0 : St} {n v0 v1 a b l0 l P0 P : Int} (X : NdX γ0 n v0 v1 a b l0 l P0 P) (h4 : γ0 4 n = v0) (hn : 0 ≤ n ∧ n ≤ 58) (hv : v1 ≤ 6000) (hb : b ≤ 16000) (hl : l ≤ 65000) (hP : P ≤ 65000) {x343 : St → Int → Int → Int → Int → Option (Int × St)} {Q : Int × St → Prop} {k e : Int} (he : P0 ≤ e ∧ e < P) (hw : whK (v1 - v0) n (γ0 20 e) (γ0 21 e)) : ∀ (f : Nat) (γ : St) (ks : List Int) (i x : Int), Fa v0 v1 P0 P γ0 γ → Ch (γ0 23) x ks → (∀ y ∈ ks, P0 ≤ y ∧ y < e) → FlV (v1 - v0) (γ 29 e) → 0 ≤ i → i + ks.length ≤ 66000 → ks.length < f → (∀ γ', Fa v0 v1 P0 P γ0 γ' → (∀ y ∈ ks, FlV (v1 - v0) (γ' 29 y)) → (∀ y, y ∉ ks → γ' 29 y = γ 29 y) → (∀ j k, j ≠ 29 → j ≠ 30 → γ' j k = γ j k) → wp (x343 γ' n k (γ0 17 k) e) Q) → wp (f_M_around_L187 x343 f γ n k (γ0 17 k) e i x) Q := by
  have ⟨x1, x2, x3, x4, x5, x6, x7, x8, x9, x10, x11, x12, x13, x14, x15⟩ := X.1
  intro f
  induction f with
  | zero => intro γ ks i x h1 h2 h3 h5 h6 h7 h8; exact absurd h8 (by omega)
  | succ f ih =>
    intro γ ks i x h1 h2 h3 h5 h6 h7 h8 hk
    have r : ∀ j k, j ≤ 28 → γ j k = γ0 j k := fun j k q => h1 j k (by omega) (by omega)
    unfold f_M_around_L187
    match ks, h2, h3, h7, h8, hk with
    | [], h2, h3, h7, h8, hk =>
      have ex : x = -1 := h2
      rw [if_pos (by omega)]
      exact hk γ h1 (fun y m => by cases m) (fun _ _ => rfl) (fun _ _ _ _ => rfl)
    | y :: t, h2, h3, h7, h8, hk =>
      have ex : x = y := h2.1
      have e0 := h2.2.1
      have my := h3 y List.mem_cons_self
      simp only [List.length_cons] at h7 h8
      subst ex
      rw [if_neg (by omega)]
      have ck := X.2.2.1 x my.1 (by omega)
      have nx : ∀ o, FlV (v1 - v0) o → wp (f_M_around_b235 (f_M_around_L187 x343 f) x343 γ n k (γ0 17 k) e i x o) Q := fun o ho => by
        have n2 : ∀ c, FlV (v1 - v0) c → wp (f_M_around_b267 (f_M_around_L187 x343 f) x343 γ n k (γ0 17 k) e i x c x) Q := fun c hc => by
          unfold f_M_around_b267
          refine wp_chk (by omega) (wp_sub ?_)
          have s : ∀ j k, setA γ 29 x c j k = if j = 29 ∧ k = x then c else γ j k := fun j k => by rw [stA]
          generalize setA γ 29 x c = γ1 at *
          have n3 : ∀ p, wp (f_M_around_b327 (f_M_around_L187 x343 f) x343 γ1 n k (γ0 17 k) e i x p x) Q := fun p => by
            unfold f_M_around_b327
            refine wp_chk (by omega) (wp_sub ?_)
            have s2 : ∀ j k, setA γ1 30 x p j k = if j = 30 ∧ k = x then p else if j = 29 ∧ k = x then c else γ j k := fun j k => by rw [stA, s]
            generalize setA γ1 30 x p = γ2 at *
            have s0 : ∀ j k, (j = 29 ∨ j = 30 → k ≠ x) → γ2 j k = γ j k := fun j k q => by rw [s2, if_neg (by omega), if_neg (by omega)]
            have sx : γ2 29 x = c := by rw [s2, if_neg (by omega), if_pos ⟨rfl, rfl⟩]
            refine wp_chk (by omega) (wp_chk (by omega) (wp_sub ?_))
            rw [s0 23 x (by omega), r 23 x (by omega)]
            refine ih γ2 t (i + 1) _ (h1.tr (fun j k q1 q2 => s0 j k (by omega))) h2.2.2 (fun z hz => h3 z (List.mem_cons_of_mem _ hz)) (by rw [s0 29 e (by omega)]; exact h5) (by omega) (by omega) (by omega) (fun γ' f1 f2 f3 f4 => ?_)
            refine hk γ' f1 (fun z hz => ?_) (fun z hz => ?_) (fun j k q1 q2 => ?_)
            · by_cases q : z ∈ t
              · exact f2 z q
              · have ez : z = x := by
                  rcases List.mem_cons.1 hz with q2 | q2
                  · exact q2
                  · exact absurd q2 q
                rw [f3 z q, ez, sx]; exact hc
            · rw [f3 z (fun q => hz (List.mem_cons_of_mem _ q)), s0 29 z (fun _ q => hz (by rw [q]; exact List.mem_cons_self))]
            · rw [f4 j k q1 q2, s0 j k (by omega)]
          unfold f_M_around_b315 f_M_around_b320
          refine wp_chk (by omega) (wp_ite (fun _ => n3 _) (fun _ => wp_chk (by omega) (wp_ite (fun _ => n3 _) (fun _ => wp_chk (by omega) (wp_ite (fun _ => wp_chk (by omega) (n3 _)) (fun _ => wp_ite (fun _ => wp_chk (by omega) (n3 _)) (fun _ => n3 _)))))))
        unfold f_M_around_b235
        rw [r 24 x (by omega)]
        refine wp_chk (by omega) (wp_ite (fun q => wp_chk (by omega) (n2 _ ?_)) (fun q => n2 _ ho))
        rcases ck with c | c | c
        · exact absurd c q
        · exact Or.inl c
        · exact Or.inr c
      rw [r 20 e (by omega), r 21 e (by omega), r 4 n (by omega), h4]
      refine wp_chk (by omega) (wp_ite (fun q => wp_chk (by omega) (nx _ h5)) (fun q => ?_))
      have w := hw.2.2.2 (by omega)
      have ed := idiv_2 w.1 (by omega)
      rw [ed, r 12 _ (by omega)]
      refine wp_chk (by omega) (wp_chk (by omega) (wp_chk (by decide) (wp_chk (by omega) (wp_chk (by omega) (nx _ ?_)))))
      rcases (x2 (v0 + γ0 21 e / 2) (by omega) (by omega)).1 with c | c
      · exact Or.inl c
      · exact Or.inr (by omega)
theorem w_around_L357 {γ0 : St} {n v0 v1 a b l0 l P0 P : Int} (X : NdX γ0 n v0 v1 a b l0 l P0 P) (h4 : γ0 4 n = v0) (hn : 0 ≤ n ∧ n ≤ 58) (hv : v1 ≤ 6000) (hb : b ≤ 16000) (hl : l ≤ 65000) (hP : P ≤ 65000) {k : Int} {x403 : St → Int → Int → Option (Int × St)} {Q : Int × St → Prop} (hk : a ≤ k ∧ k < b) : ∀ (f : Nat) (γ : St) (e : Int), Fa v0 v1 P0 P γ0 γ → γ0 19 k ≤ e → e ≤ γ0 17 k + 1 → P0 ≤ γ0 19 k → (∀ x, γ0 19 k ≤ x → x < e → γ 31 x = x + 1 - γ0 26 x) → γ0 17 k + 1 - e < f → (∀ γ', Fa v0 v1 P0 P γ0 γ' → (∀ x, γ0 19 k ≤ x → x ≤ γ0 17 k → γ' 31 x = x + 1 - γ0 26 x) → (∀ j i, (j = 31 → i < γ0 19 k) → γ' j i = γ j i) → wp (x403 γ' n k) Q) → wp (f_M_around_L357 x403 f γ n k (γ0 17 k) e) Q := by
  have ⟨x1, x2, x3, x4, x5, x6, x7, x8, x9, x10, x11, x12, x13, x14, x15⟩ := X.1
  have er := x4.1 k hk.1 hk.2
  intro f
  induction f with
  | zero => intro γ e h1 h2 h3 h5 h6 h7; exfalso; omega
  | succ f ih =>
    intro γ e h1 h2 h3 h5 h6 h7 hx
    have r : ∀ j k, j ≤ 28 → γ j k = γ0 j k := fun j k q => h1 j k (by omega) (by omega)
    have e2 := er.2.2
    unfold f_M_around_L357
    refine wp_ite (fun q => hx γ h1 (fun x q1 q2 => h6 x q1 (by omega)) (fun _ _ _ => rfl)) (fun q => ?_)
    obtain ⟨ks, c1, c2, c3, c4, c5, c6, c7⟩ := er.1.2.2.2.2.1 e h2 (by omega)
    have nx : ∀ w, w = e + 1 - γ0 26 e → wp (f_M_around_b396 (f_M_around_L357 x403 f) x403 γ n k (γ0 17 k) e w e) Q := fun w hw => by
      unfold f_M_around_b396
      refine wp_chk (by omega) (wp_sub ?_)
      have s : ∀ j i, setA γ 31 e w j i = if j = 31 ∧ i = e then w else γ j i := fun j i => by rw [stA]
      generalize setA γ 31 e w = γ1 at *
      have s0 : ∀ j i, (j = 31 → i ≠ e) → γ1 j i = γ j i := fun j i q => by rw [s, if_neg (by omega)]
      refine wp_chk (by omega) (ih γ1 (e + 1) (h1.tr (fun j i q1 q2 => s0 j i (by omega))) (by omega) (by omega) h5 (fun x q1 q2 => ?_) (by omega) (fun γ' f1 f2 f3 => hx γ' f1 f2 (fun j i q => ?_)))
      · by_cases q3 : x = e
        · rw [q3, s, if_pos ⟨rfl, rfl⟩, hw]
        · rw [s0 31 x (by omega)]; exact h6 x q1 (by omega)
      · rw [f3 j i q, s0 j i (by omega)]
    rw [r 22 e (by omega)]
    refine wp_chk (by omega) (wp_ite (fun q2 => ?_) (fun q2 => nx _ ?_))
    · match ks, c1, c2 with
      | [], c1, c2 => have ex : γ0 22 e = -1 := c1; exfalso; omega
      | y :: t, c1, c2 =>
        have ex : γ0 22 e = y := c1.1
        have l1 := c2.1
        have l2 := c2.2.1
        have l3 := Sg.le c2.2.2
        rw [ex]
        refine wp_chk (by omega) (wp_chk (by omega) (nx _ ?_))
        rw [h6 y (by omega) (by omega)]; omega
    · match ks, c1, c2 with
      | [], c1, c2 => have l1 : e + 1 - γ0 26 e = e := c2; omega
      | y :: t, c1, c2 => have ex : γ0 22 e = y := c1.1; have := c1.2.1; exfalso; omega
theorem w_around_L164 {γ0 : St} {n v0 v1 a b l0 l P0 P : Int} (X : NdX γ0 n v0 v1 a b l0 l P0 P) (h4 : γ0 4 n = v0) (hn : 0 ≤ n ∧ n ≤ 58) (hv : v1 ≤ 6000) (hb : b ≤ 16000) (hl : l ≤ 65000) (hP : P ≤ 65000) {k : Int} {x349 : St → Int → Int → Int → Option (Int × St)} {Q : Int × St → Prop} (hk : a ≤ k ∧ k < b) (hs : P0 ≤ γ0 19 k) : ∀ (f : Nat) (γ : St) (e : Int), Fa v0 v1 P0 P γ0 γ → γ0 19 k - 1 ≤ e → e ≤ γ0 17 k → (∀ x, γ0 19 k ≤ x → x ≤ γ0 17 k → (x = γ0 17 k ∨ ∃ p, e < p ∧ p ≤ γ0 17 k ∧ IsKid γ0 p x) → FlV (v1 - v0) (γ 29 x)) → e - (γ0 19 k - 1) < f → (∀ γ', Fa v0 v1 P0 P γ0 γ' → (∀ x, γ0 19 k ≤ x → x ≤ γ0 17 k → FlV (v1 - v0) (γ' 29 x)) → (∀ j i, (j = 29 → i < γ0 19 k) → j ≠ 30 → γ' j i = γ j i) → wp (x349 γ' n k (γ0 17 k)) Q) → wp (f_M_around_L164 x349 f γ n k (γ0 17 k) e) Q := by
  have := FU_v
  have ⟨x1, x2, x3, x4, x5, x6, x7, x8, x9, x10, x11, x12, x13, x14, x15⟩ := X.1
  have er := x4.1 k hk.1 hk.2
  have r4 := er.1.2.2.2.1
  intro f
  induction f with
  | zero => intro γ e h1 h2 h3 h5 h6; exfalso; omega
  | succ f ih =>
    intro γ e h1 h2 h3 h5 h6 hx
    have r : ∀ j k, j ≤ 28 → γ j k = γ0 j k := fun j k q => h1 j k (by omega) (by omega)
    have e2 := er.2.2
    have cv : ∀ x, γ0 19 k ≤ x → x ≤ γ0 17 k → x = γ0 17 k ∨ ∃ p, x < p ∧ p ≤ γ0 17 k ∧ IsKid γ0 p x := fun x q1 q2 => by
      by_cases q : x = γ0 17 k
      · exact Or.inl q
      · exact Or.inr (cover er.1.2.2.2.2.1 ((γ0 17 k - γ0 19 k).toNat + 1) (γ0 17 k) x (by omega) (Int.le_refl _) (by omega) (by omega) (by omega))
    unfold f_M_around_L164
    rw [r 19 k (by omega)]
    refine wp_chk (by omega) (wp_ite (fun q => ?_) (fun q => ?_))
    · refine hx γ h1 (fun x q1 q2 => h5 x q1 q2 ?_) (fun _ _ _ _ => rfl)
      rcases cv x q1 q2 with c | ⟨p, c1, c2, c3⟩
      · exact Or.inl c
      · exact Or.inr ⟨p, by omega, c2, c3⟩
    · obtain ⟨ks, c1, c2, c3, c4, c5, c6, c7⟩ := er.1.2.2.2.2.1 e (by omega) h3
      have mm := c2.mem
      have ln := c2.len
      rw [r 22 e (by omega)]
      refine wp_chk (by omega) (wp_sub ?_)
      refine w_around_L187 X h4 hn hv hb hl hP ⟨by omega, by omega⟩ c5 FU γ ks 0 _ h1 c1 (fun y hy => by have := mm y hy; omega) (h5 e (by omega) h3 (cv e (by omega) h3)) (by omega) (by omega) (by omega) (fun γ' f1 f2 f3 f4 => ?_)
      unfold f_M_around_b343
      refine wp_chk (by omega) (ih γ' (e + -1) f1 (by omega) (by omega) (fun x q1 q2 q3 => ?_) (by omega) (fun γ2 g1 g2 g3 => hx γ2 g1 g2 (fun j i q1 q2 => ?_)))
      · by_cases q4 : x ∈ ks
        · exact f2 x q4
        · rw [f3 x q4]
          refine h5 x q1 q2 ?_
          rcases q3 with c | ⟨p, d1, d2, ms, d3, d4⟩
          · exact Or.inl c
          · refine Or.inr ⟨p, ?_, d2, ms, d3, d4⟩
            by_cases q5 : p = e
            · rw [q5] at d3
              have eq := Ch.uniq c1 d3
              rw [← eq] at d4
              exact absurd d4 q4
            · omega
      · rw [g3 j i q1 q2]
        by_cases q5 : j = 29
        · rw [q5]; exact f3 i (fun m => by have := mm i m; have := q1 q5; omega)
        · exact f4 j i q5 q2
theorem w_around_L34 {γ0 : St} {n v0 v1 a b l0 l P0 P : Int} (X : NdX γ0 n v0 v1 a b l0 l P0 P) (h4 : γ0 4 n = v0) (hn : 0 ≤ n ∧ n ≤ 58) (hv : v1 ≤ 6000) (hb : b ≤ 16000) (hl : l ≤ 65000) (hP : P ≤ 65000) {k : Int} {x101 : St → Int → Int → Int → Option (Int × St)} {Q : Int × St → Prop} (hk : a ≤ k ∧ k < b) (h0 : l0 ≤ γ0 16 k) : ∀ (f : Nat) (γ : St) (i : Int), Fa v0 v1 P0 P γ0 γ → γ0 16 k ≤ i → i ≤ γ0 16 (k + 1) → (∀ t, l0 ≤ t → t < i → DbI γ v0 a b (γ0 18 t)) → (∀ t, l0 ≤ t → t < i → 0 ≤ γ0 18 t ∧ γ0 18 t < v1 - v0) → γ0 16 (k + 1) - i < f → (∀ γ', Fa v0 v1 P0 P γ0 γ' → (∀ t, l0 ≤ t → t < γ0 16 (k + 1) → DbI γ' v0 a b (γ0 18 t) ∧ 0 ≤ γ0 18 t ∧ γ0 18 t < v1 - v0) → (∀ j i, j ≠ 32 → j ≠ 33 → γ' j i = γ j i) → wp (x101 γ' n k (γ0 17 k)) Q) → wp (f_M_around_L34 x101 f γ n k (γ0 17 k) i) Q := by
  have ⟨x1, x2, x3, x4, x5, x6, x7, x8, x9, x10, x11, x12, x13, x14, x15⟩ := X.1
  have er := x4.1 k hk.1 hk.2
  have r2 := er.1.2.1
  intro f
  induction f with
  | zero => intro γ i h1 h2 h3 h5 h5' h6; exfalso; omega
  | succ f ih =>
    intro γ i h1 h2 h3 h5 h5' h6 hx
    have r : ∀ j k, j ≤ 28 → γ j k = γ0 j k := fun j k q => h1 j k (by omega) (by omega)
    have e2 := er.2.1
    unfold f_M_around_L34
    rw [r 16 _ (by omega)]
    refine wp_chk (by omega) (wp_chk (by omega) (wp_ite (fun q => hx γ h1 (fun t q1 q2 => ⟨h5 t q1 (by omega), h5' t q1 (by omega)⟩) (fun _ _ _ _ => rfl)) (fun q => ?_)))
    have lf := er.1.2.2.1 i h2 (by omega)
    rw [r 4 n (by omega), h4, r 18 i (by omega)]
    refine wp_chk (by omega) (wp_chk (by omega) (wp_chk (by omega) (wp_chk (by omega) (wp_sub ?_))))
    have s1 : ∀ j t, j ≤ 28 → setA γ 32 (v0 + γ0 18 i) k j t = γ0 j t := fun j t q => by rw [stA, if_neg (by omega)]; exact r j t q
    rw [s1 4 n (by omega), h4, s1 18 i (by omega), s1 16 k (by omega)]
    refine wp_chk (by omega) (wp_chk (by omega) (wp_chk (by omega) (wp_chk (by omega) (wp_chk (by omega) (wp_chk (by omega) (wp_sub ?_))))))
    have s : ∀ j t, setA (setA γ 32 (v0 + γ0 18 i) k) 33 (v0 + γ0 18 i) (i - γ0 16 k) j t = if j = 33 ∧ t = v0 + γ0 18 i then i - γ0 16 k else if j = 32 ∧ t = v0 + γ0 18 i then k else γ j t := fun j t => by rw [stA, stA]
    generalize setA (setA γ 32 (v0 + γ0 18 i) k) 33 (v0 + γ0 18 i) (i - γ0 16 k) = γ1 at *
    have s0 : ∀ j t, (j = 32 ∨ j = 33 → t ≠ v0 + γ0 18 i) → γ1 j t = γ j t := fun j t q => by rw [s, if_neg (by omega), if_neg (by omega)]
    have z16 : ∀ t, γ1 16 t = γ0 16 t := fun t => by rw [s0 16 t (by omega), r 16 t (by omega)]
    have z18 : ∀ t, γ1 18 t = γ0 18 t := fun t => by rw [s0 18 t (by omega), r 18 t (by omega)]
    have new : DbI γ1 v0 a b (γ0 18 i) := ⟨k, i, hk, by rw [z16, z16]; omega, z18 i, by rw [s, if_neg (by omega), if_pos ⟨rfl, rfl⟩], by rw [s, if_pos ⟨rfl, rfl⟩, z16]⟩
    refine wp_chk (by omega) (ih γ1 (i + 1) (h1.tr (fun j t q1 q2 => s0 j t (by omega))) (by omega) (by omega) (fun t q1 q2 => ?_) (fun t q1 q2 => ?_) (by omega) (fun γ' f1 f2 f3 => hx γ' f1 f2 (fun j t q1 q2 => by rw [f3 j t q1 q2, s0 j t (by omega)])))
    · by_cases q3 : γ0 18 t = γ0 18 i
      · rw [q3]; exact new
      · have q4 : t ≠ i := fun q => q3 (by rw [q])
        exact (h5 t q1 (by omega)).fr (fun u => s0 16 u (by omega)) (fun u => s0 18 u (by omega)) (s0 32 _ (by omega)) (s0 33 _ (by omega))
    · by_cases q3 : t = i
      · rw [q3]; have := x1; omega
      · exact h5' t q1 (by omega)
theorem w_around_L7 {γ0 : St} {n v0 v1 a b l0 l P0 P : Int} (X : NdX γ0 n v0 v1 a b l0 l P0 P) (h4 : γ0 4 n = v0) (hn : 0 ≤ n ∧ n ≤ 58) (hv : v1 ≤ 6000) (hb : b ≤ 16000) (hl : l ≤ 65000) (hP : P ≤ 65000) : ∀ (f : Nat) (γ : St) (k s : Int), Fa v0 v1 P0 P γ0 γ → γ0 7 (n + 1) = b → a ≤ k → k ≤ b → (k < b → γ0 19 k = s) → (k = b → s = P) → P0 ≤ s → (∀ e, P0 ≤ e → e < s → FlV (v1 - v0) (γ 29 e) ∧ γ 31 e = e + 1 - γ0 26 e) → (∀ t, l0 ≤ t → t < γ0 16 k → DbI γ v0 a b (γ0 18 t) ∧ 0 ≤ γ0 18 t ∧ γ0 18 t < v1 - v0) → l0 ≤ γ0 16 k → b - k < f → wp (f_M_around_L7 f γ n k) (fun z => Fa v0 v1 P0 P γ0 z.2 ∧ AkX z.2 n v0 v1 a b P0 P) := by
  have := FU_v
  have ⟨x1, x2, x3, x4, x5, x6, x7, x8, x9, x10, x11, x12, x13, x14, x15⟩ := X.1
  intro f
  induction f with
  | zero => intro γ k s h1 h7 h2 h3 h5 h6 h8 h9 h10 h11 h12; exfalso; omega
  | succ f ih =>
    intro γ k s h1 h7 h2 h3 h5 h6 h8 h9 h10 h11 h12
    have r : ∀ j k, j ≤ 28 → γ j k = γ0 j k := fun j k q => h1 j k (by omega) (by omega)
    unfold f_M_around_L7
    rw [r 7 _ (by omega), h7]
    refine wp_chk (by omega) (wp_chk (by omega) (wp_ite (fun q => ?_) (fun q => ?_)))
    · have ek : k = b := by omega
      have es := h6 ek
      refine wp_some ⟨h1, fun e q1 q2 => by show FlV _ (γ 29 e) ∧ γ 31 e = e + 1 - γ 26 e; rw [r 26 e (by omega)]; exact h9 e q1 (by omega), fun v q1 q2 => ?_⟩
      have q1 : v0 + γ 5 n ≤ v := q1
      rw [r 5 n (by omega)] at q1
      have c := X.2.1 v q1 q2
      obtain ⟨t, t1, t2, t3⟩ := cntN_ex (f := γ0 18) (lo := l0) (w := v - v0) (n := (l - l0).toNat) (by omega)
      have lb := x4.2.2
      have d := h10 t t1 (by rw [ek, lb]; omega)
      rw [t3] at d
      exact d.1
    · have er := x4.1 k h2 (by omega)
      have r2 := er.1.2.1
      have r4 := er.1.2.2.2.1
      have e1 := er.2.1
      have e2 := er.2.2
      have es := h5 (by omega)
      rw [r 17 k (by omega), r 16 k (by omega)]
      refine wp_chk (by omega) (wp_sub (wp_chk (by omega) (wp_sub ?_)))
      refine w_around_L34 X h4 hn hv hb hl hP ⟨h2, by omega⟩ h11 FU γ _ h1 (Int.le_refl _) (by omega) (fun t q1 q2 => (h10 t q1 q2).1) (fun t q1 q2 => (h10 t q1 q2).2) (by omega) (fun γ1 f1 f2 f3 => ?_)
      have r1 : ∀ j k, j ≤ 28 → γ1 j k = γ0 j k := fun j k q => f1 j k (by omega) (by omega)
      have lf := er.1.2.2.1 (γ0 16 k) (Int.le_refl _) (by omega)
      have ck := X.2.2.1 (γ0 17 k) (by omega) (by omega)
      unfold f_M_around_b101
      rw [r1 16 k (by omega), r1 4 n (by omega), h4, r1 18 _ (by omega), r1 12 _ (by omega), r1 24 _ (by omega)]
      have nx : ∀ c, FlV (v1 - v0) c → wp (f_M_around_b153 (f_M_around_L7 f) γ1 n k (γ0 17 k) c (γ0 17 k)) (fun z => Fa v0 v1 P0 P γ0 z.2 ∧ AkX z.2 n v0 v1 a b P0 P) := fun c hc => by
        unfold f_M_around_b153
        refine wp_chk (by omega) (wp_sub (wp_chk (by omega) (wp_sub ?_)))
        have sf : ∀ j t, setA (setA γ1 29 (γ0 17 k) c) 30 (γ0 17 k) (γ0 17 k) j t = if j = 30 ∧ t = γ0 17 k then γ0 17 k else if j = 29 ∧ t = γ0 17 k then c else γ1 j t := fun j t => by rw [stA, stA]
        generalize setA (setA γ1 29 (γ0 17 k) c) 30 (γ0 17 k) (γ0 17 k) = γ2 at *
        have s0 : ∀ j t, (j = 29 ∨ j = 30 → t ≠ γ0 17 k) → γ2 j t = γ1 j t := fun j t q => by rw [sf, if_neg (by omega), if_neg (by omega)]
        refine w_around_L164 X h4 hn hv hb hl hP ⟨h2, by omega⟩ (by omega) FU γ2 _ (f1.tr (fun j t q1 q2 => s0 j t (by omega))) (by omega) (Int.le_refl _) (fun x q1 q2 q3 => ?_) (by omega) (fun γ3 g1 g2 g3 => ?_)
        · rcases q3 with q3 | ⟨p, p1, p2, _⟩
          · rw [q3, sf, if_neg (by omega), if_pos ⟨rfl, rfl⟩]; exact hc
          · exfalso; omega
        · unfold f_M_around_b349
          have r3 : ∀ j k, j ≤ 28 → γ3 j k = γ0 j k := fun j k q => g1 j k (by omega) (by omega)
          rw [r3 19 k (by omega)]
          refine wp_chk (by omega) (wp_sub ?_)
          refine w_around_L357 X h4 hn hv hb hl hP ⟨h2, by omega⟩ FU γ3 _ g1 (Int.le_refl _) (by omega) (by omega) (fun x q1 q2 => by omega) (by omega) (fun γ4 i1 i2 i3 => ?_)
          unfold f_M_around_b403
          refine wp_chk (by omega) (ih γ4 (k + 1) (γ0 17 k + 1) i1 h7 (by omega) (by omega) (fun q1 => x4.2.1 k h2 (by omega)) (fun q1 => ?_) (by omega) (fun e q1 q2 => ?_) (fun t q1 q2 => ?_) (by omega) (by omega))
          · rw [show k = b - 1 by omega, x11]; omega
          · by_cases q3 : e < s
            · rw [i3 29 e (by omega), i3 31 e (by omega), g3 29 e (by omega) (by omega), g3 31 e (by omega) (by omega), s0 29 e (by omega), s0 31 e (by omega), f3 29 e (by omega) (by omega), f3 31 e (by omega) (by omega)]
              exact h9 e q1 q3
            · refine ⟨?_, i2 e (by omega) (by omega)⟩
              rw [i3 29 e (by omega)]
              exact g2 e (by omega) (by omega)
          · have d := f2 t q1 q2
            exact ⟨d.1.fr (fun u => by rw [i3 16 u (by omega), g3 16 u (by omega) (by omega), s0 16 u (by omega)]) (fun u => by rw [i3 18 u (by omega), g3 18 u (by omega) (by omega), s0 18 u (by omega)]) (by rw [i3 32 _ (by omega), g3 32 _ (by omega) (by omega), s0 32 _ (by omega)]) (by rw [i3 33 _ (by omega), g3 33 _ (by omega) (by omega), s0 33 _ (by omega)]), d.2⟩
      refine wp_chk (by omega) (wp_chk (by omega) (wp_chk (by omega) (wp_chk (by omega) (wp_chk (by omega) (wp_sub (wp_chk (by omega) (wp_ite (fun q2 => wp_chk (by omega) (nx _ ?_)) (fun q2 => nx _ ?_))))))))
      · rcases ck with c | c | c
        · exact absurd c q2
        · exact Or.inl c
        · exact Or.inr c
      · rcases (x2 (v0 + γ0 18 (γ0 16 k)) (by omega) (by omega)).1 with c | c
        · exact Or.inl c
        · exact Or.inr (by omega)
theorem w_around {γ0 : St} {n v0 v1 a b l0 l P0 P : Int} (X : NdX γ0 n v0 v1 a b l0 l P0 P) (h4 : γ0 4 n = v0) (hn : 0 ≤ n ∧ n ≤ 58) (hv : v1 ≤ 6000) (hb : b ≤ 16000) (hl : l ≤ 65000) (hP : P ≤ 65000) (h7 : γ0 7 n = a) (h7' : γ0 7 (n + 1) = b) : wp (f_M_around γ0 n) (fun z => Fa v0 v1 P0 P γ0 z.2 ∧ AkX z.2 n v0 v1 a b P0 P) := by
  have := FU_v
  have ⟨x1, x2, x3, x4, x5, x6, x7, x8, x9, x10, x11, x12, x13, x14, x15⟩ := X.1
  unfold f_M_around
  rw [h7]
  exact wp_chk (by omega) (wp_sub (w_around_L7 X h4 hn hv hb hl hP FU γ0 a P0 (fun _ _ _ _ => rfl) h7' (Int.le_refl _) (by omega) (fun _ => x9) (fun q => by omega) (Int.le_refl _) (fun e q1 q2 => by omega) (fun t q1 q2 => by omega) (by omega) (by omega)))
