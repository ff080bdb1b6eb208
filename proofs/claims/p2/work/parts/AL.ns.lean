/-! the reference's nodes: what they give to what comes after -/
def psN (γ : St) (f : Int) : Int := γ 19 (γ 7 f)
def peN (γ : St) (f : Int) : Int := γ 17 (γ 7 (f + 1) - 1) + 1
def nvN (γ : St) (f : Int) : Int := γ 4 (f + 1) - γ 4 f
/-- a node, read, judged, measured -/
def NdS0 (γ : St) (f : Int) : Prop := ∃ l0 l, NdX γ f (γ 4 f) (γ 4 (f + 1)) (γ 7 f) (γ 7 (f + 1)) l0 l (psN γ f) (peN γ f) ∧ AkX γ f (γ 4 f) (γ 4 (f + 1)) (γ 7 f) (γ 7 (f + 1)) (psN γ f) (peN γ f) ∧ Wt γ f (γ 7 f) (γ 7 (f + 1)) (psN γ f) (peN γ f) ∧ γ 4 (f + 1) ≤ 6000 ∧ γ 7 (f + 1) ≤ 16000 ∧ l ≤ 65000 ∧ peN γ f ≤ 65000
theorem NdS0.rw {γ γ' : St} {f : Int} (h : NdS0 γ f) (r : ∀ j : Nat, 1 ≤ j → j ≤ 34 → ∀ k, γ' j k = γ j k) : NdS0 γ' f := by
  obtain ⟨l0, l, x, y, w, b1, b2, b3, b4⟩ := h
  have e7 := r 7 (by omega) (by omega)
  have e4 := r 4 (by omega) (by omega)
  have ep : psN γ' f = psN γ f := by unfold psN; rw [e7, r 19 (by omega) (by omega)]
  have eq : peN γ' f = peN γ f := by unfold peN; rw [e7, r 17 (by omega) (by omega)]
  unfold NdS0
  rw [ep, eq, e4, e4, e7, e7]
  refine ⟨l0, l, x.fr ⟨⟨r 1 (by omega) (by omega), fun k _ => ⟨r 15 (by omega) (by omega) k, r 17 (by omega) (by omega) k, r 19 (by omega) (by omega) k⟩, fun k _ => r 16 (by omega) (by omega) k, fun k _ => r 18 (by omega) (by omega) k, fun j q1 q2 q3 k _ => r j (by omega) (by omega) k⟩, fun g _ => ⟨r 5 (by omega) (by omega) g, r 6 (by omega) (by omega) g⟩, ⟨r 8 (by omega) (by omega) f, r 9 (by omega) (by omega) f⟩, fun v _ _ => r 12 (by omega) (by omega) v⟩ (fun e _ => r 24 (by omega) (by omega) e), ⟨fun e q1 q2 => ?_, fun v q1 q2 => ?_⟩, ?_, b1, b2, b3, b4⟩
  · rw [r 29 (by omega) (by omega), r 31 (by omega) (by omega), r 26 (by omega) (by omega)]; exact y.1 e q1 q2
  · rw [r 5 (by omega) (by omega)] at q1
    exact (y.2 v q1 q2).fr (r 16 (by omega) (by omega)) (r 18 (by omega) (by omega)) (r 32 (by omega) (by omega) _) (r 33 (by omega) (by omega) _)
  · unfold Wt
    rw [r 34 (by omega) (by omega), sumC_agree (γ := γ) (fun e _ _ => ⟨r 20 (by omega) (by omega) e, r 21 (by omega) (by omega) e, fun _ => r 34 (by omega) (by omega) _⟩)]
    exact w
theorem EqL.ge {nv nn l5 a b l P : Int} {γ : St} (h : EqL nv nn l5 a b l P γ) : ∀ (n : Nat) (k : Int), k = a + n → k < b → γ 19 a ≤ γ 19 k
  | 0, k, e, _ => by rw [show k = a by omega]; exact Int.le_refl _
  | n + 1, k, e, hk => by
    have i := EqL.ge h n (k - 1) (by omega) (by omega)
    have c := h.2.1 (k - 1) (by omega) (by omega)
    have r := (h.1 (k - 1) (by omega) (by omega)).1.2.2.2.1
    rw [show k - 1 + 1 = k by omega] at c
    omega
theorem EqL.loc {nv nn l5 a b l P e : Int} {γ : St} (h : EqL nv nn l5 a b l P γ) (h17 : γ 17 (b - 1) = P - 1) (he : e < P) : ∀ (n : Nat) (k : Int), a ≤ k → k < b → b - k ≤ n → γ 19 k ≤ e → ∃ i, a ≤ i ∧ i < b ∧ γ 19 i ≤ e ∧ e ≤ γ 17 i
  | 0, k, _, _, q, _ => by exfalso; omega
  | n + 1, k, q1, q2, q3, q4 => by
    by_cases c : e ≤ γ 17 k
    · exact ⟨k, q1, q2, q4, c⟩
    · by_cases d : k + 1 < b
      · exact EqL.loc h h17 he n (k + 1) (by omega) d (by omega) (by rw [h.2.1 k q1 d]; omega)
      · exfalso
        rw [show b - 1 = k by omega] at h17
        omega
/-- a part of the node f -/
def PtF (γ : St) (f e : Int) : Prop := ∃ ks, Ch (γ 23) (γ 22 e) ks ∧ Sg (γ 26) (e + 1 - γ 26 e) ks e ∧ psN γ f ≤ e + 1 - γ 26 e ∧ aryK (γ 20 e) ks.length ∧ whK (nvN γ f) f (γ 20 e) (γ 21 e) ∧ FlV (nvN γ f) (γ 29 e) ∧ γ 31 e = e + 1 - γ 26 e ∧ (γ 20 e = 3 → (ks.length : Int) = γ 5 (γ 21 e))
theorem NdS0.pt {γ : St} {f : Int} (h : NdS0 γ f) {e : Int} (h1 : psN γ f ≤ e) (h2 : e < peN γ f) : PtF γ f e := by
  obtain ⟨l0, l, x, y, w, b1, b2, b3, b4⟩ := h
  have ⟨x1, x2, x3, x4, x5, x6, x7, x8, x9, x10, x11, x12, x13, x14, x15⟩ := x.1
  obtain ⟨k, k1, k2, k3, k4⟩ := x4.loc x11 h2 ((γ 7 (f + 1) - γ 7 f).toNat) (γ 7 f) (Int.le_refl _) x3.2 (by omega) (by omega)
  obtain ⟨ks, c1, c2, c3, c4, c5, c6⟩ := (x4.1 k k1 k2).1.2.2.2.2.1 e k3 k4
  have ge := x4.ge (k - γ 7 f).toNat k (by omega) k2
  have z := y.1 e h1 h2
  refine ⟨ks, c1, c2, by omega, c4, c5, z.1, z.2, fun q => ?_⟩
  obtain ⟨ms, d1, d2, d3⟩ := x.2.2.2 k k1 k2 e k3 k4 q
  rw [Ch.uniq c1 d1]; exact d2
theorem NdS0.sz {γ : St} {f : Int} (h : NdS0 γ f) : (0 ≤ γ 4 f ∧ 1 ≤ γ 5 f ∧ 1 ≤ γ 6 f ∧ γ 4 f + γ 5 f + γ 6 f ≤ γ 4 (f + 1) ∧ γ 4 (f + 1) ≤ γ 4 f + 99 ∧ γ 4 (f + 1) ≤ 6000) ∧ (0 ≤ γ 7 f ∧ γ 7 f < γ 7 (f + 1) ∧ γ 7 (f + 1) ≤ 16000) ∧ (0 ≤ psN γ f ∧ psN γ f ≤ peN γ f ∧ peN γ f ≤ 65000) ∧ (0 ≤ γ 9 f ∧ γ 9 f ≤ 2 * (peN γ f - psN γ f)) ∧ (0 ≤ γ 8 f ∧ γ 8 f ≤ peN γ f - psN γ f) := by
  obtain ⟨l0, l, x, y, w, b1, b2, b3, b4⟩ := h
  have ⟨x1, x2, x3, x4, x5, x6, x7, x8, x9, x10, x11, x12, x13, x14, x15⟩ := x.1
  omega
theorem NdS0.ck {γ : St} {f : Int} (h : NdS0 γ f) {v : Int} (h1 : γ 4 f ≤ v) (h2 : v < γ 4 (f + 1)) : FlV (nvN γ f) (γ 12 v) := by
  obtain ⟨l0, l, x, y, w, b1, b2, b3, b4⟩ := h
  have x2 := (x.1.2.1 v h1 h2).1
  unfold nvN
  rcases x2 with c | c
  · exact Or.inl c
  · exact Or.inr (by omega)
theorem NdS0.st {γ : St} {f : Int} (h : NdS0 γ f) {e : Int} (h1 : psN γ f ≤ e) (h2 : e < peN γ f) (q : 0 < stw (γ 20 e)) : 0 ≤ γ 25 e ∧ γ 25 e + stw (γ 20 e) ≤ γ 9 f := by
  obtain ⟨l0, l, x, y, w, b1, b2, b3, b4⟩ := h
  have o := x.1.2.2.2.2.2.2.1 e h1 h2 q
  exact ⟨o.1, o.2.1⟩
theorem NdS0.cl {γ : St} {f : Int} (h : NdS0 γ f) {e : Int} (h1 : psN γ f ≤ e) (h2 : e < peN γ f) (q : γ 20 e = 3) : (0 ≤ γ 25 e ∧ γ 25 e < γ 8 f) ∧ ∀ e', psN γ f ≤ e' → e' < peN γ f → γ 20 e' = 3 → γ 25 e' = γ 25 e → e' = e := by
  obtain ⟨l0, l, x, y, w, b1, b2, b3, b4⟩ := h
  have cw : ∀ x, x = 3 → clw x = 1 := fun x q => by unfold clw; rw [if_pos q]
  have o := x.1.2.2.2.2.2.2.2.1
  have c := cw _ q
  have o1 := o e h1 h2 (by omega)
  refine ⟨⟨o1.1, by have := o1.2.1; omega⟩, fun e' r1 r2 r3 r4 => ?_⟩
  have c' := cw _ r3
  have o2 := o e' r1 r2 (by omega)
  by_cases q1 : e < e'
  · have := o1.2.2 e' q1 r2 (by omega); omega
  · by_cases q2 : e' < e
    · have := o2.2.2 e q2 h2 (by omega); omega
    · omega
theorem NdS0.eq {γ : St} {f : Int} (h : NdS0 γ f) {k : Int} (h1 : γ 7 f ≤ k) (h2 : k < γ 7 (f + 1)) : psN γ f ≤ γ 19 k ∧ γ 19 k ≤ γ 17 k ∧ γ 17 k < peN γ f ∧ γ 26 (γ 17 k) = γ 17 k + 1 - γ 19 k ∧ (0 ≤ γ 15 k ∧ γ 15 k ≤ 10240) ∧ (γ 20 (γ 17 k) = 3 → γ 16 (k + 1) - γ 16 k = γ 6 (γ 21 (γ 17 k))) ∧ (k + 1 < γ 7 (f + 1) → γ 19 (k + 1) = γ 17 k + 1) ∧ (k + 1 = γ 7 (f + 1) → γ 17 k + 1 = peN γ f) := by
  obtain ⟨l0, l, x, y, w, b1, b2, b3, b4⟩ := h
  have ⟨x1, x2, x3, x4, x5, x6, x7, x8, x9, x10, x11, x12, x13, x14, x15⟩ := x.1
  have er := x4.1 k h1 h2
  have r4 := er.1.2.2.2.1
  have ge := x4.ge (k - γ 7 f).toNat k (by omega) h2
  refine ⟨by omega, r4.2.1, er.2.2, r4.2.2, er.1.1, fun q => ?_, fun q => x4.2.1 k h1 q, fun q => ?_⟩
  · obtain ⟨ms, d1, d2, d3⟩ := x.2.2.2 k h1 h2 (γ 17 k) r4.2.1 (Int.le_refl _) q
    rw [if_pos rfl] at d3
    exact d3
  · unfold peN; rw [← q]; simp
theorem NdS0.df {γ : St} {f : Int} (h : NdS0 γ f) {v : Int} (h1 : γ 4 f + γ 5 f ≤ v) (h2 : v < γ 4 (f + 1)) : (γ 7 f ≤ γ 32 v ∧ γ 32 v < γ 7 (f + 1)) ∧ 0 ≤ γ 33 v ∧ γ 33 v ≤ 65000 ∧ (γ 20 (γ 17 (γ 32 v)) = 3 → γ 33 v < γ 6 (γ 21 (γ 17 (γ 32 v)))) := by
  have hh := h
  obtain ⟨l0, l, x, y, w, b1, b2, b3, b4⟩ := h
  have ⟨x1, x2, x3, x4, x5, x6, x7, x8, x9, x10, x11, x12, x13, x14, x15⟩ := x.1
  obtain ⟨k, i, c1, c2, c3, c4, c5⟩ := y.2 v h1 h2
  rw [show γ 4 f + (v - γ 4 f) = v by omega] at c4 c5
  have er := x4.1 k c1.1 c1.2
  have r2 := er.1.2.1
  have e1 := er.2.1
  rw [c4, c5]
  refine ⟨c1, by omega, by omega, fun q => ?_⟩
  have := (NdS0.eq hh c1.1 c1.2).2.2.2.2.2.1 q
  omega
theorem NdS0.wt {γ : St} {f : Int} (h : NdS0 γ f) : (0 ≤ γ 34 f ∧ γ 34 f ≤ 100000) ∧ (γ 34 f < 100000 → γ 34 f = (γ 7 (f + 1) - γ 7 f) + (peN γ f - psN γ f) + sumC γ (psN γ f) (peN γ f - psN γ f).toNat) := by
  obtain ⟨l0, l, x, y, w, b1, b2, b3, b4⟩ := h
  exact w
theorem NdS0.c0 {γ : St} {f : Int} (h : NdS0 γ f) {v : Int} (h1 : γ 4 f ≤ v) (h2 : v < γ 4 f + γ 5 f + γ 6 f) : γ 12 v = -1 := by
  have sz := NdS0.sz h
  obtain ⟨l0, l, x, y, w, b1, b2, b3, b4⟩ := h
  exact (x.1.2.1 v h1 (by omega)).2 h2
/-- the state with another tape -/
def rT (γ : St) (t : Int → Int) : St := fun j => if j = 1 then t else γ j
theorem rT_s (γ : St) : rT γ (γ 1) = γ := by
  funext j k
  unfold rT
  by_cases q : j = 1
  · rw [if_pos q, q]
  · rw [if_neg q]
/-- a node, whatever is on the tape now -/
def NdS (γ : St) (f : Int) : Prop := ∃ t, NdS0 (rT γ t) f
theorem NdS0.nd {γ : St} {f : Int} (h : NdS0 γ f) : NdS γ f := ⟨γ 1, by rw [rT_s]; exact h⟩
theorem NdS.rw {γ γ' : St} {f : Int} (h : NdS γ f) (r : ∀ j : Nat, 2 ≤ j → j ≤ 34 → ∀ k, γ' j k = γ j k) : NdS γ' f := by
  obtain ⟨t, h⟩ := h
  refine ⟨t, h.rw (fun j q1 q2 k => ?_)⟩
  unfold rT
  by_cases q : j = 1
  · rw [if_pos q, if_pos q]
  · rw [if_neg q, if_neg q]; exact r j (by omega) q2 k
theorem NdS.pt {γ : St} {f : Int} (h : NdS γ f) {e : Int} (h1 : psN γ f ≤ e) (h2 : e < peN γ f) : PtF γ f e := by
  obtain ⟨t, h⟩ := h
  exact NdS0.pt (γ := rT γ t) h h1 h2
theorem NdS.sz {γ : St} {f : Int} (h : NdS γ f) : (0 ≤ γ 4 f ∧ 1 ≤ γ 5 f ∧ 1 ≤ γ 6 f ∧ γ 4 f + γ 5 f + γ 6 f ≤ γ 4 (f + 1) ∧ γ 4 (f + 1) ≤ γ 4 f + 99 ∧ γ 4 (f + 1) ≤ 6000) ∧ (0 ≤ γ 7 f ∧ γ 7 f < γ 7 (f + 1) ∧ γ 7 (f + 1) ≤ 16000) ∧ (0 ≤ psN γ f ∧ psN γ f ≤ peN γ f ∧ peN γ f ≤ 65000) ∧ (0 ≤ γ 9 f ∧ γ 9 f ≤ 2 * (peN γ f - psN γ f)) ∧ (0 ≤ γ 8 f ∧ γ 8 f ≤ peN γ f - psN γ f) := by
  obtain ⟨t, h⟩ := h
  exact NdS0.sz (γ := rT γ t) h
theorem NdS.ck {γ : St} {f : Int} (h : NdS γ f) {v : Int} (h1 : γ 4 f ≤ v) (h2 : v < γ 4 (f + 1)) : FlV (nvN γ f) (γ 12 v) := by
  obtain ⟨t, h⟩ := h
  exact NdS0.ck (γ := rT γ t) h h1 h2
theorem NdS.st {γ : St} {f : Int} (h : NdS γ f) {e : Int} (h1 : psN γ f ≤ e) (h2 : e < peN γ f) (q : 0 < stw (γ 20 e)) : 0 ≤ γ 25 e ∧ γ 25 e + stw (γ 20 e) ≤ γ 9 f := by
  obtain ⟨t, h⟩ := h
  exact NdS0.st (γ := rT γ t) h h1 h2 q
theorem NdS.cl {γ : St} {f : Int} (h : NdS γ f) {e : Int} (h1 : psN γ f ≤ e) (h2 : e < peN γ f) (q : γ 20 e = 3) : (0 ≤ γ 25 e ∧ γ 25 e < γ 8 f) ∧ ∀ e', psN γ f ≤ e' → e' < peN γ f → γ 20 e' = 3 → γ 25 e' = γ 25 e → e' = e := by
  obtain ⟨t, h⟩ := h
  exact NdS0.cl (γ := rT γ t) h h1 h2 q
theorem NdS.eq {γ : St} {f : Int} (h : NdS γ f) {k : Int} (h1 : γ 7 f ≤ k) (h2 : k < γ 7 (f + 1)) : psN γ f ≤ γ 19 k ∧ γ 19 k ≤ γ 17 k ∧ γ 17 k < peN γ f ∧ γ 26 (γ 17 k) = γ 17 k + 1 - γ 19 k ∧ (0 ≤ γ 15 k ∧ γ 15 k ≤ 10240) ∧ (γ 20 (γ 17 k) = 3 → γ 16 (k + 1) - γ 16 k = γ 6 (γ 21 (γ 17 k))) ∧ (k + 1 < γ 7 (f + 1) → γ 19 (k + 1) = γ 17 k + 1) ∧ (k + 1 = γ 7 (f + 1) → γ 17 k + 1 = peN γ f) := by
  obtain ⟨t, h⟩ := h
  exact NdS0.eq (γ := rT γ t) h h1 h2
theorem NdS.df {γ : St} {f : Int} (h : NdS γ f) {v : Int} (h1 : γ 4 f + γ 5 f ≤ v) (h2 : v < γ 4 (f + 1)) : (γ 7 f ≤ γ 32 v ∧ γ 32 v < γ 7 (f + 1)) ∧ 0 ≤ γ 33 v ∧ γ 33 v ≤ 65000 ∧ (γ 20 (γ 17 (γ 32 v)) = 3 → γ 33 v < γ 6 (γ 21 (γ 17 (γ 32 v)))) := by
  obtain ⟨t, h⟩ := h
  exact NdS0.df (γ := rT γ t) h h1 h2
theorem NdS.wt {γ : St} {f : Int} (h : NdS γ f) : (0 ≤ γ 34 f ∧ γ 34 f ≤ 100000) ∧ (γ 34 f < 100000 → γ 34 f = (γ 7 (f + 1) - γ 7 f) + (peN γ f - psN γ f) + sumC γ (psN γ f) (peN γ f - psN γ f).toNat) := by
  obtain ⟨t, h⟩ := h
  have w := NdS0.wt (γ := rT γ t) h
  refine ⟨w.1, fun q => ?_⟩
  have e := w.2 q
  have e2 : sumC (rT γ t) (psN γ f) (peN γ f - psN γ f).toNat = sumC γ (psN γ f) (peN γ f - psN γ f).toNat := sumC_agree (fun e _ _ => ⟨rfl, rfl, fun _ => rfl⟩)
  rw [← e2]
  exact e
theorem NdS.c0 {γ : St} {f : Int} (h : NdS γ f) {v : Int} (h1 : γ 4 f ≤ v) (h2 : v < γ 4 f + γ 5 f + γ 6 f) : γ 12 v = -1 := by
  obtain ⟨t, h⟩ := h
  exact NdS0.c0 (γ := rT γ t) h h1 h2
