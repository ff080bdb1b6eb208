/-! equality: declarations -/
theorem pc_a {α β : Type} {x : α} {k : α → Option β} {P : β → Prop} (h : pc (k x) P) : pc (ap x k) P := h
theorem pq_al {α β ζ : Type} {x : ζ} {k : ζ → Option α} {m : Option β} {Q : α → β → Prop} (h : pq (k x) m Q) : pq (ap x k) m Q := h
theorem pq_ar {α β ζ : Type} {x : ζ} {k : ζ → Option β} {o : Option α} {Q : α → β → Prop} (h : pq o (k x) Q) : pq o (ap x k) Q := h
def VrR (γ δ : St) : Prop := γ 3 9 = δ 0 18 ∧ γ 3 15 = δ 0 19 ∧ γ 25 (δ 0 18) = δ 4 (δ 0 18) ∧ γ 28 (δ 0 18) = δ 0 19 - δ 4 (δ 0 18) ∧ 0 ≤ δ 4 (δ 0 18) ∧ δ 4 (δ 0 18) ≤ δ 0 19
def VdR (t : Int) (γ δ : St) : Prop := ∀ v, 0 ≤ v → v < δ 0 19 → γ 34 v = δ 12 v ∧ γ 36 v = δ 13 v ∧ (v < t → γ 33 v = δ 14 v ∧ (δ 14 v = 0 ∨ δ 14 v = 1))
def DpR (γ δ : St) : Prop := ∀ v, δ 4 (δ 0 18) ≤ v → v < δ 0 19 → (0 ≤ γ 35 v ∧ γ 35 v ≤ 8) ∧ (δ 12 v = -1 ∧ γ 35 v = 0 ∨ (0 ≤ δ 12 v ∧ δ 12 v ≤ 2147483647 ∧ δ 4 (δ 0 18) + δ 12 v / 2 < v) ∧ γ 35 v = γ 35 (δ 4 (δ 0 18) + δ 12 v / 2) + 1)
/-- both read the declarations of a node; types are known up to t -/
def DcR (N t : Int) (γ δ : St) : Prop := LxR N γ δ ∧ NmR γ δ ∧ NnR γ δ ∧ VrR γ δ ∧ VdR t γ δ ∧ DpR γ δ
theorem DcR.fr {N t : Int} {γ γ' δ δ' : St} (h : DcR N t γ δ) (l : LxR N γ' δ') (e : ∀ j k, j ≠ 1 → γ' j k = γ j k) (d : ∀ j k, (j ≠ 0 ∨ k < 5 ∨ 9 < k) → δ' j k = δ j k) : DcR N t γ' δ' := by
  have ⟨h1, h2, h3, h4, h5, h6⟩ := h
  have er : ∀ j, j ≠ 1 → γ' j = γ j := fun j q => funext fun k => e j k q
  have dr : ∀ j, j ≠ 0 → δ' j = δ j := fun j q => funext fun k => d j k (by omega)
  refine ⟨l, ?_, ?_, ?_, ?_, ?_⟩
  · unfold NmR spW at h2 ⊢
    rw [er 13 (by omega), er 18 (by omega), er 19 (by omega), er 22 (by omega), er 21 (by omega), er 2 (by omega), dr 4 (by omega), dr 10 (by omega), dr 11 (by omega), d 0 18 (by omega), d 0 19 (by omega), d 0 1 (by omega)]
    exact h2
  · unfold NnR spW at h3 ⊢
    rw [er 13 (by omega), er 18 (by omega), er 19 (by omega), er 23 (by omega), er 2 (by omega), dr 2 (by omega), dr 3 (by omega), d 0 18 (by omega), d 0 1 (by omega)]
    exact h3
  · unfold VrR at h4 ⊢
    rw [er 3 (by omega), er 25 (by omega), er 28 (by omega), dr 4 (by omega), d 0 18 (by omega), d 0 19 (by omega)]
    exact h4
  · unfold VdR at h5 ⊢
    rw [er 34 (by omega), er 36 (by omega), er 33 (by omega), dr 12 (by omega), dr 13 (by omega), dr 14 (by omega), d 0 19 (by omega)]
    exact h5
  · unfold DpR at h6 ⊢
    rw [er 35 (by omega), dr 12 (by omega), dr 4 (by omega), d 0 18 (by omega), d 0 19 (by omega)]
    exact h6
theorem DcR.pk {N t : Int} {γ δ : St} (h : DcR N t γ δ) : DcR N t γ (pkS δ) := h.fr h.1.pk (fun _ _ _ => rfl) (fun j k q => pkS_o δ j k q)
theorem DcR.tk {N t : Int} {γ δ : St} (h : DcR N t γ δ) (k0 : tK δ ≠ 0) (k3 : tK δ ≠ 3) : DcR N t (nxS γ) (tkS δ) := h.fr (h.1.tk k0 k3) (fun j k q => nxS_o γ (by omega)) (fun j k q => tkS_o δ j k q)
theorem tK_fr {δ δ' : St} (d1 : δ' 1 = δ 1) (d : ∀ k, k = 1 ∨ k = 5 → δ' 0 k = δ 0 k) : tK δ' = tK δ ∧ tE δ' = tE δ ∧ sk δ' = sk δ := by
  have s : sk δ' = sk δ := by
    show skpF (δ' 1) (δ' 0 1) FU (δ' 0 5) = skpF (δ 1) (δ 0 1) FU (δ 0 5)
    rw [d1, d 1 (by omega), d 5 (by omega)]
  refine ⟨?_, ?_, s⟩
  · unfold tK; rw [s, d1, d 1 (by omega)]
  · unfold tE; rw [s, d1, d 1 (by omega)]
/-- the class's rows but for declarations -/
def FcD (v0 g : Int) (γ γ' : St) : Prop := ∀ j k, (j = 1 → k < 5 ∨ 8 < k) → j ≠ 21 → j ≠ 22 → (j = 28 → k ≠ g) → (33 ≤ j → j ≤ 37 → k < v0) → (j = 3 → k ≠ 15) → γ' j k = γ j k
theorem FcD.rf {v0 g : Int} {γ : St} : FcD v0 g γ γ := fun _ _ _ _ _ _ _ _ => rfl
theorem FcD.tr {v0 v1 g : Int} {γ γ' γ'' : St} (h : FcD v0 g γ γ') (k : FcD v1 g γ' γ'') (hv : v0 ≤ v1) : FcD v0 g γ γ'' := fun j i h1 h2 h3 h4 h5 h6 => (k j i h1 h2 h3 h4 (fun a b => by have := h5 a b; omega) h6).trans (h j i h1 h2 h3 h4 h5 h6)
theorem FcD.nx {v0 g : Int} {γ : St} : FcD v0 g γ (nxS γ) := fun j k h1 _ _ _ _ _ => nxS_o γ (by omega)
theorem Fg.tr2 {v0 v1 : Int} {γ γ' γ'' : St} (h : Fg v0 γ γ') (k : Fg v1 γ' γ'') (hv : v0 ≤ v1) : Fg v0 γ γ'' := fun j i h1 h2 => (k j i h1 (fun a b => by have := h2 a b; omega)).trans (h j i h1 h2)
theorem Fg.rf {v0 : Int} {γ : St} : Fg v0 γ γ := fun _ _ _ _ => rfl
theorem Fg.pk {v0 : Int} {γ : St} : Fg v0 γ (pkS γ) := fun j k h1 _ => pkS_o γ j k (by omega)
theorem Fg.tk {v0 : Int} {γ : St} : Fg v0 γ (tkS γ) := fun j k h1 _ => tkS_o γ j k (by omega)
/-- a name is declared: the class -/
def nnS (γ : St) : St := fun j k => if j = 21 ∧ k = wdN γ then γ 28 (γ 3 9) else if j = 28 ∧ k = γ 3 9 then γ 28 (γ 3 9) + 1 else if j = 3 ∧ k = 15 then γ 3 15 + 1 else if (j = 35 ∨ j = 36 ∨ j = 37) ∧ k = γ 3 15 then 0 else if j = 34 ∧ k = γ 3 15 then -1 else if j = 22 ∧ k = wdN γ then γ 3 9 + 1 else γ j k
/-- a name is declared: the reference -/
def nnD (δ : St) : St := fun j k => if j = 0 ∧ k = 19 then δ 0 19 + 1 else if j = 13 ∧ k = δ 0 19 then 0 else if j = 12 ∧ k = δ 0 19 then -1 else if j = 11 ∧ k = δ 0 19 then tE δ - sk δ else if j = 10 ∧ k = δ 0 19 then sk δ else pkS δ j k
theorem nnS_o (γ : St) {j : Nat} {k : Int} (h : j < 21 ∨ j = 23 ∨ 23 < j ∧ j < 28 ∨ 28 < j ∧ j < 34 ∨ 37 < j) (h3 : j = 3 → k ≠ 15) : nnS γ j k = γ j k := by
  show (if _ then _ else _) = _
  repeat rw [if_neg (by omega)]
theorem nnD_o (δ : St) {j : Nat} {k : Int} (h : j < 10 ∨ 13 < j) (h3 : j = 0 → k ≠ 19) : nnD δ j k = pkS δ j k := by
  show (if _ then _ else _) = _
  repeat rw [if_neg (by omega)]
theorem nnS_w (γ : St) {j : Nat} {w : Int} (hj : j = 21 ∨ j = 22) (h : w ≠ wdN γ) : nnS γ j w = γ j w := by
  show (if _ then _ else _) = _
  repeat rw [if_neg (by omega)]
theorem nnS_v (γ : St) {j : Nat} {v : Int} (hj : 34 ≤ j ∧ j ≤ 37) (h : v ≠ γ 3 15) : nnS γ j v = γ j v := by
  show (if _ then _ else _) = _
  repeat rw [if_neg (by omega)]
theorem nnD_v (δ : St) {j : Nat} {v : Int} (hj : 10 ≤ j ∧ j ≤ 13) (h : v ≠ δ 0 19) : nnD δ j v = δ j v := by
  show (if _ then _ else _) = _
  rw [if_neg (by omega), if_neg (by omega), if_neg (by omega), if_neg (by omega), if_neg (by omega), pkS_o δ j v (by omega)]
theorem DcR.nn {N t : Int} {γ δ : St} (h : DcR N t γ δ) (k1 : tK δ = 1) (ho : γ 22 (wdN γ) ≠ δ 0 18 + 1) (ht : t ≤ δ 0 19) : DcR N t (nnS γ) (nnD δ) := by
  have ⟨h1, ⟨n1, n2, n3⟩, ⟨m1, m2⟩, ⟨r1, r2, r3, r4, r5, r6⟩, h5, h6⟩ := h
  have a := h1.1.wd k1
  have tl := h1.1.1.te2
  have s0 := h1.1.s0
  have c18 : nnD δ 0 18 = δ 0 18 := (nnD_o δ (by omega) (by omega)).trans (pkS_o δ 0 18 (by omega))
  have c1 : nnD δ 0 1 = δ 0 1 := (nnD_o δ (by omega) (by omega)).trans (pkS_o δ 0 1 (by omega))
  have c4 : nnD δ 4 = δ 4 := funext fun k => (nnD_o δ (by omega) (by omega)).trans (pkS_o δ 4 k (by omega))
  have c19 : nnD δ 0 19 = δ 0 19 + 1 := by show (if _ then _ else _) = _; rw [if_pos ⟨rfl, rfl⟩]
  have c13 : nnD δ 13 (δ 0 19) = 0 := by show (if _ then _ else _) = _; rw [if_neg (by omega), if_pos ⟨rfl, rfl⟩]
  have c12 : nnD δ 12 (δ 0 19) = -1 := by show (if _ then _ else _) = _; rw [if_neg (by omega), if_neg (by omega), if_pos ⟨rfl, rfl⟩]
  have c11 : nnD δ 11 (δ 0 19) = tE δ - sk δ := by show (if _ then _ else _) = _; rw [if_neg (by omega), if_neg (by omega), if_neg (by omega), if_pos ⟨rfl, rfl⟩]
  have c10 : nnD δ 10 (δ 0 19) = sk δ := by show (if _ then _ else _) = _; rw [if_neg (by omega), if_neg (by omega), if_neg (by omega), if_neg (by omega), if_pos ⟨rfl, rfl⟩]
  have e21 : nnS γ 21 (wdN γ) = δ 0 19 - δ 4 (δ 0 18) := by show (if _ then _ else _) = _; rw [if_pos ⟨rfl, rfl⟩, r1, r4]
  have e22 : nnS γ 22 (wdN γ) = δ 0 18 + 1 := by show (if _ then _ else _) = _; (repeat rw [if_neg (by omega)]); rw [if_pos ⟨rfl, rfl⟩, r1]
  have e8 : nnS γ 2 8 = γ 2 8 := nnS_o γ (by omega) (by omega)
  have sp : ∀ w p n, spW (nnS γ) w p n ↔ spW γ w p n := fun w p n => spW_fr (fun k => nnS_o γ (by omega) (by omega)) (nnS_o γ (by omega) (by omega)) (nnS_o γ (by omega) (by omega))
  refine ⟨h1.pk.fr (fun j k q => nnS_o γ (by omega) (by omega)) (fun k _ _ => nnS_o γ (by omega) (by omega)) e8 (funext fun k => nnD_o δ (by omega) (by omega)) (fun k _ => nnD_o δ (by omega) (by omega)), ⟨?_, ?_, ?_⟩, ⟨?_, ?_⟩, ?_, ?_, ?_⟩
  · rw [e8, c18, c4, c19]
    intro w q1 q2 q3
    rw [sp]
    by_cases q : w = wdN γ
    · rw [q, e21, show δ 4 (δ 0 18) + (δ 0 19 - δ 4 (δ 0 18)) = δ 0 19 by omega, c10, c11]
      exact ⟨by omega, a.2.1⟩
    · rw [nnS_w γ (Or.inr rfl) q] at q3
      rw [nnS_w γ (Or.inl rfl) q]
      have b := n1 w q1 q2 q3
      rw [nnD_v δ (by omega) (by omega), nnD_v δ (by omega) (by omega)]
      exact ⟨by omega, b.2⟩
  · rw [e8, c18, c4, c19, c1]
    intro v q1 q2
    by_cases q : v = δ 0 19
    · rw [q, c10, c11]
      exact ⟨by omega, wdN γ, a.1, e22, by rw [e21]; omega⟩
    · rw [nnD_v δ (by omega) q, nnD_v δ (by omega) q]
      obtain ⟨b1, w, b2, b3, b4⟩ := n2 v q1 (by omega)
      have nw : w ≠ wdN γ := fun r => ho (by rw [← r]; exact b3)
      exact ⟨b1, w, b2, by rw [nnS_w γ (Or.inr rfl) nw]; exact b3, by rw [nnS_w γ (Or.inl rfl) nw]; exact b4⟩
  · rw [e8, c18]
    intro w q1 q2
    by_cases q : w = wdN γ
    · rw [q, e22]; exact Int.le_refl _
    · rw [nnS_w γ (Or.inr rfl) q]; exact n3 w q1 q2
  · rw [e8, c18]
    intro w q1 q2
    rw [nnS_o γ (by omega) (by omega), sp, nnD_o δ (by omega) (by omega), pkS_o δ 2 _ (by omega), nnD_o δ (by omega) (by omega), pkS_o δ 3 _ (by omega)]
    exact m1 w q1 q2
  · rw [e8, c18, c1]
    intro k q1 q2
    rw [nnD_o δ (by omega) (by omega), pkS_o δ 2 _ (by omega), nnD_o δ (by omega) (by omega), pkS_o δ 3 _ (by omega)]
    obtain ⟨b1, w, b2, b3⟩ := m2 k q1 q2
    exact ⟨b1, w, b2, by rw [nnS_o γ (by omega) (by omega)]; exact b3⟩
  · have g9 : nnS γ 3 9 = γ 3 9 := nnS_o γ (by omega) (by omega)
    have g15 : nnS γ 3 15 = γ 3 15 + 1 := by show (if _ then _ else _) = _; rw [if_neg (by omega), if_neg (by omega), if_pos ⟨rfl, rfl⟩]
    have g25 : nnS γ 25 (δ 0 18) = γ 25 (δ 0 18) := nnS_o γ (by omega) (by omega)
    have g28 : nnS γ 28 (δ 0 18) = γ 28 (δ 0 18) + 1 := by rw [← r1]; show (if _ then _ else _) = _; rw [if_neg (by omega), if_pos ⟨rfl, rfl⟩]
    unfold VrR
    rw [g9, g15, c18, c4, c19, g25, g28]
    exact ⟨r1, by omega, r3, by omega, r5, by omega⟩
  · unfold VdR
    rw [c19]
    intro v q1 q2
    by_cases q : v = δ 0 19
    · rw [q, c12, c13]
      refine ⟨?_, ?_, fun q3 => by omega⟩
      · rw [← r2]; show (if _ then _ else _) = _; (repeat rw [if_neg (by omega)]); rw [if_pos ⟨rfl, rfl⟩]
      · rw [← r2]; show (if _ then _ else _) = _; rw [if_neg (by omega), if_neg (by omega), if_neg (by omega), if_pos ⟨by omega, rfl⟩]
    · rw [nnS_v γ (by omega) (by omega), nnS_v γ (by omega) (by omega), nnS_o γ (by omega) (by omega), nnD_v δ (by omega) q, nnD_v δ (by omega) q, nnD_o δ (by omega) (by omega), pkS_o δ 14 v (by omega)]
      exact h5 v q1 (by omega)
  · unfold DpR
    rw [c19, c18, c4]
    intro v q1 q2
    by_cases q : v = δ 0 19
    · have g35 : nnS γ 35 (δ 0 19) = 0 := by rw [← r2]; show (if _ then _ else _) = _; rw [if_neg (by omega), if_neg (by omega), if_neg (by omega), if_pos ⟨by omega, rfl⟩]
      rw [q, g35, c12]
      exact ⟨by omega, Or.inl ⟨rfl, rfl⟩⟩
    · have b := h6 v q1 (by omega)
      rw [nnS_v γ (by omega) (by omega), nnD_v δ (by omega) q]
      refine ⟨b.1, ?_⟩
      rcases b.2 with b | b
      · exact Or.inl b
      · rw [nnS_v γ (by omega) (by have := b.1; omega)]
        exact Or.inr b
