/-! equality: names -/
section PC
variable {α : Type}
theorem pc_n {P : α → Prop} : pc none P := fun _ e => absurd e (by intro h; cases h)
theorem pc_s {y : α} {P : α → Prop} (h : P y) : pc (some y) P := fun _ e => by cases e; exact h
theorem pc_c {c : Prop} {inst : Decidable c} {o : Option α} {P : α → Prop} (h : c → pc o P) : pc (@chk c α inst o) P := fun y e => by
  have k := chk_e e
  exact h k.1 y k.2
theorem pc_i {c : Prop} {inst : Decidable c} {a b : Option α} {P : α → Prop} (h1 : c → pc a P) (h2 : ¬ c → pc b P) : pc (@ite _ c inst a b) P := by
  by_cases q : c
  · rw [if_pos q]; exact h1 q
  · rw [if_neg q]; exact h2 q
theorem pc_b {c : Option (Int × St)} {K : Int → St → Option α} {P : Int × St → Prop} {Q : α → Prop} (h : pc c P) (k : ∀ r γ', P (r, γ') → pc (K r γ') Q) : pc (bndN c K) Q := fun y e => by
  match c, h, e with
  | some (r, γ'), h, e => exact k r γ' (h _ rfl) y e
theorem pc_m {o : Option α} {P Q : α → Prop} (h : pc o P) (k : ∀ y, P y → Q y) : pc o Q := fun y e => k y (h y e)
theorem pc_y {c : Option (Int × St)} {K : Int → St → Option α} {γ' : St} {P : Prop} {Q : α → Prop} (h : pc c (Yn γ' P)) (h1 : P → pc (K 1 γ') Q) (h0 : ¬ P → pc (K 0 γ') Q) : pc (bndN c K) Q := fun y e => by
  match c, h, e with
  | some z, h, e =>
    rcases h _ rfl with ⟨e2, q⟩ | ⟨e2, q⟩
    · rw [e2] at e; exact h1 q y e
    · rw [e2] at e; exact h0 q y e
end PC
theorem spelled_L17_pc {γ : St} {p m : Int} : ∀ (n : Nat) (x : Int), 0 ≤ x → (∀ i, 0 ≤ i → i < x → γ 1 (p + i) = γ 1 (γ 0 7 + i)) → pc (f_M_spelled_L17 n γ p m x) (Yn γ (spQ (γ 1) p (γ 0 7) m)) := by
  intro n
  induction n with
  | zero => intro x _ _; exact pc_n
  | succ n ih =>
    intro x hx h
    unfold f_M_spelled_L17
    refine pc_i (fun q => pc_s (Or.inl ⟨rfl, fun i a b => h i a (by omega)⟩)) (fun q => pc_c (fun _ => pc_c (fun _ => pc_c (fun _ => pc_c (fun _ => pc_i (fun q2 => pc_c (fun _ => ih (x + 1) (by omega) (fun i a b => ?_))) (fun q2 => pc_s (Or.inr ⟨rfl, fun r => q2 (r x hx (by omega))⟩)))))))
    by_cases e : i = x
    · rw [e]; exact q2
    · exact h i a (by omega)
theorem spelled_pc {γ : St} {p m : Int} : pc (f_M_spelled γ p m) (Yn γ (sameQ γ p m)) := by
  unfold f_M_spelled
  refine pc_c (fun _ => pc_i (fun q => pc_m (spelled_L17_pc FU 0 (by omega) (fun i a b => by omega)) (fun y k => k.im ⟨fun r => ⟨q, r⟩, fun r => r.2⟩)) (fun q => pc_s (Or.inr ⟨rfl, fun r => q r.1⟩)))
theorem vHere_L10_pc {γ : St} {lo hi : Int} : ∀ (n : Nat) (x : Int), lo ≤ x → (∀ v, lo ≤ v → v < x → ¬ sameQ γ (γ 10 v) (γ 11 v)) → pc (f_M_variableHere_L10 n γ hi x) (fun z => ∃ r, z = (r, γ) ∧ Fnd γ 10 11 lo hi r) := by
  intro n
  induction n with
  | zero => intro x _ _; exact pc_n
  | succ n ih =>
    intro x hx h
    unfold f_M_variableHere_L10
    refine pc_i (fun q => pc_s ⟨_, rfl, Or.inl ⟨rfl, fun v a b => h v a (by omega)⟩⟩) (fun q => pc_c (fun _ => pc_c (fun _ => pc_y spelled_pc (fun s => ?_) (fun s => ?_))))
    · rw [if_neg (by decide)]
      exact pc_s ⟨_, rfl, Or.inr ⟨⟨hx, by omega⟩, s, h⟩⟩
    · rw [if_pos rfl]
      refine pc_c (fun _ => ih (x + 1) (by omega) (fun v a b => ?_))
      by_cases e : v = x
      · rw [e]; exact s
      · exact h v a (by omega)
theorem vHere_pc {γ : St} {hi : Int} : pc (f_M_variableHere γ hi) (fun z => ∃ r, z = (r, γ) ∧ Fnd γ 10 11 (γ 4 (γ 0 18)) hi r) := by
  unfold f_M_variableHere
  exact pc_c (fun _ => vHere_L10_pc FU _ (Int.le_refl _) (fun v a b => by omega))
theorem nHere_L2_pc {γ : St} : ∀ (n : Nat) (x : Int), 0 ≤ x → (∀ v, 0 ≤ v → v < x → ¬ sameQ γ (γ 2 v) (γ 3 v)) → pc (f_M_nodeHere_L2 n γ x) (fun z => ∃ r, z = (r, γ) ∧ Fnd γ 2 3 0 (γ 0 18) r) := by
  intro n
  induction n with
  | zero => intro x _ _; exact pc_n
  | succ n ih =>
    intro x hx h
    unfold f_M_nodeHere_L2
    refine pc_i (fun q => pc_s ⟨_, rfl, Or.inl ⟨rfl, fun v a b => h v a (by omega)⟩⟩) (fun q => pc_c (fun _ => pc_c (fun _ => pc_y spelled_pc (fun s => ?_) (fun s => ?_))))
    · rw [if_neg (by decide)]
      exact pc_s ⟨_, rfl, Or.inr ⟨⟨hx, by omega⟩, s, h⟩⟩
    · rw [if_pos rfl]
      refine pc_c (fun _ => ih (x + 1) (by omega) (fun v a b => ?_))
      by_cases e : v = x
      · rw [e]; exact s
      · exact h v a (by omega)
theorem nHere_pc {γ : St} : pc (f_M_nodeHere γ) (fun z => ∃ r, z = (r, γ) ∧ Fnd γ 2 3 0 (γ 0 18) r) := by
  unfold f_M_nodeHere
  exact nHere_L2_pc FU 0 (by omega) (fun v a b => by omega)
/-- the word at hand -/
def wdN (γ : St) : Int := γ 16 (γ 1 6)
/-- the word w, spelled as at p, is the one at hand -/
theorem LexR.same {N : Int} {γ δ : St} (hx : LexR N γ δ) (k1 : tK δ = 1) {w p m : Int} (hw : 0 ≤ w ∧ w < γ 2 8) (hp : 0 ≤ p ∧ p + m ≤ δ 0 1) (hs : spW γ w p m) : sameQ (pkS δ) p m ↔ w = wdN γ := by
  have c := hx.2.2.1.1
  have a := hx.wd k1
  have tl := hx.1.te2
  have s := hx.s0
  unfold sameQ spQ
  rw [pk_7, pk_8, pkS_1]
  constructor
  · rintro ⟨q1, q2⟩
    refine c.1.one hw.1 hw.2 a.1.1 a.1.2 ⟨by rw [hs.1]; exact q1, fun i r1 r2 => ?_⟩ a.2.1
    rw [hs.2 i r1 (by omega), ← hx.2.1 _ (by omega) (by omega), q2 i r1 (by omega), hx.2.1 _ (by omega) (by omega)]
  · intro e
    rw [e] at hs
    have b : spW γ (wdN γ) (sk δ) (tE δ - sk δ) := a.2.1
    have em : m = tE δ - sk δ := hs.1.symm.trans b.1
    refine ⟨em, fun i r1 r2 => ?_⟩
    rw [hx.2.1 _ (by omega) (by omega), hx.2.1 _ (by omega) (by omega), ← hs.2 i r1 r2, b.2 i r1 (by omega)]
/-- the present node's names -/
def NmR (γ δ : St) : Prop := (∀ w, 0 ≤ w → w < γ 2 8 → γ 22 w = δ 0 18 + 1 → (0 ≤ γ 21 w ∧ δ 4 (δ 0 18) + γ 21 w < δ 0 19) ∧ spW γ w (δ 10 (δ 4 (δ 0 18) + γ 21 w)) (δ 11 (δ 4 (δ 0 18) + γ 21 w))) ∧ (∀ v, δ 4 (δ 0 18) ≤ v → v < δ 0 19 → (0 ≤ δ 10 v ∧ δ 10 v + δ 11 v ≤ δ 0 1) ∧ ∃ w, (0 ≤ w ∧ w < γ 2 8) ∧ γ 22 w = δ 0 18 + 1 ∧ δ 4 (δ 0 18) + γ 21 w = v) ∧ ∀ w, 0 ≤ w → w < γ 2 8 → γ 22 w ≤ δ 0 18 + 1
/-- the nodes' names -/
def NnR (γ δ : St) : Prop := (∀ w, 0 ≤ w → w < γ 2 8 → γ 23 w ≠ 0 → (1 ≤ γ 23 w ∧ γ 23 w ≤ δ 0 18) ∧ spW γ w (δ 2 (γ 23 w - 1)) (δ 3 (γ 23 w - 1))) ∧ ∀ k, 0 ≤ k → k < δ 0 18 → (0 ≤ δ 2 k ∧ δ 2 k + δ 3 k ≤ δ 0 1) ∧ ∃ w, (0 ≤ w ∧ w < γ 2 8) ∧ γ 23 w = k + 1
theorem NmR.find {N hi r : Int} {γ δ : St} (hn : NmR γ δ) (hx : LexR N γ δ) (k1 : tK δ = 1) (hh : hi ≤ δ 0 19) (F : Fnd (pkS δ) 10 11 (δ 4 (δ 0 18)) hi r) : (γ 22 (wdN γ) = δ 0 18 + 1 ∧ (0 ≤ γ 21 (wdN γ) ∧ δ 4 (δ 0 18) + γ 21 (wdN γ) < hi) ∧ r = δ 4 (δ 0 18) + γ 21 (wdN γ)) ∨ (r = -1 ∧ (γ 22 (wdN γ) = δ 0 18 + 1 → hi ≤ δ 4 (δ 0 18) + γ 21 (wdN γ))) := by
  have a := hx.wd k1
  have ⟨n1, n2, n3⟩ := hn
  unfold Fnd at F
  rcases F with ⟨e, f⟩ | ⟨e, f, g⟩
  · refine Or.inr ⟨e, fun q => ?_⟩
    have b := n1 (wdN γ) a.1.1 a.1.2 q
    by_cases l : hi ≤ δ 4 (δ 0 18) + γ 21 (wdN γ)
    · exact l
    · have c := n2 _ (show δ 4 (δ 0 18) ≤ δ 4 (δ 0 18) + γ 21 (wdN γ) by have := b.1; omega) b.1.2
      have k := f (δ 4 (δ 0 18) + γ 21 (wdN γ)) (by have := b.1; omega) (by omega)
      rw [pkS_o δ 10 _ (by omega), pkS_o δ 11 _ (by omega)] at k
      exact absurd ((hx.same k1 a.1 c.1 b.2).2 rfl) k
  · rw [pkS_o δ 10 _ (by omega), pkS_o δ 11 _ (by omega)] at f
    have c := n2 r e.1 (by omega)
    obtain ⟨c1, w, c2, c3, c4⟩ := c
    have b := n1 w c2.1 c2.2 c3
    rw [c4] at b
    have ew := (hx.same k1 c2 c1 b.2).1 f
    rw [← ew]
    exact Or.inl ⟨c3, by have := b.1; omega, c4.symm⟩
theorem NnR.find {N r : Int} {γ δ : St} (hn : NnR γ δ) (hx : LexR N γ δ) (k1 : tK δ = 1) (F : Fnd (pkS δ) 2 3 0 (δ 0 18) r) : (γ 23 (wdN γ) ≠ 0 ∧ r = γ 23 (wdN γ) - 1 ∧ 0 ≤ r ∧ r < δ 0 18) ∨ (γ 23 (wdN γ) = 0 ∧ r = -1) := by
  have a := hx.wd k1
  have ⟨n1, n2⟩ := hn
  unfold Fnd at F
  rcases F with ⟨e, f⟩ | ⟨e, f, g⟩
  · by_cases q : γ 23 (wdN γ) = 0
    · exact Or.inr ⟨q, e⟩
    · have b := n1 (wdN γ) a.1.1 a.1.2 q
      have c := n2 (γ 23 (wdN γ) - 1) (by omega) (by omega)
      have k := f (γ 23 (wdN γ) - 1) (by omega) (by omega)
      rw [pkS_o δ 2 _ (by omega), pkS_o δ 3 _ (by omega)] at k
      exact absurd ((hx.same k1 a.1 c.1 b.2).2 rfl) k
  · rw [pkS_o δ 2 _ (by omega), pkS_o δ 3 _ (by omega)] at f
    have c := n2 r e.1 e.2
    obtain ⟨c1, w, c2, c3⟩ := c
    have b := n1 w c2.1 c2.2 (by omega)
    rw [c3, show r + 1 - 1 = r by omega] at b
    have ew := (hx.same k1 c2 c1 b.2).1 f
    rw [← ew]
    exact Or.inl ⟨by omega, by omega, e⟩
