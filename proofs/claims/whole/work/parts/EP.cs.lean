/-! equality: the reference's causes, exactly -/
def clV (δ : St) : Nat → Int → Int → Int
  | 0, _, _ => -1
  | n + 1, x, c => if c ≠ -1 then δ 38 x + idiv c 2 else if δ 36 x < 0 then -1 else clV δ n (δ 36 x) (δ 29 (δ 37 x))
def PcE (δ : St) (x root e c : Int) : Prop := δ 30 e = root ∧ (δ 20 e = 2 ∧ c = δ 38 x + δ 21 e ∨ δ 20 e = 3 ∧ e ≠ root ∧ c = outV δ x e 0 ∨ δ 20 e = 26 ∧ c = δ 38 x + idiv (δ 21 e) 2 ∨ δ 20 e = 25 ∧ c = δ 38 x + idiv (δ 29 (δ 22 e)) 2)
/-- the causes of a variable -/
def CsS (δ : St) (v c : Int) : Prop := (c = clV δ FU (δ 42 v) (δ 12 (δ 4 (δ 35 (δ 42 v)) + δ 43 v)) ∧ 0 ≤ c) ∨ ∃ x root o, RtV δ v x root o ∧ ((∃ e, δ 31 root ≤ e ∧ e ≤ root ∧ PcE δ x root e c) ∨ (δ 20 root = 3 ∧ c = outV δ x root o))
/-- what is counted so far -/
def MkI (δ : St) (P : Int → Int) (a b v e0 : Int) (mk : Int → Int) (n : Int) : Prop := (∀ l, mk l = 0 ∨ mk l = 1) ∧ n ≤ sm mk 0 15000 ∧ ∀ l, mk l = 1 → (l < 6000 ∧ l < a) ∨ (6000 ≤ l ∧ l < 12000 ∧ l - 6000 < b) ∨ (12000 ≤ l ∧ ∃ u x root o e, (0 ≤ u ∧ u < δ 0 51) ∧ RtV δ u x root o ∧ δ 20 root ≠ 3 ∧ δ 30 e = root ∧ (psN δ (δ 35 x) ≤ e ∧ e < peN δ (δ 35 x)) ∧ l = 12000 + P x + (e - psN δ (δ 35 x)) ∧ (u < v ∨ u = v ∧ e < e0))
theorem MkI.le {δ : St} {P : Int → Int} {a b v e0 a' b' v' e1 : Int} {mk : Int → Int} {n : Int} (h : MkI δ P a b v e0 mk n) (ha : a ≤ a') (hb : b ≤ b') (hv : v < v' ∨ v = v' ∧ e0 ≤ e1) : MkI δ P a' b' v' e1 mk n := by
  obtain ⟨h1, h2, h3⟩ := h
  refine ⟨h1, h2, fun l q => ?_⟩
  rcases h3 l q with w | w | ⟨w0, u, x, root, o, e, w1, w2, w3, w4, w5, w6, w7⟩
  · exact Or.inl (by omega)
  · exact Or.inr (Or.inl (by omega))
  · exact Or.inr (Or.inr ⟨w0, u, x, root, o, e, w1, w2, w3, w4, w5, w6, by omega⟩)
theorem MkI.add {δ : St} {P : Int → Int} {a b v e0 a' b' v' e1 l : Int} {mk : Int → Int} {n : Int} (h : MkI δ P a b v e0 mk n) (ha : a ≤ a') (hb : b ≤ b') (hv : v < v' ∨ v = v' ∧ e0 ≤ e1) (hl : 0 ≤ l ∧ l < 15000) (h0 : mk l ≠ 1) (nw : (l < 6000 ∧ l < a') ∨ (6000 ≤ l ∧ l < 12000 ∧ l - 6000 < b') ∨ (12000 ≤ l ∧ ∃ u x root o e, (0 ≤ u ∧ u < δ 0 51) ∧ RtV δ u x root o ∧ δ 20 root ≠ 3 ∧ δ 30 e = root ∧ (psN δ (δ 35 x) ≤ e ∧ e < peN δ (δ 35 x)) ∧ l = 12000 + P x + (e - psN δ (δ 35 x)) ∧ (u < v' ∨ u = v' ∧ e < e1))) : n < 60000 ∧ ∃ mk', MkI δ P a' b' v' e1 mk' (n + 1) := by
  obtain ⟨h1, h2, h3⟩ := h.le ha hb hv
  have z : mk l = 0 := (h1 l).resolve_right h0
  have sl : sm mk 0 15000 ≤ 15000 := sm_le (by omega) (fun i _ _ => by rcases h1 i with q | q <;> omega)
  have su := sm_upd (f := fun i => if i = l then 1 else mk i) (g := mk) (n := 15000) hl.1 hl.2 (fun i _ _ q => by show (if i = l then 1 else mk i) = _; rw [if_neg q])
  have e1 : (fun i => if i = l then 1 else mk i : Int → Int) l = 1 := by show (if l = l then 1 else mk l) = 1; rw [if_pos rfl]
  refine ⟨by omega, fun i => if i = l then 1 else mk i, fun i => ?_, by omega, fun i q => ?_⟩
  · show (if i = l then 1 else mk i) = 0 ∨ (if i = l then 1 else mk i) = 1
    by_cases q : i = l
    · rw [if_pos q]; exact Or.inr rfl
    · rw [if_neg q]; exact h1 i
  · have q : (if i = l then 1 else mk i) = 1 := q
    by_cases w : i = l
    · rw [w]; exact nw
    · rw [if_neg w] at q; exact h3 i q
/-- the causes c of S are listed -/
def LsX (δ δ' : St) (S : Int → Prop) : Prop := (∀ j k, (j = 0 → k ≠ 67) → (j = 45 → k < δ 0 67) → δ' j k = δ j k) ∧ δ 0 67 ≤ δ' 0 67 ∧ (∀ i, δ 0 67 ≤ i → i < δ' 0 67 → S (δ' 45 i)) ∧ ∀ c, S c → ∃ i, δ 0 67 ≤ i ∧ i < δ' 0 67 ∧ δ' 45 i = c
theorem LsX.rf {δ : St} {S : Int → Prop} (h : ∀ c, ¬ S c) : LsX δ δ S := ⟨fun _ _ _ _ => rfl, Int.le_refl _, fun i q1 q2 => by omega, fun c q => absurd q (h c)⟩
theorem LsX.tr {δ δ' δ'' : St} {S S' T : Int → Prop} (h : LsX δ δ' S) (g : LsX δ' δ'' S') (hT : ∀ c, T c ↔ S c ∨ S' c) : LsX δ δ'' T := by
  obtain ⟨a1, a2, a3, a4⟩ := h
  obtain ⟨b1, b2, b3, b4⟩ := g
  refine ⟨fun j k q1 q2 => by rw [b1 j k q1 (fun q => by have := q2 q; omega)]; exact a1 j k q1 q2, by omega, fun i q1 q2 => ?_, fun c q => ?_⟩
  · by_cases q : i < δ' 0 67
    · rw [b1 45 i (by omega) (fun _ => q)]; exact (hT _).2 (Or.inl (a3 i q1 q))
    · exact (hT _).2 (Or.inr (b3 i (by omega) q2))
  · rcases (hT c).1 q with q | q
    · obtain ⟨i, c1, c2, c3⟩ := a4 c q
      exact ⟨i, c1, by omega, by rw [b1 45 i (by omega) (fun _ => c2)]; exact c3⟩
    · obtain ⟨i, c1, c2, c3⟩ := b4 c q
      exact ⟨i, by omega, c2, c3⟩
theorem LsX.im {δ δ' : St} {S T : Int → Prop} (h : LsX δ δ' S) (hT : ∀ c, T c ↔ S c) : LsX δ δ' T := ⟨h.1, h.2.1, fun i q1 q2 => (hT _).2 (h.2.2.1 i q1 q2), fun c q => h.2.2.2 c ((hT c).1 q)⟩
theorem cause_pc {δ : St} {v : Int} (h : δ 0 67 < 60000) : pc (f_M_cause δ v) (fun z => LsX δ z.2 (fun c => c = v) ∧ z.2 0 67 = δ 0 67 + 1) := by
  unfold f_M_cause
  rw [if_neg (by omega)]
  refine pc_c (fun _ => pc_a (pc_c (fun _ => pc_a (pc_s ?_))))
  have s : ∀ j k, setA (setA δ 0 67 (δ 0 67 + 1)) 45 (δ 0 67) v j k = if j = 45 ∧ k = δ 0 67 then v else if j = 0 ∧ k = 67 then δ 0 67 + 1 else δ j k := fun j k => by rw [stA, stA]
  show LsX δ (setA (setA δ 0 67 (δ 0 67 + 1)) 45 (δ 0 67) v) _ ∧ setA (setA δ 0 67 (δ 0 67 + 1)) 45 (δ 0 67) v 0 67 = _
  generalize setA (setA δ 0 67 (δ 0 67 + 1)) 45 (δ 0 67) v = δ' at *
  have e67 : δ' 0 67 = δ 0 67 + 1 := by rw [s, if_neg (by omega), if_pos ⟨rfl, rfl⟩]
  have ev : δ' 45 (δ 0 67) = v := by rw [s, if_pos ⟨rfl, rfl⟩]
  refine ⟨⟨fun j k q1 q2 => by rw [s, if_neg (by omega), if_neg (by omega)], by omega, fun i q1 q2 => ?_, fun c q => ⟨δ 0 67, Int.le_refl _, by omega, by rw [ev, q]⟩⟩, e67⟩
  rw [show i = δ 0 67 by omega]; exact ev
theorem cv_L5 {γ : St} : ∀ (n : Nat) (x c : Int), pc (f_M_clockVariable_L5 f_M_clockVariable_b43 n γ x c) (fun z => z = (clV γ n x c, γ)) := by
  intro n
  induction n with
  | zero => intro x c; exact pc_n
  | succ n ih =>
    intro x c
    unfold f_M_clockVariable_L5
    show pc _ (fun z => z = ((if c ≠ -1 then γ 38 x + idiv c 2 else if γ 36 x < 0 then -1 else clV γ n (γ 36 x) (γ 29 (γ 37 x))), γ))
    refine pc_i (fun q => ?_) (fun q => pc_c (fun _ => pc_i (fun q2 => ?_) (fun q2 => pc_c (fun _ => pc_c (fun _ => pc_a (pc_c (fun _ => pc_a ?_)))))))
    · unfold f_M_clockVariable_b43
      rw [if_pos q, if_pos q]
      exact pc_c (fun _ => pc_c (fun _ => pc_c (fun _ => pc_s rfl)))
    · unfold f_M_clockVariable_b43
      rw [if_neg q, if_neg q, if_pos q2]
      exact pc_s rfl
    · rw [if_neg q, if_neg q2]
      exact ih _ _
theorem arg_L10 {γ : St} {i : Int} : ∀ (n : Nat) (ms : List Int) (x k : Int), Ch (γ 23) x ms → k ≤ i → i - k < ms.length → pc (f_M_argument_L10 n γ i x k) (fun z => z.2 = γ ∧ ms[(i - k).toNat]? = some z.1) := by
  intro n
  induction n with
  | zero => intro ms x k _ _ _; exact pc_n
  | succ n ih =>
    intro ms x k h1 h2 h3
    unfold f_M_argument_L10
    match ms, h1, h3 with
    | [], h1, h3 => simp at h3; omega
    | y :: t, h1, h3 =>
      have ex : x = y := h1.1
      subst ex
      refine pc_i (fun q => pc_s ⟨rfl, ?_⟩) (fun q => pc_c (fun _ => pc_a (pc_c (fun _ => pc_m (ih t _ (k + 1) h1.2.2 (by omega) (by simp only [List.length_cons] at h3; omega)) (fun z hz => ⟨hz.1, ?_⟩)))))
      · rw [show (i - k).toNat = 0 by omega]; rfl
      · rw [show (i - k).toNat = (i - (k + 1)).toNat + 1 by omega, List.getElem?_cons_succ]; exact hz.2
