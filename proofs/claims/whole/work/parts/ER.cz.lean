/-! equality: the reference's causes of a variable, exactly -/
def CsR (δ : St) (v c : Int) : Prop := ∃ x root o, RtV δ v x root o ∧ ((∃ e, δ 31 root ≤ e ∧ e ≤ root ∧ PcE δ x root e c) ∨ (δ 20 root = 3 ∧ c = outV δ x root o))
theorem RtV.fun {δ : St} {v x root o x' root' o' : Int} (h : RtV δ v x root o) (h' : RtV δ v x' root' o') : x = x' ∧ root = root' ∧ o = o' := by
  rcases h with ⟨a1, a2, a3, a4⟩ | ⟨a1, a2, a3, a4, ms, a5, a6⟩
  · rcases h' with ⟨b1, b2, b3, b4⟩ | ⟨b1, b2, b3, b4, ms', b5, b6⟩
    · rw [a2] at a3 a4
      rw [b2] at b3 b4
      exact ⟨by omega, by rw [a3, b3], by rw [a4, b4]⟩
    · omega
  · rcases h' with ⟨b1, b2, b3, b4⟩ | ⟨b1, b2, b3, b4, ms', b5, b6⟩
    · omega
    · rw [Ch.uniq a5 b5, b6] at a6
      exact ⟨by omega, by cases a6; rfl, by omega⟩
theorem RtV.csr {δ : St} {v x root o c : Int} (h : RtV δ v x root o) : CsR δ v c ↔ ((∃ e, δ 31 root ≤ e ∧ e ≤ root ∧ PcE δ x root e c) ∨ (δ 20 root = 3 ∧ c = outV δ x root o)) := by
  refine ⟨fun ⟨x', root', o', h', g⟩ => ?_, fun g => ⟨x, root, o, h, g⟩⟩
  obtain ⟨e1, e2, e3⟩ := h.fun h'
  rw [e1, e2, e3]
  exact g
/-- what a call's output adds -/
theorem ou_add {δ0 : St} {P : Int → Int} (L : LnM δ0 P) {v x root o : Int} (v0 : 0 ≤ v) (v1 : v < δ0 0 51) (rt : RtV δ0 v x root o) {δ δ1 : St} {mk : Int → Int} (fl : FL δ0 δ1) (mki : MkI δ0 P (v + 1) v v (root + 1) mk (δ1 0 67)) (lx : LsX δ δ1 (fun c => ∃ e, δ0 31 root ≤ e ∧ e ≤ root ∧ PcE δ0 x root e c)) (ho : δ0 20 root = 3 → 0 ≤ o ∧ o < δ0 6 (δ0 21 root)) {K : Option (Int × St)} (hK : K = if δ0 20 root ≠ 3 then some (0, δ1) else (bndN (f_M_output δ1 x root o) fun r γ => bndN (f_M_cause γ r) fun _ γ' => some (0, γ'))) : pc K (fun z => LsX δ z.2 (fun c => CsR δ0 v c) ∧ ∃ mk', MkI δ0 P (v + 1) (v + 1) (v + 1) 0 mk' (z.2 0 67)) := by
  have l := L.1
  have at0 := rt.at l v0 v1
  rw [hK]
  refine pc_i (fun q => pc_s ⟨lx.im (fun c => ?_), mk, mki.le (Int.le_refl _) (by omega) (Or.inl (by omega))⟩) (fun q => ?_)
  · rw [rt.csr]
    exact ⟨fun h => h.resolve_right (fun w => q w.1), fun h => Or.inl h⟩
  · have c3 : δ0 20 root = 3 := by omega
    have lk := l.fl fl
    have oo := ho c3
    have out := output_eq lk (x := x) (e := root) (i := o) at0.1.1 (by rw [fl 0 50 (by omega) (by omega)]; exact at0.1.2) (by rw [fl 35 x (by omega) (by omega), fl.ps]; exact at0.2.1) (by rw [fl 35 x (by omega) (by omega), fl.pe]; exact at0.2.2) (by rw [fl 20 root (by omega) (by omega)]; exact c3) (by rw [fl 21 root (by omega) (by omega), fl 6 _ (by omega) (by omega)]; exact oo)
    have m51 := l.2.2.2.1
    obtain ⟨lt, mk', m'⟩ := mki.add (a' := v + 1) (b' := v + 1) (v' := v + 1) (e1 := 0) (l := 6000 + v) (Int.le_refl _) (by omega) (Or.inl (by omega)) (by omega) (fun w => by
      rcases mki.2.2 _ w with u | u | ⟨u, _⟩ <;> omega) (Or.inr (Or.inl (by omega)))
    refine pc_b (P := fun z => z = (outV δ0 x root o, δ1)) (fun y hy => by rw [out.1] at hy; cases hy; rw [fl.ou]) (fun r γ w => ?_)
    cases w
    refine pc_b (cause_pc lt) (fun r δ2 w => pc_s ⟨lx.tr w.1 (fun c => ?_), mk', by show MkI _ _ _ _ _ _ _ (δ2 0 67); rw [show δ2 0 67 = δ1 0 67 + 1 from w.2]; exact m'⟩)
    rw [rt.csr]
    exact ⟨fun h => by rcases h with h | h; exact Or.inl h; exact Or.inr h.2, fun h => by rcases h with h | h; exact Or.inl h; exact Or.inr ⟨c3, h⟩⟩
theorem cz_b64 {δ0 : St} {P : Int → Int} (L : LnM δ0 P) {v : Int} (v0 : 0 ≤ v) (v1 : v < δ0 0 51) {δ : St} {mk : Int → Int} (fl : FL δ0 δ) (mki : MkI δ0 P (v + 1) v v 0 mk (δ 0 67)) : pc (f_M_causes_0_b64 δ (δ0 42 v) (δ0 35 (δ0 42 v)) (δ0 43 v)) (fun z => LsX δ z.2 (fun c => CsR δ0 v c) ∧ ∃ mk', MkI δ0 P (v + 1) (v + 1) (v + 1) 0 mk' (z.2 0 67)) := by
  have l := L.1
  have ⟨i1, i2, i3, i4⟩ := l.2.2.2.2.2.2.2.2.2 v v0 v1
  have nd := l.nd i1.1 i1.2
  unfold f_M_causes_0_b64
  rw [fl 5 _ (by omega) (by omega), fl 4 _ (by omega) (by omega), fl 32 _ (by omega) (by omega), fl 36 _ (by omega) (by omega), fl 37 _ (by omega) (by omega)]
  refine pc_c (fun _ => pc_i (fun q => ?_) (fun q => ?_))
  · have rt : RtV δ0 v (δ0 42 v) (δ0 17 (δ0 32 (δ0 4 (δ0 35 (δ0 42 v)) + δ0 43 v))) (δ0 33 (δ0 4 (δ0 35 (δ0 42 v)) + δ0 43 v)) := Or.inl ⟨q, rfl, rfl, rfl⟩
    have df := nd.df (v := δ0 4 (δ0 35 (δ0 42 v)) + δ0 43 v) (by omega) (by have nv : nvN δ0 (δ0 35 (δ0 42 v)) = δ0 4 (δ0 35 (δ0 42 v) + 1) - δ0 4 (δ0 35 (δ0 42 v)) := rfl; omega)
    refine pc_c (fun _ => pc_c (fun _ => pc_c (fun _ => pc_a (pc_c (fun _ => ?_)))))
    rw [fl 17 _ (by omega) (by omega)]
    refine pc_b (pcs_part L v0 v1 rt fl mki) (fun r δ1 w => ?_)
    obtain ⟨w1, mk', w2⟩ := w
    have f1 : FL δ0 δ1 := LsX.fl w1 fl
    have w2 : MkI δ0 P (v + 1) v v (δ0 17 (δ0 32 (δ0 4 (δ0 35 (δ0 42 v)) + δ0 43 v)) + 1) mk' (δ1 0 67) := w2
    rw [f1 17 _ (by omega) (by omega), f1 20 _ (by omega) (by omega), f1 4 _ (by omega) (by omega), f1 33 _ (by omega) (by omega)]
    have fin := ou_add L v0 v1 rt f1 w2 w1 (fun c3 => ⟨df.2.1, df.2.2.2 c3⟩) rfl
    refine pc_c (fun _ => pc_c (fun _ => ?_))
    by_cases q2 : δ0 20 (δ0 17 (δ0 32 (δ0 4 (δ0 35 (δ0 42 v)) + δ0 43 v))) ≠ 3
    · rw [if_pos q2] at fin ⊢
      exact fin
    · rw [if_neg q2] at fin ⊢
      exact pc_c (fun _ => pc_c (fun _ => pc_c (fun _ => pc_c (fun _ => fin))))
  · refine pc_c (fun _ => pc_i (fun q2 => ?_) (fun q2 => pc_s ⟨LsX.rf (fun c ⟨x, root, o, h, _⟩ => ?_), mk, mki.le (Int.le_refl _) (by omega) (Or.inl (by omega))⟩))
    · have x0 : 0 < δ0 42 v := by
        by_cases q3 : δ0 42 v = 0
        · rw [q3, l.2.2.2.2.2.2.2.1.2.1] at q2; omega
        · omega
      have ⟨o1, o2, o3, o4⟩ := (l.2.2.2.2.2.2.2.2.1 (δ0 42 v) i1.1 i1.2).2.2.1 x0
      have nd2 := l.nd (x := δ0 36 (δ0 42 v)) (by omega) (by omega)
      obtain ⟨ks, c1, c2, c3, c4, c5, c6, c7, c8⟩ := nd2.pt o2.1 o2.2
      have c8 := (c8 o3)
      have ar : pc (f_M_argument δ (δ0 37 (δ0 42 v)) (δ0 43 v)) (fun z => z.2 = δ ∧ ks[(δ0 43 v).toNat]? = some z.1) := by
        unfold f_M_argument
        rw [fl 22 _ (by omega) (by omega)]
        refine pc_c (fun _ => pc_a (pc_m (arg_L10 FU ks _ 0 (by rw [show δ 23 = δ0 23 from funext fun i => fl 23 i (by omega) (by omega)]; exact c1) i3 (by rw [o4] at c8; omega)) (fun z hz => ⟨hz.1, ?_⟩)))
        rw [show (δ0 43 v).toNat = (δ0 43 v - 0).toNat by omega]; exact hz.2
      refine pc_c (fun _ => pc_b ar (fun root δ' w => ?_))
      obtain ⟨w1, w2⟩ := w
      have w1 : δ' = δ := w1
      subst w1
      have w2 : ks[(δ0 43 v).toNat]? = some root := w2
      have rt : RtV δ0 v (δ0 36 (δ0 42 v)) root 0 := Or.inr ⟨by omega, q2, rfl, rfl, ks, c1, w2⟩
      have at0 := rt.at l v0 v1
      rw [fl 36 _ (by omega) (by omega)]
      refine pc_c (fun _ => pc_b (pcs_part L v0 v1 rt fl mki) (fun r δ1 w => ?_))
      obtain ⟨w3, mk', w4⟩ := w
      have f1 : FL δ0 δ1 := LsX.fl w3 fl
      have w4 : MkI δ0 P (v + 1) v v (root + 1) mk' (δ1 0 67) := w4
      rw [f1 20 _ (by omega) (by omega), f1 36 _ (by omega) (by omega)]
      have fin := ou_add L v0 v1 rt f1 w4 w3 (fun k3 => by
        obtain ⟨_, _, _, _, _, w, _⟩ := nd2.pt at0.2.1 at0.2.2
        have w5 := w.2.2.1 k3
        have r35 := (l.2.2.2.2.2.2.2.2.1 (δ0 36 (δ0 42 v)) (by omega) (by omega)).1.1
        have sg := (l.1 _ w5.1 (by omega)).sz
        omega) rfl
      refine pc_c (fun _ => ?_)
      by_cases q3 : δ0 20 root ≠ 3
      · rw [if_pos q3] at fin ⊢
        exact fin
      · rw [if_neg q3] at fin ⊢
        exact pc_c (fun _ => fin)
    · rcases h with ⟨a1, _⟩ | ⟨_, a2, _⟩
      · exact q a1
      · exact q2 a2
theorem clV_fl {δ δ' : St} (f : FL δ δ') : ∀ (n : Nat) (x c : Int), clV δ' n x c = clV δ n x c
  | 0, _, _ => rfl
  | n + 1, x, c => by
    show (if c ≠ -1 then δ' 38 x + idiv c 2 else if δ' 36 x < 0 then -1 else clV δ' n (δ' 36 x) (δ' 29 (δ' 37 x))) = (if c ≠ -1 then δ 38 x + idiv c 2 else if δ 36 x < 0 then -1 else clV δ n (δ 36 x) (δ 29 (δ 37 x)))
    rw [f 38 x (by omega) (by omega), f 36 x (by omega) (by omega), f 37 x (by omega) (by omega), f 29 _ (by omega) (by omega), clV_fl f n]
/-- the causes of v are listed -/
def CzX (δ0 δ : St) (v : Int) (δ' : St) : Prop := (∀ j k, (j = 0 → k ≠ 67) → (j = 44 → k ≠ v) → (j = 45 → k < δ 0 67) → δ' j k = δ j k) ∧ δ' 44 v = δ 0 67 ∧ δ 0 67 ≤ δ' 0 67 ∧ (∀ i, δ 0 67 ≤ i → i < δ' 0 67 → CsS δ0 v (δ' 45 i)) ∧ ∀ c, CsS δ0 v c → ∃ i, δ 0 67 ≤ i ∧ i < δ' 0 67 ∧ δ' 45 i = c
theorem cz_pc {δ0 : St} {P : Int → Int} (L : LnM δ0 P) {v : Int} (v0 : 0 ≤ v) (v1 : v < δ0 0 51) {δ : St} {mk : Int → Int} (fl : FL δ0 δ) (mki : MkI δ0 P v v v 0 mk (δ 0 67)) : pc (f_M_causes_0 δ v) (fun z => CzX δ0 δ v z.2 ∧ ∃ mk', MkI δ0 P (v + 1) (v + 1) (v + 1) 0 mk' (z.2 0 67)) := by
  have l := L.1
  have m51 := l.2.2.2.1
  unfold f_M_causes_0
  refine pc_c (fun _ => pc_a ?_)
  have s : ∀ j k, setA δ 44 v (δ 0 67) j k = if j = 44 ∧ k = v then δ 0 67 else δ j k := fun j k => by rw [stA]
  generalize setA δ 44 v (δ 0 67) = δ1 at *
  have s0 : ∀ j k, (j = 44 → k ≠ v) → δ1 j k = δ j k := fun j k q => by rw [s, if_neg (by omega)]
  have f1 : FL δ0 δ1 := fun j k q1 q2 => by rw [s0 j k (by omega)]; exact fl j k q1 q2
  have e67 := s0 0 67 (by omega)
  rw [f1 42 v (by omega) (by omega)]
  refine pc_c (fun _ => pc_a ?_)
  rw [f1 35 _ (by omega) (by omega)]
  refine pc_c (fun _ => pc_a ?_)
  rw [f1 43 _ (by omega) (by omega)]
  refine pc_c (fun _ => pc_a ?_)
  rw [f1 4 _ (by omega) (by omega), f1 12 _ (by omega) (by omega)]
  refine pc_c (fun _ => pc_c (fun _ => pc_c (fun _ => pc_b (P := fun z => z = (clV δ0 FU (δ0 42 v) (δ0 12 (δ0 4 (δ0 35 (δ0 42 v)) + δ0 43 v)), δ1)) ?_ (fun r γ w => ?_))))
  · unfold f_M_clockVariable
    refine pc_m (cv_L5 FU _ _) (fun y h => ?_)
    rw [h, clV_fl f1]
  · have er : r = clV δ0 FU (δ0 42 v) (δ0 12 (δ0 4 (δ0 35 (δ0 42 v)) + δ0 43 v)) := by cases w; rfl
    have eγ : γ = δ1 := by cases w; rfl
    clear w
    subst eγ
    have fin : ∀ (δ2 : St) (S : Int → Prop), LsX γ δ2 S → (∀ c, CsS δ0 v c ↔ S c ∨ CsR δ0 v c) → (∃ mk', MkI δ0 P (v + 1) v v 0 mk' (δ2 0 67)) → pc (f_M_causes_0_b64 δ2 (δ0 42 v) (δ0 35 (δ0 42 v)) (δ0 43 v)) (fun z => CzX δ0 δ v z.2 ∧ ∃ mk', MkI δ0 P (v + 1) (v + 1) (v + 1) 0 mk' (z.2 0 67)) := fun δ2 S lx hS ⟨mk', m'⟩ => by
      refine pc_m (cz_b64 L v0 v1 (lx.fl f1) m') (fun z hz => ⟨?_, hz.2⟩)
      have t := lx.tr hz.1 (T := fun c => CsS δ0 v c) hS
      refine ⟨fun j k q1 q2 q3 => by rw [t.1 j k q1 (fun q => by rw [e67]; exact q3 q)]; exact s0 j k q2, by rw [t.1 44 v (by omega) (by omega), s, if_pos ⟨rfl, rfl⟩], by rw [← e67]; exact t.2.1, fun i q1 q2 => t.2.2.1 i (by omega) q2, fun c q => ?_⟩
      obtain ⟨i, a1, a2, a3⟩ := t.2.2.2 c q
      exact ⟨i, by omega, a2, a3⟩
    refine pc_i (fun q => fin γ (fun _ => False) (LsX.rf (fun _ h => h)) (fun c => ?_) ⟨mk, by rw [e67]; exact mki.le (by omega) (Int.le_refl _) (Or.inr ⟨rfl, Int.le_refl _⟩)⟩) (fun q => ?_)
    · refine ⟨fun h => ?_, fun h => h.elim (fun h => h.elim) (fun h => Or.inr h)⟩
      rcases h with h | h
      · omega
      · exact Or.inr h
    · obtain ⟨lt, mk', m'⟩ := mki.add (a' := v + 1) (b' := v) (v' := v) (e1 := 0) (l := v) (by omega) (Int.le_refl _) (Or.inr ⟨rfl, Int.le_refl _⟩) (by omega) (fun w => by
        rcases mki.2.2 _ w with u | u | ⟨u, _⟩ <;> omega) (Or.inl (by omega))
      refine pc_b (cause_pc (by omega)) (fun r2 δ2 w => fin δ2 _ w.1 (fun c => ?_) ⟨mk', by rw [show δ2 0 67 = γ 0 67 + 1 from w.2, e67]; exact m'⟩)
      refine ⟨fun h => ?_, fun h => ?_⟩
      · rcases h with h | h
        · exact Or.inl (by rw [h.1, er])
        · exact Or.inr h
      · rcases h with h | h
        · have h : c = r := h
          exact Or.inl ⟨by rw [h, er], by omega⟩
        · exact Or.inr h
theorem L226_s {x : St → Option (Int × St)} : ∀ (n : Nat) (γ : St) (k : Int), f_M_read_L226 x n γ k = bndN (f_M_read_L226 (fun γ => some (0, γ)) n γ k) (fun _ γ' => x γ') := by
  intro n
  induction n with
  | zero => intro γ k; rfl
  | succ n ih =>
    intro γ k
    unfold f_M_read_L226
    simp only [bN_I, bN_N, bN_C, bN_s, ← ih]
/-- the causes of those before v are listed -/
def CyX (δ0 δ : St) (v : Int) : Prop := (∀ j k, (j = 0 → k ≠ 67) → j ≠ 44 → j ≠ 45 → δ j k = δ0 j k) ∧ ∀ u, 0 ≤ u → u < v → (δ 44 u ≤ δ 0 67 ∧ (u + 1 < v → δ 44 (u + 1) ≤ δ 0 67)) ∧ ∀ c, CsS δ0 u c ↔ ∃ i, δ 44 u ≤ i ∧ i < (if u + 1 < v then δ 44 (u + 1) else δ 0 67) ∧ δ 45 i = c
theorem cy_L226 {δ0 : St} {P : Int → Int} (L : LnM δ0 P) : ∀ (n : Nat) (δ : St) (v : Int) (mk : Int → Int), CyX δ0 δ v → MkI δ0 P v v v 0 mk (δ 0 67) → 0 ≤ v → v ≤ δ0 0 51 → pc (f_M_read_L226 (fun γ => some (0, γ)) n δ v) (fun z => CyX δ0 z.2 (δ0 0 51)) := by
  intro n
  induction n with
  | zero => intro δ v mk _ _ _ _; exact pc_n
  | succ n ih =>
    intro δ v mk h mki v0 v1
    have fl : FL δ0 δ := fun j k q1 q2 => h.1 j k (by omega) (by omega) (by omega)
    unfold f_M_read_L226
    rw [h.1 0 51 (by omega) (by omega) (by omega)]
    refine pc_i (fun q => pc_s (by rw [show v = δ0 0 51 by omega] at h; exact h)) (fun q => pc_b (cz_pc L v0 (by omega) fl mki) (fun r δ1 w => pc_c (fun _ => ?_)))
    obtain ⟨⟨a1, a2, a3, a4, a5⟩, mk', m'⟩ := w
    have a1 : ∀ j k, (j = 0 → k ≠ 67) → (j = 44 → k ≠ v) → (j = 45 → k < δ 0 67) → δ1 j k = δ j k := a1
    have a2 : δ1 44 v = δ 0 67 := a2
    have a3 : δ 0 67 ≤ δ1 0 67 := a3
    refine ih δ1 (v + 1) mk' ⟨fun j k q1 q2 q3 => by rw [a1 j k q1 (by omega) (by omega)]; exact h.1 j k q1 q2 q3, fun u q1 q2 => ?_⟩ m' (by omega) (by omega)
    by_cases q3 : u = v
    · subst q3
      rw [if_neg (by omega), a2]
      refine ⟨⟨a3, fun w => by omega⟩, fun c => ⟨fun w => a5 c w, fun ⟨i, w1, w2, w3⟩ => ?_⟩⟩
      have := a4 i w1 w2
      have e : (0 + δ1 45 i : Int) = δ1 45 i := by omega
      rw [← w3]; exact this
    · obtain ⟨⟨b1, b2⟩, b3⟩ := h.2 u q1 (by omega)
      rw [if_pos (by omega), a1 44 u (by omega) (by omega) (by omega)]
      have e44 : δ1 44 (u + 1) = if u + 1 < v then δ 44 (u + 1) else δ 0 67 := by
        by_cases q4 : u + 1 < v
        · rw [if_pos q4, a1 44 _ (by omega) (by omega) (by omega)]
        · rw [if_neg q4, show u + 1 = v by omega, a2]
      have le : (if u + 1 < v then δ 44 (u + 1) else δ 0 67) ≤ δ 0 67 := by
        by_cases q4 : u + 1 < v
        · rw [if_pos q4]; exact b2 q4
        · rw [if_neg q4]; omega
      rw [e44]
      refine ⟨⟨by omega, fun _ => by omega⟩, fun c => ?_⟩
      rw [b3 c]
      refine ⟨fun ⟨i, w1, w2, w3⟩ => ⟨i, w1, w2, by rw [a1 45 i (by omega) (by omega) (by omega)]; exact w3⟩, fun ⟨i, w1, w2, w3⟩ => ⟨i, w1, w2, by rw [a1 45 i (by omega) (by omega) (by omega)] at w3; exact w3⟩⟩
