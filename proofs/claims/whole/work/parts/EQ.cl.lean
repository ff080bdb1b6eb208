/-! equality: the reference's causes, listed exactly -/
def LnM (δ : St) (P : Int → Int) : Prop := LkM δ ∧ (∀ f, 0 ≤ f → f < δ 0 18 → ArN δ f) ∧ PpI δ δ 0 P ∧ ∀ y, 0 ≤ y → y < δ 0 50 → 0 ≤ P y ∧ P y + pN δ (δ 35 y) ≤ 3000
theorem LsX.fl {δ0 δ δ' : St} {S : Int → Prop} (h : LsX δ δ' S) (f : FL δ0 δ) : FL δ0 δ' := fun j k q1 q2 => by rw [h.1 j k (by omega) (by omega)]; exact f j k q1 q2
theorem FL.ou {δ δ' : St} (f : FL δ δ') (x e t : Int) : outV δ' x e t = outV δ x e t := by
  unfold outV
  rw [f 40 x (by omega) (by omega), f 25 e (by omega) (by omega), f 41 _ (by omega) (by omega), f 38 _ (by omega) (by omega), f 21 e (by omega) (by omega), f 5 _ (by omega) (by omega)]
/-- a label that is not used yet -/
theorem mk_new {δ : St} {P : Int → Int} (L : LnM δ P) {a b v e x root o : Int} {mk : Int → Int} {n : Int} (v0 : 0 ≤ v) (v1 : v < δ 0 51) (rt : RtV δ v x root o) (h : MkI δ P a b v e mk n) (r3 : δ 20 root ≠ 3) (r30 : δ 30 e = root) (e1 : psN δ (δ 35 x) ≤ e) (e2 : e < peN δ (δ 35 x)) : n < 60000 ∧ ∃ mk', MkI δ P a b v (e + 1) mk' (n + 1) := by
  obtain ⟨l, ar, pp, pb⟩ := L
  have at0 := rt.at l v0 v1
  have px := pb x at0.1.1 at0.1.2
  have pn : pN δ (δ 35 x) = peN δ (δ 35 x) - psN δ (δ 35 x) := rfl
  refine h.add (l := 12000 + P x + (e - psN δ (δ 35 x))) (Int.le_refl _) (Int.le_refl _) (Or.inr ⟨rfl, by omega⟩) (by omega) (fun q => ?_) (Or.inr (Or.inr ⟨by omega, v, x, root, o, e, ⟨v0, v1⟩, rt, r3, r30, ⟨e1, e2⟩, rfl, Or.inr ⟨rfl, by omega⟩⟩))
  rcases h.2.2 _ q with w | w | ⟨w0, u, x', root', o', e', w1, w2, w3, w4, w5, w6, w7⟩
  · omega
  · omega
  · have at1 := w2.at l w1.1 w1.2
    have py := pb x' at1.1.1 at1.1.2
    have pn' : pN δ (δ 35 x') = peN δ (δ 35 x') - psN δ (δ 35 x') := rfl
    have ex : x' = x := by
      by_cases q1 : x' < x
      · have := (pp x' x (by omega) q1 at0.1.2).1; omega
      · by_cases q2 : x < x'
        · have := (pp x x' (by omega) q2 at1.1.2).1; omega
        · omega
    subst ex
    have ee : e' = e := by omega
    subst ee
    have er : root' = root := by omega
    subst er
    have := w2.inj l pp w1.1 w1.2 v0 v1 rt r3
    omega
theorem pcs_L7 {δ0 : St} {P : Int → Int} (L : LnM δ0 P) {a b v x root o : Int} (v0 : 0 ≤ v) (v1 : v < δ0 0 51) (rt : RtV δ0 v x root o) : ∀ (n : Nat) (δ : St) (e : Int) (mk : Int → Int), FL δ0 δ → MkI δ0 P a b v e mk (δ 0 67) → δ0 31 root ≤ e → e ≤ root + 1 → pc (f_M_partCauses_L7 n δ x root e) (fun z => LsX δ z.2 (fun c => ∃ e', e ≤ e' ∧ e' ≤ root ∧ PcE δ0 x root e' c) ∧ ∃ mk', MkI δ0 P a b v (root + 1) mk' (z.2 0 67)) := by
  have l := L.1
  have at0 := rt.at l v0 v1
  have nd := l.nd at0.1.1 at0.1.2
  have nr := (l.2.2.2.2.2.2.2.2.1 x at0.1.1 at0.1.2).1.1
  obtain ⟨ks0, c1, c2, c3, _, _, _, lo, _⟩ := nd.pt at0.2.1 at0.2.2
  obtain ⟨k, k1, k2, k3⟩ := nd.at at0.2.1 at0.2.2
  intro n
  induction n with
  | zero => intro δ e mk _ _ _ _; exact pc_n
  | succ n ih =>
    intro δ e mk fl mki h1 h2
    unfold f_M_partCauses_L7
    rw [fl 30 e (by omega) (by omega), fl 20 e (by omega) (by omega), fl 21 e (by omega) (by omega), fl 38 x (by omega) (by omega)]
    refine pc_i (fun q => pc_s ⟨LsX.rf (fun c ⟨e', w1, w2, _⟩ => by omega), mk, mki.le (Int.le_refl _) (Int.le_refl _) (Or.inr ⟨rfl, h2⟩)⟩) (fun q => ?_)
    have e1 : psN δ0 (δ0 35 x) ≤ e := by omega
    have e2 : e < peN δ0 (δ0 35 x) := by omega
    have b143 : ∀ δ' mk', FL δ0 δ' → MkI δ0 P a b v (e + 1) mk' (δ' 0 67) → LsX δ δ' (fun c => PcE δ0 x root e c) → pc (f_M_partCauses_b143 (f_M_partCauses_L7 n) δ' x root e) (fun z => LsX δ z.2 (fun c => ∃ e', e ≤ e' ∧ e' ≤ root ∧ PcE δ0 x root e' c) ∧ ∃ mk', MkI δ0 P a b v (root + 1) mk' (z.2 0 67)) := fun δ' mk' f' m' x' => by
      unfold f_M_partCauses_b143
      refine pc_c (fun _ => pc_m (ih δ' (e + 1) mk' f' m' (by omega) (by omega)) (fun z hz => ⟨x'.tr hz.1 (fun c => ⟨fun ⟨e', w1, w2, w3⟩ => ?_, fun w => ?_⟩), hz.2⟩))
      · by_cases w4 : e' = e
        · rw [w4] at w3; exact Or.inl w3
        · exact Or.inr ⟨e', by omega, w2, w3⟩
      · rcases w with w | ⟨e', w1, w2, w3⟩
        · exact ⟨e, Int.le_refl _, by omega, w⟩
        · exact ⟨e', by omega, w2, w3⟩
    have p108 : ∀ δ', FL δ0 δ' → δ0 20 e ≠ 25 → pc (f_M_partCauses_b143 (f_M_partCauses_L7 n) δ' x root e) (fun z => LsX δ z.2 (fun c => ∃ e', e ≤ e' ∧ e' ≤ root ∧ PcE δ0 x root e' c) ∧ ∃ mk', MkI δ0 P a b v (root + 1) mk' (z.2 0 67)) → pc (f_M_partCauses_b108 (f_M_partCauses_L7 n) δ' x root e) (fun z => LsX δ z.2 (fun c => ∃ e', e ≤ e' ∧ e' ≤ root ∧ PcE δ0 x root e' c) ∧ ∃ mk', MkI δ0 P a b v (root + 1) mk' (z.2 0 67)) := fun δ' f' q1 g => by
      unfold f_M_partCauses_b108
      rw [f' 20 e (by omega) (by omega), if_pos q1]
      exact pc_c (fun _ => g)
    have p78 : ∀ δ', FL δ0 δ' → δ0 20 e ≠ 26 → pc (f_M_partCauses_b108 (f_M_partCauses_L7 n) δ' x root e) (fun z => LsX δ z.2 (fun c => ∃ e', e ≤ e' ∧ e' ≤ root ∧ PcE δ0 x root e' c) ∧ ∃ mk', MkI δ0 P a b v (root + 1) mk' (z.2 0 67)) → pc (f_M_partCauses_b78 (f_M_partCauses_L7 n) δ' x root e) (fun z => LsX δ z.2 (fun c => ∃ e', e ≤ e' ∧ e' ≤ root ∧ PcE δ0 x root e' c) ∧ ∃ mk', MkI δ0 P a b v (root + 1) mk' (z.2 0 67)) := fun δ' f' q1 g => by
      unfold f_M_partCauses_b78
      rw [f' 20 e (by omega) (by omega), if_pos q1]
      exact pc_c (fun _ => g)
    have p52 : ∀ δ', FL δ0 δ' → (δ0 20 e ≠ 3 ∨ e = root) → pc (f_M_partCauses_b78 (f_M_partCauses_L7 n) δ' x root e) (fun z => LsX δ z.2 (fun c => ∃ e', e ≤ e' ∧ e' ≤ root ∧ PcE δ0 x root e' c) ∧ ∃ mk', MkI δ0 P a b v (root + 1) mk' (z.2 0 67)) → pc (f_M_partCauses_b52 (f_M_partCauses_L7 n) δ' x root e) (fun z => LsX δ z.2 (fun c => ∃ e', e ≤ e' ∧ e' ≤ root ∧ PcE δ0 x root e' c) ∧ ∃ mk', MkI δ0 P a b v (root + 1) mk' (z.2 0 67)) := fun δ' f' q1 g => by
      unfold f_M_partCauses_b52
      rw [f' 20 e (by omega) (by omega)]
      refine pc_c (fun _ => pc_i (fun _ => g) (fun q2 => ?_))
      rw [if_pos (by omega)]
      exact g
    have fire : ∀ c0, PcE δ0 x root e c0 → δ 0 67 < 60000 ∧ ∃ mk', MkI δ0 P a b v (e + 1) mk' (δ 0 67 + 1) := fun c0 w => by
      refine mk_new L v0 v1 rt mki (fun r3 => ?_) w.1 e1 e2
      by_cases w2 : e = root
      · have w3 := w.2
        rw [w2, r3] at w3
        omega
      · exact call_root nd (L.2.1 _ nr.1 nr.2) k1.1 k1.2 k2 k3 r3 ((root - e).toNat + 1) e (by omega) (by omega) (by omega) w.1
    have skip : (∀ c, ¬ PcE δ0 x root e c) → pc (f_M_partCauses_b143 (f_M_partCauses_L7 n) δ x root e) (fun z => LsX δ z.2 (fun c => ∃ e', e ≤ e' ∧ e' ≤ root ∧ PcE δ0 x root e' c) ∧ ∃ mk', MkI δ0 P a b v (root + 1) mk' (z.2 0 67)) := fun w => b143 δ mk fl (mki.le (Int.le_refl _) (Int.le_refl _) (Or.inr ⟨rfl, by omega⟩)) (LsX.rf w)
    refine pc_c (fun _ => pc_i (fun q4 => pc_c (fun _ => pc_i (fun q5 => ?_) (fun q5 => ?_))) (fun q4 => skip (fun c w => q4 w.1)))
    · by_cases k3 : δ0 20 e = 3 ∧ e ≠ root
      · have lk := l.fl fl
        have fe : PcE δ0 x root e (outV δ0 x e 0) := ⟨q4, Or.inr (Or.inl ⟨k3.1, k3.2, rfl⟩)⟩
        obtain ⟨lt, mk', m'⟩ := fire _ fe
        unfold f_M_partCauses_b52
        rw [fl 20 e (by omega) (by omega), if_neg (by omega), if_neg k3.2]
        have w3 : 0 ≤ δ0 21 e ∧ δ0 21 e < δ0 35 x := by
          obtain ⟨_, _, _, _, _, w, _⟩ := nd.pt e1 e2
          exact w.2.2.1 k3.1
        have sg := (l.1 _ w3.1 (by omega)).sz
        have o := output_eq lk (x := x) (e := e) (i := 0) at0.1.1 (by rw [fl 0 50 (by omega) (by omega)]; exact at0.1.2) (by rw [fl 35 x (by omega) (by omega), fl.ps]; exact e1) (by rw [fl 35 x (by omega) (by omega), fl.pe]; exact e2) (by rw [fl 20 e (by omega) (by omega)]; exact k3.1) (by rw [fl 21 e (by omega) (by omega), fl 6 _ (by omega) (by omega)]; omega)
        refine pc_c (fun _ => pc_b (P := fun z => z = (outV δ0 x e 0, δ)) (fun y hy => by rw [o.1] at hy; cases hy; rw [fl.ou]) (fun r δ1 w => ?_))
        cases w
        refine pc_b (cause_pc lt) (fun r δ2 w => ?_)
        have f2 := LsX.fl w.1 fl
        exact p78 δ2 f2 (by omega) (p108 δ2 f2 (by omega) (b143 δ2 mk' f2 (by rw [show δ2 0 67 = δ 0 67 + 1 from w.2]; exact m') (w.1.im (fun c => ⟨fun h => by have h2 := h.2; omega, fun h => by rw [h]; exact fe⟩))))
      · refine p52 δ fl (by omega) ?_
        by_cases k26 : δ0 20 e = 26
        · have fe : PcE δ0 x root e (δ0 38 x + idiv (δ0 21 e) 2) := ⟨q4, Or.inr (Or.inr (Or.inl ⟨k26, rfl⟩))⟩
          obtain ⟨lt, mk', m'⟩ := fire _ fe
          unfold f_M_partCauses_b78
          rw [fl 20 e (by omega) (by omega), if_neg (by omega), fl 38 x (by omega) (by omega), fl 21 e (by omega) (by omega)]
          refine pc_c (fun _ => pc_c (fun _ => pc_c (fun _ => pc_c (fun _ => pc_c (fun _ => pc_b (cause_pc lt) (fun r δ2 w => ?_))))))
          have f2 := LsX.fl w.1 fl
          exact p108 δ2 f2 (by omega) (b143 δ2 mk' f2 (by rw [show δ2 0 67 = δ 0 67 + 1 from w.2]; exact m') (w.1.im (fun c => ⟨fun h => by have h2 := h.2; omega, fun h => by rw [h]; exact fe⟩)))
        · refine p78 δ fl k26 ?_
          by_cases k25 : δ0 20 e = 25
          · have fe : PcE δ0 x root e (δ0 38 x + idiv (δ0 29 (δ0 22 e)) 2) := ⟨q4, Or.inr (Or.inr (Or.inr ⟨k25, rfl⟩))⟩
            obtain ⟨lt, mk', m'⟩ := fire _ fe
            unfold f_M_partCauses_b108
            rw [fl 20 e (by omega) (by omega), if_neg (by omega), fl 38 x (by omega) (by omega), fl 22 e (by omega) (by omega), fl 29 _ (by omega) (by omega)]
            refine pc_c (fun _ => pc_c (fun _ => pc_c (fun _ => pc_c (fun _ => pc_c (fun _ => pc_c (fun _ => pc_b (cause_pc lt) (fun r δ2 w => ?_)))))))
            have f2 := LsX.fl w.1 fl
            exact b143 δ2 mk' f2 (by rw [show δ2 0 67 = δ 0 67 + 1 from w.2]; exact m') (w.1.im (fun c => ⟨fun h => by have h2 := h.2; omega, fun h => by rw [h]; exact fe⟩))
          · exact p108 δ fl k25 (skip (fun c w => by have w2 := w.2; omega))
    · have k2 : δ0 20 e = 2 := by omega
      have fe : PcE δ0 x root e (δ0 38 x + δ0 21 e) := ⟨q4, Or.inl ⟨k2, rfl⟩⟩
      obtain ⟨lt, mk', m'⟩ := fire _ fe
      refine pc_c (fun _ => pc_c (fun _ => pc_c (fun _ => pc_b (cause_pc lt) (fun r δ2 w => ?_))))
      have f2 := LsX.fl w.1 fl
      exact p52 δ2 f2 (by omega) (p78 δ2 f2 (by omega) (p108 δ2 f2 (by omega) (b143 δ2 mk' f2 (by rw [show δ2 0 67 = δ 0 67 + 1 from w.2]; exact m') (w.1.im (fun c => ⟨fun h => by have h2 := h.2; omega, fun h => by rw [h]; exact fe⟩)))))
theorem pcs_part {δ0 : St} {P : Int → Int} (L : LnM δ0 P) {a b v x root o : Int} (v0 : 0 ≤ v) (v1 : v < δ0 0 51) (rt : RtV δ0 v x root o) {δ : St} {mk : Int → Int} (fl : FL δ0 δ) (mki : MkI δ0 P a b v 0 mk (δ 0 67)) : pc (f_M_partCauses δ x root) (fun z => LsX δ z.2 (fun c => ∃ e, δ0 31 root ≤ e ∧ e ≤ root ∧ PcE δ0 x root e c) ∧ ∃ mk', MkI δ0 P a b v (root + 1) mk' (z.2 0 67)) := by
  have at0 := rt.at L.1 v0 v1
  have nd := L.1.nd at0.1.1 at0.1.2
  have sz := nd.sz
  obtain ⟨ks0, c1, c2, c3, _, _, _, lo, _⟩ := nd.pt at0.2.1 at0.2.2
  have le := c2.le
  unfold f_M_partCauses
  rw [fl 31 root (by omega) (by omega)]
  exact pc_c (fun _ => pc_a (pcs_L7 L v0 v1 rt FU δ _ mk fl (mki.le (Int.le_refl _) (Int.le_refl _) (Or.inr ⟨rfl, by omega⟩)) (Int.le_refl _) (by omega)))
