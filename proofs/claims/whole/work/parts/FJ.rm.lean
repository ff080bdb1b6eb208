/-! the reference's run against what it means: what is remembered -/
theorem NdS.od {γ : St} {f e e' : Int} (h : NdS γ f) (h1 : psN γ f ≤ e) (h2 : e < e') (h3 : e' < peN γ f) (q : 0 < stw (γ 20 e)) (q' : 0 < stw (γ 20 e')) : γ 25 e + stw (γ 20 e) ≤ γ 25 e' := by
  obtain ⟨t, l0, l, x, _⟩ := h
  have ⟨x1, x2, x3, x4, x5, x6, x7, _⟩ := x.1
  have o : ∀ e, psN γ f ≤ e → e < peN γ f → 0 < stw (γ 20 e) → 0 ≤ γ 25 e ∧ γ 25 e + stw (γ 20 e) ≤ γ 9 f ∧ ∀ e', e < e' → e' < peN γ f → 0 < stw (γ 20 e') → γ 25 e + stw (γ 20 e) ≤ γ 25 e' := x7
  exact (o e h1 (by omega) q).2.2 e' h2 h3 q'
theorem stw_6 {k : Int} (h : k = 6) : stw k = 2 := by rw [h]; rfl
theorem stw_c {k : Int} (h : 0 < stw k) : (k = 24 ∨ k = 5 ∨ k = 25) ∧ stw k = 1 ∨ k = 6 ∧ stw k = 2 := by
  by_cases q : k = 24 ∨ k = 5 ∨ k = 25
  · exact Or.inl ⟨q, stw_24 q⟩
  · by_cases q2 : k = 6
    · exact Or.inr ⟨q2, stw_6 q2⟩
    · exfalso
      unfold stw at h
      rw [if_neg q, if_neg q2] at h
      omega
/-- the new memory of a part -/
def LtE (D : St) (M : Int → Int) (w : Int → Int → Int) (on : Int → Int → Prop) (N : Int → Int) (y e : Int) : Prop := (D 20 e = 24 → (on y (D 29 e) → N (D 39 y + D 25 e) = w y (D 22 e)) ∧ (¬ on y (D 29 e) → N (D 39 y + D 25 e) = M (D 39 y + D 25 e))) ∧ (D 20 e = 5 → (on y (D 29 e) → N (D 39 y + D 25 e) = 1) ∧ (¬ on y (D 29 e) → N (D 39 y + D 25 e) = M (D 39 y + D 25 e))) ∧ (D 20 e = 25 → (on y (D 29 e) ∧ on y (D 29 (D 22 e)) → N (D 39 y + D 25 e) = w y (D 22 e)) ∧ (¬ (on y (D 29 e) ∧ on y (D 29 (D 22 e))) → N (D 39 y + D 25 e) = M (D 39 y + D 25 e))) ∧ (D 20 e = 6 → (on y (D 29 e) → N (D 39 y + D 25 e) = w y (D 23 (D 22 e)) ∧ N (D 39 y + D 25 e + 1) = 1) ∧ (¬ on y (D 29 e) → N (D 39 y + D 25 e) = M (D 39 y + D 25 e) ∧ N (D 39 y + D 25 e + 1) = M (D 39 y + D 25 e + 1)))
def LoE (D : St) (M : Int → Int) (N : Int → Int) (y e : Int) : Prop := (0 < stw (D 20 e) → N (D 39 y + D 25 e) = M (D 39 y + D 25 e)) ∧ (D 20 e = 6 → N (D 39 y + D 25 e + 1) = M (D 39 y + D 25 e + 1))
theorem LtE.ag {D : St} {M N N' : Int → Int} {w : Int → Int → Int} {on : Int → Int → Prop} {y e : Int} (h : LtE D M w on N y e) (g : 0 < stw (D 20 e) → ∀ i, D 39 y + D 25 e ≤ i → i < D 39 y + D 25 e + stw (D 20 e) → N' i = N i) : LtE D M w on N' y e := by
  obtain ⟨h1, h2, h3, h4⟩ := h
  have g0 : D 20 e = 24 ∨ D 20 e = 5 ∨ D 20 e = 25 → N' (D 39 y + D 25 e) = N (D 39 y + D 25 e) := fun q => by
    have s := stw_24 q
    exact g (by omega) _ (Int.le_refl _) (by omega)
  have g6 : D 20 e = 6 → N' (D 39 y + D 25 e) = N (D 39 y + D 25 e) ∧ N' (D 39 y + D 25 e + 1) = N (D 39 y + D 25 e + 1) := fun q => by
    have s := stw_6 q
    exact ⟨g (by omega) _ (Int.le_refl _) (by omega), g (by omega) _ (by omega) (by omega)⟩
  refine ⟨fun q => ?_, fun q => ?_, fun q => ?_, fun q => ?_⟩
  · rw [g0 (by omega)]; exact h1 q
  · rw [g0 (by omega)]; exact h2 q
  · rw [g0 (by omega)]; exact h3 q
  · rw [(g6 q).1, (g6 q).2]; exact h4 q
theorem LoE.ag {D : St} {M N N' : Int → Int} {y e : Int} (h : LoE D M N y e) (g : 0 < stw (D 20 e) → ∀ i, D 39 y + D 25 e ≤ i → i < D 39 y + D 25 e + stw (D 20 e) → N' i = N i) : LoE D M N' y e := by
  refine ⟨fun q => ?_, fun q => ?_⟩
  · rw [g q _ (Int.le_refl _) (by omega)]; exact h.1 q
  · have s := stw_6 q
    rw [g (by omega) _ (by omega) (by omega)]; exact h.2 q
theorem LtE.no {D : St} {M N : Int → Int} {w : Int → Int → Int} {on : Int → Int → Prop} {y e : Int} (h : LoE D M N y e) (q : ¬ on y (D 29 e)) : LtE D M w on N y e := by
  have s : D 20 e = 24 ∨ D 20 e = 5 ∨ D 20 e = 25 → N (D 39 y + D 25 e) = M (D 39 y + D 25 e) := fun z => h.1 (by have := stw_24 z; omega)
  exact ⟨fun z => ⟨fun a => absurd a q, fun _ => s (by omega)⟩, fun z => ⟨fun a => absurd a q, fun _ => s (by omega)⟩, fun z => ⟨fun a => absurd a.1 q, fun _ => s (by omega)⟩, fun z => ⟨fun a => absurd a q, fun _ => ⟨h.1 (by have := stw_6 z; omega), h.2 z⟩⟩⟩
/-- what is remembered, up to the part e0 of the instance x -/
def LtI (D : St) (M : Int → Int) (w : Int → Int → Int) (on : Int → Int → Prop) (N : Int → Int) (x e0 : Int) : Prop := ∀ y e, 0 ≤ y → y < D 0 50 → psN D (D 35 y) ≤ e → e < peN D (D 35 y) → ((y < x ∨ y = x ∧ e < e0) → LtE D M w on N y e) ∧ (¬ (y < x ∨ y = x ∧ e < e0) → LoE D M N y e)
section RM
variable {D : St} {u M : Int → Int} {w : Int → Int → Int} {on : Int → Int → Prop} {τ : Int → Int → Int} {P : Int → Int}
theorem ce_sep (l : LkM D) (pp : PpI D D 0 P) {x e y e' : Int} (x0 : 0 ≤ x) (x1 : x < D 0 50) (e1 : psN D (D 35 x) ≤ e) (e2 : e < peN D (D 35 x)) (y0 : 0 ≤ y) (y1 : y < D 0 50) (f1 : psN D (D 35 y) ≤ e') (f2 : e' < peN D (D 35 y)) (q : 0 < stw (D 20 e)) (q' : 0 < stw (D 20 e')) (ne : ¬ (y = x ∧ e' = e)) : D 39 y + D 25 e' + stw (D 20 e') ≤ D 39 x + D 25 e ∨ D 39 x + D 25 e + stw (D 20 e) ≤ D 39 y + D 25 e' := by
  have a := (l.nd x0 x1).st e1 e2 q
  have b := (l.nd y0 y1).st f1 f2 q'
  by_cases z : y = x
  · subst z
    by_cases z2 : e' < e
    · have := (l.nd y0 y1).od f1 z2 e2 q' q
      exact Or.inl (by omega)
    · have := (l.nd y0 y1).od e1 (show e < e' by omega) f2 q q'
      exact Or.inr (by omega)
  · by_cases z2 : y < x
    · have := (pp y x y0 z2 x1).2.1.1
      exact Or.inl (by omega)
    · have := (pp x y x0 (by omega) y1).2.1.1
      exact Or.inr (by omega)
theorem LtI.up (l : LkM D) (pp : PpI D D 0 P) {N N' : Int → Int} {x e : Int} (h : LtI D M w on N x e) (x0 : 0 ≤ x) (x1 : x < D 0 50) (e1 : psN D (D 35 x) ≤ e) (e2 : e < peN D (D 35 x)) (g : ∀ i, ¬ (0 < stw (D 20 e) ∧ D 39 x + D 25 e ≤ i ∧ i < D 39 x + D 25 e + stw (D 20 e)) → N' i = N i) (n : LtE D M w on N' x e) : LtI D M w on N' x (e + 1) := fun y e' y0 y1 f1 f2 => by
  by_cases z : y = x ∧ e' = e
  · rw [z.1, z.2]
    exact ⟨fun _ => n, fun q => by exfalso; omega⟩
  · have hh := h y e' y0 y1 f1 f2
    have gg : 0 < stw (D 20 e') → ∀ i, D 39 y + D 25 e' ≤ i → i < D 39 y + D 25 e' + stw (D 20 e') → N' i = N i := fun q' i i1 i2 => g i (fun c => by
      have := ce_sep l pp x0 x1 e1 e2 y0 y1 f1 f2 c.1 q' z
      omega)
    exact ⟨fun q => (hh.1 (by omega)).ag gg, fun q => (hh.2 (by omega)).ag gg⟩
set_option maxHeartbeats 1000000 in
theorem rm_L34 (R : RfS D u w on M τ) (pp : PpI D D 0 P) {δ0 : St} (km0 : KM D δ0) (hM : ∀ k, δ0 52 k = M k) (hd0 : HdV D δ0 u on (fun _ => True)) {x k : Int} (x0 : 0 ≤ x) (x1 : x < D 0 50) (k1 : D 7 (D 35 x) ≤ k) (k2 : k < D 7 (D 35 x + 1)) {x231 : St → Int → Int → Int → Option (Int × St)} {Q : Int × St → Prop} (hx : ∀ δ', F53 δ0 δ' → LtI D M w on (δ' 53) x (D 17 k + 1) → pc (x231 δ' x (D 35 x) k) Q) : ∀ (n : Nat) (δ : St) (e : Int), F53 δ0 δ → LtI D M w on (δ 53) x e → (∀ e', D 19 k ≤ e' → e' < e → on x (D 29 e') → δ 54 e' = w x e' ∧ (τ k e' = 1 → Bl (w x e'))) → D 19 k ≤ e → e ≤ D 17 k + 1 → pc (f_M_remember_L34 x231 n δ x (D 35 x) k e) Q := by
  have R' := R
  obtain ⟨l, ar, wk, vr, ⟨p0, p1, p2⟩, ty, mb⟩ := R
  have fu := FU_v
  have m50 := l.2.2.1
  have nd := l.nd x0 x1
  have sz := nd.sz
  have eq := nd.eq k1 k2
  have ixx := (l.2.2.2.2.2.2.2.2.1 x x0 x1).1.1
  have an := ar _ ixx.1 ixx.2
  intro n
  induction n with
  | zero => intro δ e _ _ _ _ _; exact pc_n
  | succ n ih =>
    intro δ e f lt iv h1 h2
    have km : KM D δ := fun j k q1 q2 q3 q4 => by rw [f j k (by omega) (by omega)]; exact km0 j k q1 q2 q3 q4
    have fl := km.fL
    have rk := km.rk
    have hd : HdV D δ u on (fun _ => True) := fun v q1 q2 => by rw [f 55 v (by omega) (by omega), f 51 v (by omega) (by omega)]; exact hd0 v q1 q2
    have e50 : δ 0 50 = D 0 50 := km 0 50 (by omega) (by omega) (by omega) (by omega)
    unfold f_M_remember_L34
    rw [rk 17 k (by omega) (by omega)]
    refine pc_c (fun _ => pc_i (fun q => hx δ f (by rw [show D 17 k + 1 = e by omega]; exact lt)) (fun q => pc_c (fun _ => ?_)))
    have er : psN D (D 35 x) ≤ e ∧ e < peN D (D 35 x) := by omega
    obtain ⟨ks, g1, g2, g3, g4, g5, gf, _⟩ := nd.pt er.1 er.2
    have gl := nd.gl k1 k2 h1 (by omega)
    have pr := pr_on2 R' km hd (m := FU) (x := x) (c := D 29 e) x0 x1 (by omega) gf (Or.inr trivial)
    rw [rk 29 e (by omega) (by omega), bndN_eq (present_eq (l.fl fl) x0 (by omega) (by rw [rk 35 _ (by omega) (by omega), fl.nv]; exact gf))]
    have lo := (lt x e x0 x1 er.1 er.2).2 (by omega)
    refine pc_i (fun q3 => ?_) (fun q3 => ?_)
    · have hon := pr.1 q3
      have wa := wk_at R' km (fun k => by rw [f 52 k (by omega) (by omega)]; exact hM k) hd x0 x1 k1 k2 (e := e) h1 (by omega) hon (fun _ _ => trivial) (fun ms j y c1 hj np oy => by
        rw [Ch.uniq c1 g1] at hj
        have my := g2.mem y (List.mem_of_getElem? hj)
        exact iv y (by omega) my.2 oy)
      refine pc_b wa.1 (fun r δ1 z => ?_)
      have z : δ1 = setA δ 54 e (w x e) := z
      have s1 : ∀ j t, δ1 j t = if j = 54 ∧ t = e then w x e else δ j t := fun j t => by rw [z, stA]
      have so : ∀ j t, (j ≠ 54 ∨ t ≠ e) → δ1 j t = δ j t := fun j t q => by rw [s1, if_neg (by omega)]
      have rk1 : ∀ j t, 2 ≤ j → j ≤ 43 → δ1 j t = D j t := fun j t w1 w2 => by rw [so j t (by omega)]; exact rk j t w1 w2
      have f1 : F53 δ0 δ1 := fun j t w1 w2 => by rw [so j t (by omega)]; exact f j t w1 w2
      have km1 : KM D δ1 := fun j t q1 q2 q3 q4 => by rw [f1 j t (by omega) (by omega)]; exact km0 j t q1 q2 q3 q4
      have hd1 : HdV D δ1 u on (fun _ => True) := fun v q1 q2 => by rw [f1 55 v (by omega) (by omega), f1 51 v (by omega) (by omega)]; exact hd0 v q1 q2
      -- the rest of it
      have t225 : ∀ δ2 : St, (∀ j t, j ≠ 53 → δ2 j t = δ1 j t) → (∀ i, ¬ (0 < stw (D 20 e) ∧ D 39 x + D 25 e ≤ i ∧ i < D 39 x + D 25 e + stw (D 20 e)) → δ2 53 i = δ1 53 i) → LtE D M w on (δ2 53) x e → pc (f_M_remember_b225 (f_M_remember_L34 x231 n) x231 δ2 x (D 35 x) k e) Q := fun δ2 g1' g2' g3' => by
        unfold f_M_remember_b225
        refine pc_c (fun _ => ih δ2 (e + 1) (fun j t w1 w2 => by rw [g1' j t w1]; exact f1 j t w1 w2) (lt.up l pp x0 x1 er.1 er.2 (fun i hi => by rw [g2' i hi, so 53 i (by omega)]) g3') (fun e' w1 w2 w3 => ?_) (by omega) (by omega))
        rw [g1' 54 e' (by omega), s1]
        by_cases y : e' = e
        · rw [if_pos ⟨rfl, y⟩, y]; exact ⟨rfl, wa.2⟩
        · rw [if_neg (by omega)]; exact iv e' w1 (by omega) w3
      have s181 : D 20 e ≠ 6 → ∀ δ2 : St, (∀ j t, j ≠ 53 → δ2 j t = δ1 j t) → (∀ i, ¬ (0 < stw (D 20 e) ∧ D 39 x + D 25 e ≤ i ∧ i < D 39 x + D 25 e + stw (D 20 e)) → δ2 53 i = δ1 53 i) → LtE D M w on (δ2 53) x e → pc (f_M_remember_b181 (f_M_remember_L34 x231 n) x231 δ2 x (D 35 x) k e (D 39 x + D 25 e) (D 22 e)) Q := fun n6 δ2 g1' g2' g3' => by
        unfold f_M_remember_b181
        rw [g1' 20 e (by omega), rk1 20 e (by omega) (by omega)]
        exact pc_c (fun _ => pc_i (fun y => absurd y n6) (fun _ => t225 δ2 g1' g2' g3'))
      have s140 : D 20 e ≠ 6 → D 20 e ≠ 25 → ∀ δ2 : St, (∀ j t, j ≠ 53 → δ2 j t = δ1 j t) → (∀ i, ¬ (0 < stw (D 20 e) ∧ D 39 x + D 25 e ≤ i ∧ i < D 39 x + D 25 e + stw (D 20 e)) → δ2 53 i = δ1 53 i) → LtE D M w on (δ2 53) x e → pc (f_M_remember_b140 (f_M_remember_L34 x231 n) x231 δ2 x (D 35 x) k e (D 39 x + D 25 e) (D 22 e)) Q := fun n6 n25 δ2 g1' g2' g3' => by
        unfold f_M_remember_b140
        rw [g1' 20 e (by omega), rk1 20 e (by omega) (by omega)]
        exact pc_c (fun _ => pc_i (fun y => s181 n6 δ2 g1' g2' g3') (fun y => absurd n25 y))
      have kid : ∀ (j : Nat) y, ks[j]? = some y → D 20 e ≠ 25 → δ1 54 y = w x y := fun j y hj n25 => by
        have my := g2.mem y (List.mem_of_getElem? hj)
        rw [so 54 y (by omega)]
        exact (iv y (by omega) my.2 (kid_on R' x0 x1 k1 k2 h1 (by omega) g1 (List.mem_of_getElem? hj) n25 hon)).1
      rw [rk1 39 x (by omega) (by omega), rk1 25 e (by omega) (by omega), rk1 22 e (by omega) (by omega), rk1 20 e (by omega) (by omega)]
      refine pc_c (fun _ => pc_c (fun _ => pc_c (fun _ => pc_a (pc_c (fun _ => pc_a (pc_c (fun _ => pc_i (fun n24 => ?_) (fun q24 => ?_))))))))
      · unfold f_M_remember_b121
        rw [rk1 20 e (by omega) (by omega)]
        refine pc_c (fun _ => pc_i (fun n5 => ?_) (fun q5 => ?_))
        · unfold f_M_remember_b140
          rw [rk1 20 e (by omega) (by omega)]
          refine pc_c (fun _ => pc_i (fun n25 => ?_) (fun q25 => ?_))
          · unfold f_M_remember_b181
            rw [rk1 20 e (by omega) (by omega)]
            refine pc_c (fun _ => pc_i (fun q6 => ?_) (fun n6 => ?_))
            · rw [rk1 23 _ (by omega) (by omega)]
              have l2 := g4.2.2.2.1 (by omega)
              have kb := kid 1 _ ((ch_kd g1).2.1 (by omega)) (by omega)
              rw [kb]
              refine pc_c (fun _ => pc_c (fun _ => pc_c (fun _ => pc_a (pc_c (fun _ => pc_c (fun _ => pc_a ?_))))))
              have s2 : ∀ j t, setA (setA δ1 53 (D 39 x + D 25 e) (w x (D 23 (D 22 e)))) 53 (D 39 x + D 25 e + 1) 1 j t = if j = 53 ∧ t = D 39 x + D 25 e + 1 then 1 else if j = 53 ∧ t = D 39 x + D 25 e then w x (D 23 (D 22 e)) else δ1 j t := fun j t => by rw [stA, stA]
              generalize setA (setA δ1 53 (D 39 x + D 25 e) (w x (D 23 (D 22 e)))) 53 (D 39 x + D 25 e + 1) 1 = δ2 at *
              have st := stw_6 q6
              refine t225 δ2 (fun j t y => by rw [s2, if_neg (by omega), if_neg (by omega)]) (fun i hi => by rw [s2, if_neg (by omega), if_neg (by omega)]) ⟨fun y => by omega, fun y => by omega, fun y => by omega, fun _ => ⟨fun _ => ⟨?_, ?_⟩, fun y => absurd hon y⟩⟩
              · rw [s2, if_neg (by omega), if_pos ⟨rfl, rfl⟩]
              · rw [s2, if_pos ⟨rfl, rfl⟩]
            · exact t225 δ1 (fun _ _ _ => rfl) (fun _ _ => rfl) ⟨fun y => absurd y n24, fun y => absurd y n5, fun y => absurd y n25, fun y => absurd y n6⟩
          · have q25 : D 20 e = 25 := by omega
            have k1' := (nd.kd er.1 er.2).2.1 (by omega)
            obtain ⟨_, _, _, _, _, _, fv, _⟩ := nd.pt (e := D 22 e) k1'.1 (by omega)
            have pr2 := pr_on2 R' km1 hd1 (m := FU) (x := x) (c := D 29 (D 22 e)) x0 x1 (by omega) fv (Or.inr trivial)
            have fl1 := km1.fL
            have st := stw_24 (k := D 20 e) (by omega)
            rw [rk1 29 _ (by omega) (by omega), bndN_eq (present_eq (l.fl fl1) x0 (by rw [km1 0 50 (by omega) (by omega) (by omega) (by omega)]; exact x1) (by rw [rk1 35 _ (by omega) (by omega), fl1.nv]; exact fv))]
            refine pc_c (fun _ => pc_i (fun y => ?_) (fun y => ?_))
            · refine s181 (by omega) δ1 (fun _ _ _ => rfl) (fun _ _ => rfl) ⟨fun y => by omega, fun y => by omega, fun _ => ⟨fun a => absurd y (pr2.2 a.2), fun _ => ?_⟩, fun y => by omega⟩
              rw [so 53 _ (by omega)]; exact lo.1 (by omega)
            · have oa := pr2.1 y
              have l1 : ks.length = 1 := g4.2.2.2.2 (by omega)
              have my := g2.mem (D 22 e) (List.mem_of_getElem? ((ch_kd g1).1 (by omega)))
              have wa2 : δ1 54 (D 22 e) = w x (D 22 e) := by rw [so 54 _ (by omega)]; exact (iv _ (by omega) my.2 oa).1
              rw [wa2]
              refine pc_c (fun _ => pc_c (fun _ => pc_a ?_))
              have s2 : ∀ j t, setA δ1 53 (D 39 x + D 25 e) (w x (D 22 e)) j t = if j = 53 ∧ t = D 39 x + D 25 e then w x (D 22 e) else δ1 j t := fun j t => by rw [stA]
              generalize setA δ1 53 (D 39 x + D 25 e) (w x (D 22 e)) = δ2 at *
              exact s181 (by omega) δ2 (fun j t y => by rw [s2, if_neg (by omega)]) (fun i hi => by rw [s2, if_neg (by omega)]) ⟨fun y => by omega, fun y => by omega, fun _ => ⟨fun _ => by rw [s2, if_pos ⟨rfl, rfl⟩], fun y => absurd ⟨hon, oa⟩ y⟩, fun y => by omega⟩
        · have q5 : D 20 e = 5 := by omega
          have st := stw_24 (k := D 20 e) (by omega)
          refine pc_c (fun _ => pc_a ?_)
          have s2 : ∀ j t, setA δ1 53 (D 39 x + D 25 e) 1 j t = if j = 53 ∧ t = D 39 x + D 25 e then 1 else δ1 j t := fun j t => by rw [stA]
          generalize setA δ1 53 (D 39 x + D 25 e) 1 = δ2 at *
          exact s140 (by omega) (by omega) δ2 (fun j t y => by rw [s2, if_neg (by omega)]) (fun i hi => by rw [s2, if_neg (by omega)]) ⟨fun y => by omega, fun _ => ⟨fun _ => by rw [s2, if_pos ⟨rfl, rfl⟩], fun y => absurd hon y⟩, fun y => by omega, fun y => by omega⟩
      · have q24 : D 20 e = 24 := by omega
        have st := stw_24 (k := D 20 e) (by omega)
        have l1 : ks.length = 1 := g4.2.2.2.2 (by omega)
        rw [kid 0 _ ((ch_kd g1).1 (by omega)) (by omega)]
        refine pc_c (fun _ => pc_c (fun _ => pc_a ?_))
        have s2 : ∀ j t, setA δ1 53 (D 39 x + D 25 e) (w x (D 22 e)) j t = if j = 53 ∧ t = D 39 x + D 25 e then w x (D 22 e) else δ1 j t := fun j t => by rw [stA]
        generalize setA δ1 53 (D 39 x + D 25 e) (w x (D 22 e)) = δ2 at *
        unfold f_M_remember_b121
        rw [show δ2 20 e = D 20 e by rw [s2, if_neg (by omega)]; exact rk1 20 e (by omega) (by omega)]
        refine pc_c (fun _ => pc_i (fun _ => ?_) (fun y => by exfalso; omega))
        exact s140 (by omega) (by omega) δ2 (fun j t y => by rw [s2, if_neg (by omega)]) (fun i hi => by rw [s2, if_neg (by omega)]) ⟨fun _ => ⟨fun _ => by rw [s2, if_pos ⟨rfl, rfl⟩], fun y => absurd hon y⟩, fun y => by omega, fun y => by omega, fun y => by omega⟩
    · have non : ¬ on x (D 29 e) := fun y => q3 (pr.2 y)
      unfold f_M_remember_b225
      refine pc_c (fun _ => ih δ (e + 1) f (lt.up l pp x0 x1 er.1 er.2 (fun _ _ => rfl) (LtE.no lo non)) (fun e' w1 w2 w3 => ?_) (by omega) (by omega))
      by_cases y : e' = e
      · rw [y] at w3; exact absurd w3 non
      · exact iv e' w1 (by omega) w3
theorem rm_L14 (R : RfS D u w on M τ) (pp : PpI D D 0 P) {δ0 : St} (km0 : KM D δ0) (hM : ∀ k, δ0 52 k = M k) (hd0 : HdV D δ0 u on (fun _ => True)) {x : Int} (x0 : 0 ≤ x) (x1 : x < D 0 50) : ∀ (n : Nat) (δ : St) (k t : Int), F53 δ0 δ → LtI D M w on (δ 53) x t → D 7 (D 35 x) ≤ k → k ≤ D 7 (D 35 x + 1) → (k < D 7 (D 35 x + 1) → D 19 k = t) → (k = D 7 (D 35 x + 1) → t = peN D (D 35 x)) → pc (f_M_remember_L14 n δ x (D 35 x) k) (fun z => F53 δ0 z.2 ∧ LtI D M w on (z.2 53) x (peN D (D 35 x))) := by
  have l := R.1
  have nd := l.nd x0 x1
  have sz := nd.sz
  intro n
  induction n with
  | zero => intro δ k t _ _ _ _ _ _; exact pc_n
  | succ n ih =>
    intro δ k t f lt h1 h2 h3 h4
    have km : KM D δ := fun j k q1 q2 q3 q4 => by rw [f j k (by omega) (by omega)]; exact km0 j k q1 q2 q3 q4
    unfold f_M_remember_L14
    rw [km.rk 7 _ (by omega) (by omega), km.rk 19 _ (by omega) (by omega)]
    refine pc_c (fun _ => pc_c (fun _ => pc_i (fun q => pc_s ⟨f, by rw [← h4 (by omega)]; exact lt⟩) (fun q => pc_c (fun _ => pc_a ?_))))
    have eq := nd.eq h1 (show k < D 7 (D 35 x + 1) by omega)
    rw [h3 (by omega)]
    refine rm_L34 R pp km0 hM hd0 x0 x1 h1 (by omega) (fun δ' f' lt' => ?_) FU δ t f lt (fun e' w1 w2 => by have := h3 (by omega); exfalso; omega) (by have := h3 (by omega); omega) (by have := h3 (by omega); omega)
    unfold f_M_remember_b231
    exact pc_c (fun _ => ih δ' (k + 1) (D 17 k + 1) f' lt' (by omega) (by omega) (fun z => eq.2.2.2.2.2.2.1 z) (fun z => eq.2.2.2.2.2.2.2 z))
theorem rm_pc (R : RfS D u w on M τ) (pp : PpI D D 0 P) {δ : St} (km : KM D δ) (hM : ∀ k, δ 52 k = M k) (hd : HdV D δ u on (fun _ => True)) {x : Int} (x0 : 0 ≤ x) (x1 : x < D 0 50) (lt : LtI D M w on (δ 53) x 0) : pc (f_M_remember δ x) (fun z => F53 δ z.2 ∧ LtI D M w on (z.2 53) (x + 1) 0) := by
  have l := R.1
  have nd := l.nd x0 x1
  have sz := nd.sz
  unfold f_M_remember
  refine pc_c (fun _ => pc_a (pc_c (fun _ => pc_a ?_)))
  rw [km.rk 35 x (by omega) (by omega), km.rk 7 _ (by omega) (by omega)]
  refine pc_m (rm_L14 R pp km hM hd x0 x1 FU δ _ (psN D (D 35 x)) (fun _ _ _ _ => rfl) (fun y e y0 y1 f1 f2 => ?_) (Int.le_refl _) (by omega) (fun _ => rfl) (fun z => by omega)) (fun z hz => ⟨hz.1, fun y e y0 y1 f1 f2 => ?_⟩)
  · have h := lt y e y0 y1 f1 f2
    have szy := (l.nd y0 y1).sz
    by_cases q : y = x
    · rw [q] at f1 h ⊢
      exact ⟨fun a => h.1 (by omega), fun a => h.2 (by omega)⟩
    · exact ⟨fun a => h.1 (by omega), fun a => h.2 (by omega)⟩
  · have h := hz.2 y e y0 y1 f1 f2
    have szy := (l.nd y0 y1).sz
    by_cases q : y = x
    · rw [q] at f2 h ⊢
      exact ⟨fun a => h.1 (by omega), fun a => h.2 (by omega)⟩
    · exact ⟨fun a => h.1 (by omega), fun a => h.2 (by omega)⟩
/-- an instant of the reference -/
def InQ (D : St) (u M : Int → Int) (w : Int → Int → Int) (on : Int → Int → Prop) (δ δ' : St) : Prop := F5x δ δ' ∧ HdV D δ' u on (fun _ => True) ∧ (∀ y e, 0 ≤ y → y < D 0 50 → psN D (D 35 y) ≤ e → e < peN D (D 35 y) → LtE D M w on (δ' 52) y e) ∧ δ' 0 72 = δ 0 72 + 1
theorem in_pc (R : RfS D u w on M τ) (O : OrR D) (pp : PpI D D 0 P) {I : Int → Int} (hi : ∀ i, 0 ≤ i → i < D 5 (D 35 0) → u i = I i ∧ (tyV D i = 1 → Bl (I i))) {δ : St} (km : KM D δ) (hM : ∀ k, δ 52 k = M k) (hI : ∀ k, 0 ≤ k → k < D 5 (D 35 0) → δ 50 k = I k) : pc (f_M_instant δ) (fun z => InQ D u M w on δ z.2) := by
  have l := R.1
  have m52 := l.2.2.2.2.1
  have m50 := l.2.2.1
  have e51 : ∀ δ', KM D δ' → δ' 0 51 = D 0 51 := fun δ' k => k 0 51 (by omega) (by omega) (by omega) (by omega)
  -- what comes behind the variables
  have end1 : ∀ δ1, (∀ j k, j ≠ 51 → j ≠ 54 → j ≠ 55 → δ1 j k = δ j k) → HdV D δ1 u on (fun _ => True) → pc (f_M_instant_b250 δ1) (fun z => InQ D u M w on δ z.2) := fun δ1 f1 hd1 => by
    have km1 : KM D δ1 := fun j k q1 q2 q3 q4 => by rw [f1 j k (by omega) (by omega) (by omega)]; exact km j k q1 q2 q3 q4
    unfold f_M_instant_b250
    refine pc_c (fun _ => pc_a ?_)
    have e52 : δ1 0 52 = D 0 52 := km1 0 52 (by omega) (by omega) (by omega) (by omega)
    rw [e52]
    have s : ∀ j k, cpA δ1 52 53 (D 0 52) j k = if j = 53 ∧ 0 ≤ k ∧ k < D 0 52 then δ1 52 k else δ1 j k := fun j k => rfl
    generalize cpA δ1 52 53 (D 0 52) = δ2 at *
    have s0 : ∀ j k, j ≠ 53 → δ2 j k = δ1 j k := fun j k q => by rw [s, if_neg (by omega)]
    have h52 : ∀ k, δ2 52 k = M k := fun k => by rw [s0 52 k (by omega), f1 52 k (by omega) (by omega) (by omega)]; exact hM k
    have ce : ∀ y e, 0 ≤ y → y < D 0 50 → psN D (D 35 y) ≤ e → e < peN D (D 35 y) → 0 < stw (D 20 e) → 0 ≤ D 39 y + D 25 e ∧ D 39 y + D 25 e + stw (D 20 e) ≤ D 0 52 := fun y e y0 y1 f1 f2 q => by
      have a := (l.nd y0 y1).st f1 f2 q
      have b := (l.2.2.2.2.2.2.2.2.1 y y0 y1).1.2.2.1
      omega
    have lt0 : LtI D M w on (δ2 53) 0 0 := fun y e y0 y1 g1 g2 => by
      have szy := (l.nd y0 y1).sz
      refine ⟨fun q => by exfalso; omega, fun _ => ⟨fun q => ?_, fun q => ?_⟩⟩
      · have c := ce y e y0 y1 g1 g2 q
        rw [s, if_pos ⟨rfl, by omega, by omega⟩, ← s0 52 _ (by omega)]; exact h52 _
      · have st := stw_6 q
        have c := ce y e y0 y1 g1 g2 (by omega)
        rw [s, if_pos ⟨rfl, by omega, by omega⟩, ← s0 52 _ (by omega)]; exact h52 _
    have loop : ∀ (n : Nat) (δ3 : St) (x : Int), F53 δ2 δ3 → LtI D M w on (δ3 53) x 0 → 0 ≤ x → x ≤ D 0 50 → pc (f_M_instant_L269 f_M_instant_b288 n δ3 x) (fun z => InQ D u M w on δ z.2) := by
      intro n
      induction n with
      | zero => intro δ3 x _ _ _ _; exact pc_n
      | succ n ih =>
        intro δ3 x f3 lt x0 x1
        have g3 : ∀ j k, j ≠ 51 → j ≠ 53 → j ≠ 54 → j ≠ 55 → δ3 j k = δ j k := fun j k q1 q2 q3 q4 => by rw [f3 j k q2 q3, s0 j k q2]; exact f1 j k q1 q3 q4
        have km3 : KM D δ3 := fun j k q1 q2 q3 q4 => by rw [g3 j k (by omega) (by omega) (by omega) (by omega)]; exact km j k q1 q2 q3 q4
        have hd3 : HdV D δ3 u on (fun _ => True) := fun v q1 q2 => by rw [f3 55 v (by omega) (by omega), f3 51 v (by omega) (by omega), s0 55 v (by omega), s0 51 v (by omega)]; exact hd1 v q1 q2
        unfold f_M_instant_L269
        rw [km3 0 50 (by omega) (by omega) (by omega) (by omega)]
        refine pc_i (fun q => ?_) (fun q => ?_)
        · unfold f_M_instant_b288
          rw [km3 0 52 (by omega) (by omega) (by omega) (by omega)]
          refine pc_c (fun _ => pc_a ?_)
          have c : ∀ j k, cpA δ3 53 52 (D 0 52) j k = if j = 52 ∧ 0 ≤ k ∧ k < D 0 52 then δ3 53 k else δ3 j k := fun j k => rfl
          generalize cpA δ3 53 52 (D 0 52) = δ4 at *
          have c0 : ∀ j k, j ≠ 52 → δ4 j k = δ3 j k := fun j k q => by rw [c, if_neg (by omega)]
          refine pc_c (fun _ => pc_a (pc_s ?_))
          have t : ∀ j k, setA δ4 0 72 (δ4 0 72 + 1) j k = if j = 0 ∧ k = 72 then δ4 0 72 + 1 else δ4 j k := fun j k => by rw [stA]
          show InQ D u M w on δ (setA δ4 0 72 (δ4 0 72 + 1))
          generalize setA δ4 0 72 (δ4 0 72 + 1) = δ5 at *
          have t0 : ∀ j k, j ≠ 0 → δ5 j k = δ4 j k := fun j k q => by rw [t, if_neg (by omega)]
          refine ⟨fun j k q1 q2 => by rw [t, if_neg (by omega), c0 j k (by omega)]; exact g3 j k (by omega) (by omega) (by omega) (by omega), fun v q1 q2 => by rw [t0 55 v (by omega), t0 51 v (by omega), c0 55 v (by omega), c0 51 v (by omega)]; exact hd3 v q1 q2, fun y e y0 y1 a1 a2 => ?_, by rw [t, if_pos ⟨rfl, rfl⟩, c0 0 72 (by omega), g3 0 72 (by omega) (by omega) (by omega) (by omega)]⟩
          refine ((lt y e y0 y1 a1 a2).1 (by omega)).ag (fun q i i1 i2 => ?_)
          have cc := ce y e y0 y1 a1 a2 q
          rw [t0 52 i (by omega), c, if_pos ⟨rfl, by omega, by omega⟩]
        · refine pc_b (rm_pc R pp km3 (fun k => by rw [f3 52 k (by omega) (by omega)]; exact h52 k) hd3 x0 (by omega) lt) (fun r δ4 z => pc_c (fun _ => ih δ4 (x + 1) (fun j k q1 q2 => (z.1 j k q1 q2).trans (f3 j k q1 q2)) z.2 (by omega) (by omega)))
    exact loop FU δ2 0 (fun _ _ _ _ => rfl) lt0 (Int.le_refl _) (by omega)
  have loop2 : ∀ (n : Nat) (δ1 : St) (v : Int), (∀ j k, j ≠ 55 → δ1 j k = δ j k) → (∀ u, 0 ≤ u → u < v → δ1 55 u = 0) → 0 ≤ v → pc (f_M_instant_L2 f_M_instant_b23 n δ1 v) (fun z => InQ D u M w on δ z.2) := by
    intro n
    induction n with
    | zero => intro δ1 v _ _ _; exact pc_n
    | succ n ih =>
      intro δ1 v f1 z1 v0
      have km1 : KM D δ1 := fun j k q1 q2 q3 q4 => by rw [f1 j k (by omega)]; exact km j k q1 q2 q3 q4
      unfold f_M_instant_L2
      rw [e51 δ1 km1]
      refine pc_i (fun q => ?_) (fun q => ?_)
      · unfold f_M_instant_b23
        exact in_L25 (I := I) R O hi km1 (fun k => by rw [f1 52 k (by omega)]; exact hM k) (fun k a b => by rw [f1 50 k (by omega)]; exact hI k a b) (fun δ' g1 g2 => end1 δ' (fun j k q1 q2 q3 => by rw [g1 j k q1 q2 q3]; exact f1 j k q3) g2) FU δ1 0 (fun _ _ _ _ _ => rfl) (fun v q1 q2 => ⟨Or.inl (z1 v q1 (by omega)), fun ⟨j, j1, j2, _⟩ => by exfalso; omega⟩) (fun v q1 q2 _ => z1 v q1 (by omega)) (Int.le_refl _) l.2.2.2.1.1
      · refine pc_c (fun _ => pc_a ?_)
        have s : ∀ j k, setA δ1 55 v 0 j k = if j = 55 ∧ k = v then 0 else δ1 j k := fun j k => by rw [stA]
        generalize setA δ1 55 v 0 = δ2 at *
        refine pc_c (fun _ => ih δ2 (v + 1) (fun j k q => by rw [s, if_neg (by omega)]; exact f1 j k q) (fun y q1 q2 => ?_) (by omega))
        · rw [s]
          by_cases z : y = v
          · rw [if_pos ⟨rfl, z⟩]
          · rw [if_neg (by omega)]; exact z1 y q1 (by omega)
  unfold f_M_instant
  exact loop2 FU δ 0 (fun _ _ _ => rfl) (fun y q1 q2 => by exfalso; omega) (Int.le_refl _)
end RM
