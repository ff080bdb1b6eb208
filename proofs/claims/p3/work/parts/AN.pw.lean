/-! the reference's instances: putIn -/
/-- all but row 41 is the same -/
theorem IsA.s41 {γ γ' : St} {x0 c0 i y : Int} (h : IsA γ x0 c0 y) (s : SN γ (γ 0 18)) (f : ∀ j k, (j = 41 → k ≠ i) → γ' j k = γ j k) (hi : i < c0) : IsA γ' x0 c0 y := by
  have ⟨h1, h2, h3, h4⟩ := h
  have g : ∀ j k, j ≠ 41 → γ' j k = γ j k := fun j k q => f j k (by omega)
  have nv : ∀ f, nvN γ' f = nvN γ f := fun f => by unfold nvN; rw [g 4 _ (by omega), g 4 _ (by omega)]
  have ps : ∀ f, psN γ' f = psN γ f := fun f => by unfold psN; rw [g 7 _ (by omega), g 19 _ (by omega)]
  have pe : ∀ f, peN γ' f = peN γ f := fun f => by unfold peN; rw [g 7 _ (by omega), g 17 _ (by omega)]
  refine ⟨?_, by rw [g 40 y (by omega)]; exact h2, fun q => ?_, fun e q1 q2 q3 => ?_⟩
  · unfold IsX
    rw [g 35 y (by omega), g 38 y (by omega), g 39 y (by omega), g 40 y (by omega), nv, g 0 18 (by omega), g 0 51 (by omega), g 0 52 (by omega), g 0 54 (by omega), g 9 _ (by omega), g 8 _ (by omega)]
    refine ⟨h1.1, h1.2.1, h1.2.2.1, h1.2.2.2.1, fun i q1 q2 => ?_⟩
    rw [g 42 _ (by omega), g 43 _ (by omega)]
    exact h1.2.2.2.2 i q1 q2
  · unfold IsO
    rw [g 36 y (by omega), g 37 y (by omega), g 35 _ (by omega), g 35 _ (by omega), ps, pe, g 20 _ (by omega), g 21 _ (by omega)]
    exact h3 q
  · rw [g 35 y (by omega), ps] at q1
    rw [g 35 y (by omega), pe] at q2
    rw [g 20 e (by omega)] at q3
    have c := (s _ h1.1.1 h1.1.2).cl q1 q2 q3
    obtain ⟨z, z1, z2, z3, z4, z5⟩ := h4 e q1 q2 q3
    refine ⟨z, ?_, by rw [g 0 50 (by omega)]; exact z2, by rw [g 35 z (by omega), g 21 e (by omega)]; exact z3, by rw [g 36 z (by omega)]; exact z4, by rw [g 37 z (by omega)]; exact z5⟩
    rw [g 40 y (by omega), g 25 e (by omega), f 41 _ (by omega)]
    exact z1
/-- a call is put in -/
theorem PuM.call {γ0 γ γ' γ'' : St} {n out call e g r : Int} {m m' : Nat} (h : PuM γ0 n out call e m γ) (s : SN γ0 (γ0 0 18)) (hn : NdS γ0 n) (h0 : psN γ0 n ≤ e) (hp : e < peN γ0 n) (c3 : γ0 20 e = 3) (hg : γ0 21 e = g) (k : PuK γ g (γ0 0 50) e r γ') (hs : sumC γ0 (psN γ0 n) m' = sumC γ0 (psN γ0 n) m + γ0 34 g) (e'' : γ'' = setA γ' 41 (γ0 0 54 + γ0 25 e) r) : PuM γ0 n out call e m' γ'' ∧ IsC γ'' (γ0 0 50) e := by
  have ⟨h1, h2, h3, h4, h5, h6, h7, ⟨a1, a2, a3, a4, a5, a6⟩, h9, h10, h11, h12⟩ := h
  obtain ⟨rfl, k1, k2, k3, ⟨k4, k5, k6, k7⟩, k8, k9⟩ := k
  rw [h1.ft 34 g (by omega) (by omega)] at k3
  have cl := hn.cl h0 hp c3
  have ⟨u0, u1, u2, u3, u4⟩ := k2
  have f1 : FP γ0 γ' := h1.tr k1 h2
  have w2 : Up γ0 γ' := h2.tr k2
  have ⟨v0, v1, v2, v3, v4⟩ := w2
  have sn : SN γ (γ 0 18) := fun x q1 q2 => h1.ft.ns (s x q1 (by rw [h1.ft 0 18 (by omega) (by omega)] at q2; exact q2))
  have sn' : SN γ' (γ' 0 18) := fun x q1 q2 => f1.ft.ns (s x q1 (by rw [f1.ft 0 18 (by omega) (by omega)] at q2; exact q2))
  have f : ∀ j i, (j = 41 → i ≠ γ0 0 54 + γ0 25 e) → γ'' j i = γ' j i := fun j i q => by rw [e'', stA, if_neg (by omega)]
  have fe : γ'' 41 (γ0 0 54 + γ0 25 e) = γ 0 50 := by rw [e'', stA, if_pos ⟨rfl, rfl⟩]
  have gx : ∀ j, 35 ≤ j → j ≤ 40 → γ'' j (γ0 0 50) = γ j (γ0 0 50) := fun j q1 q2 => by rw [f j _ (by omega)]; exact k1 j _ (by omega) (by omega) (by omega) (by omega)
  have f0 : ∀ i, γ'' 0 i = γ' 0 i := fun i => f 0 i (by omega)
  have c50 := f0 50
  have c51 := f0 51
  have c52 := f0 52
  have c53 := f0 53
  have c54 := f0 54
  have ya : ∀ y, γ0 0 50 < y → y < γ' 0 50 → IsA γ' (γ0 0 50) (γ0 0 54 + γ0 8 n) y := fun y q1 q2 => by
    by_cases q : y < γ 0 50
    · exact (h10 y q1 q).fp sn q k1 k2
    · have ⟨t1, t2, t3, t4⟩ := k8 y (by omega) q2
      refine ⟨t1, by omega, fun _ => ?_, t4⟩
      by_cases q3 : γ 0 50 < y
      · have ⟨o1, o2⟩ := t3 q3
        exact ⟨by omega, o2⟩
      · have ey : y = γ 0 50 := by omega
        rw [ey]
        unfold IsO
        rw [k5, k6, k4, k1 35 _ (by omega) (by omega) (by omega) (by omega), a1, f1.ft.ps, f1.ft.pe, f1.ft 20 _ (by omega) (by omega), f1.ft 21 _ (by omega) (by omega)]
        exact ⟨by omega, ⟨h0, hp⟩, c3, hg⟩
  constructor
  · refine ⟨fun j i q1 q2 q3 q4 => by rw [f j i (by omega)]; exact f1 j i q1 q2 q3 q4, ?_, by omega, by omega, by omega, by omega, by omega, ⟨by rw [gx 35 (by omega) (by omega)]; exact a1, by rw [gx 36 (by omega) (by omega)]; exact a2, by rw [gx 37 (by omega) (by omega)]; exact a3, by rw [gx 38 (by omega) (by omega)]; exact a4, by rw [gx 39 (by omega) (by omega)]; exact a5, by rw [gx 40 (by omega) (by omega)]; exact a6⟩, fun i q1 q2 => ?_, fun y q1 q2 => (ya y q1 (by omega)).s41 sn' f (by omega), fun i q1 q2 q3 => ?_, fun v q1 q2 => ?_⟩
    · unfold Up; rw [c50, c51, c52, c53, c54]; exact w2
    · rw [f 42 _ (by omega), f 43 _ (by omega), k1 42 _ (by omega) (by omega) (by omega) (by omega), k1 43 _ (by omega) (by omega) (by omega) (by omega)]
      exact h9 i q1 q2
    · have ci := hn.cl q1 (by omega) q3
      have ne : γ0 25 i ≠ γ0 25 e := fun q => by have := cl.2 i q1 (by omega) q3 q; omega
      obtain ⟨z, z1, z2, z3, z4, z5⟩ := (h11 i q1 q2 q3).fp h3.1 (by rw [a6, h1.ft 25 i (by omega) (by omega)]; omega) k1 k2
      have e40 : γ' 40 (γ0 0 50) = γ0 0 54 := by rw [k1 40 _ (by omega) (by omega) (by omega) (by omega)]; exact a6
      have e25 := f1.ft 25 i (by omega) (by omega)
      refine ⟨z, ?_, by omega, by rw [f 35 z (by omega), f 21 i (by omega)]; exact z3, by rw [f 36 z (by omega)]; exact z4, by rw [f 37 z (by omega)]; exact z5⟩
      rw [f 40 _ (by omega), f 25 _ (by omega), f 41 _ (by omega)]
      exact z1
    · have iv : IsV γ' (γ0 0 50) v := by
        by_cases q : v < γ 0 51
        · exact (h12 v q1 q).fp q k1 k2
        · have ⟨t1, t2⟩ := k9 v (by omega) (by omega)
          exact ⟨by omega, t2⟩
      unfold IsV
      rw [f 42 v (by omega), f 43 v (by omega), f 38 _ (by omega), f 35 _ (by omega), c50, show nvN γ'' = nvN γ' from funext fun x => by unfold nvN; rw [f 4 _ (by omega), f 4 _ (by omega)]]
      exact iv
  · refine ⟨γ 0 50, ?_, by omega, by rw [f 35 _ (by omega), f 21 _ (by omega), k4, f1.ft 21 _ (by omega) (by omega)]; exact hg.symm, by rw [f 36 _ (by omega)]; exact k5, by rw [f 37 _ (by omega)]; exact k6⟩
    rw [f 40 _ (by omega), f 25 _ (by omega), k1 40 _ (by omega) (by omega) (by omega) (by omega), a6, f1.ft 25 _ (by omega) (by omega)]
    exact fe
/-- putIn is safe for the node g -/
def PuS (E : Nat → St → Int → Int → Int → Option Res) (g : Int) : Prop := ∀ γ out call, SN γ (γ 0 18) → g < γ 0 18 → γ 0 18 ≤ 59 → PuR γ g → wp (E 0 γ g out call) (PuO γ g out call)
theorem stw_24 {k : Int} (h : k = 24 ∨ k = 5 ∨ k = 25) : stw k = 1 := by unfold stw; rw [if_pos h]
section PW
variable {γ0 : St} {n out call : Int} {E : Nat → St → Int → Int → Int → Option Res}
theorem w_putIn_b290 (s : SN γ0 (γ0 0 18)) (hn : NdS γ0 n) {γ : St} {k e : Int} {m : Nat} {x363 : St → Int → Int → Int → Option Res} {K : St → Int → Int → Int → Int → Option Res} {Q : Res → Prop} (h : PuM γ0 n out call e m γ) (h0 : psN γ0 n ≤ e) (hp : e < peN γ0 n) (hc : γ0 20 e = 3 → IsC γ (γ0 0 50) e) (h53 : γ 0 53 ≤ 100000 ∧ 0 ≤ γ 0 53) (hk : ∀ γ', PuM γ0 n out call (e + 1) m γ' → wp (K γ' n (γ0 0 50) k (e + 1)) Q) : wp (f_M_putIn_b290 E K x363 γ n (γ0 0 50) k e) Q := by
  have z := hn.sz.2.2.1
  have ft := h.1.ft
  have b357 : ∀ γ', PuM γ0 n out call (e + 1) m γ' → wp (f_M_putIn_b357 E K x363 γ' n (γ0 0 50) k e) Q := fun γ' h' => by
    unfold f_M_putIn_b357
    exact wp_chk (by omega) (hk γ' h')
  have st : ∀ γ' w, (∀ j i, (j = 0 → i ≠ 53) → γ' j i = γ j i) → γ' 0 53 = γ 0 53 + w → 0 ≤ w → w ≤ 2 → PuM γ0 n out call (e + 1) m γ' := fun γ' w f c w0 w2 => by
    have c0 : ∀ i, i ≠ 53 → γ' 0 i = γ 0 i := fun i q => f 0 i (by omega)
    have d0 := c0 50 (by omega)
    have d1 := c0 51 (by omega)
    have d2 := c0 52 (by omega)
    have d4 := c0 54 (by omega)
    exact h.mem s (fun j i q1 _ _ _ => f j i (by omega)) ⟨by omega, by omega, by omega, by omega, by omega⟩ d0 d1 d2 d4 (by omega) rfl h0 (Int.le_refl _) hc hn hp
  have nil : PuM γ0 n out call (e + 1) m γ := st γ 0 (fun _ _ _ => rfl) (by omega) (by omega) (by omega)
  have e20 := ft 20 e (by omega) (by omega)
  have b335 : γ0 20 e ≠ 6 → wp (f_M_putIn_b335 E K x363 γ n (γ0 0 50) k e) Q := fun q => by
    unfold f_M_putIn_b335
    rw [e20, if_pos q]
    exact wp_chk (by omega) (b357 γ nil)
  have b335' : γ0 20 e = 6 → wp (f_M_putIn_b335 E K x363 γ n (γ0 0 50) k e) Q := fun q => by
    unfold f_M_putIn_b335
    rw [e20, if_neg (by omega)]
    refine wp_chk (by omega) (wp_chk (by omega) (wp_sub (b357 _ (st _ 2 (fun j i q => by rw [stA, if_neg (by omega)]) (by rw [stA, if_pos ⟨rfl, rfl⟩]) (by omega) (by omega)))))
  have b325 : γ0 20 e ≠ 6 → wp (f_M_putIn_b325 E K x363 γ n (γ0 0 50) k e) Q := fun q => by
    unfold f_M_putIn_b325
    refine wp_chk (by omega) (wp_sub ?_)
    unfold f_M_putIn_b335
    rw [show setA γ 0 53 (γ 0 53 + 1) 20 e = γ0 20 e by rw [stA, if_neg (by omega)]; exact e20, if_pos q]
    exact wp_chk (by omega) (b357 _ (st _ 1 (fun j i q => by rw [stA, if_neg (by omega)]) (by rw [stA, if_pos ⟨rfl, rfl⟩]) (by omega) (by omega)))
  unfold f_M_putIn_b290
  rw [e20]
  refine wp_chk (by omega) (wp_ite (fun q => b325 (by omega)) (fun q => wp_chk (by omega) (wp_ite (fun q => b325 (by omega)) (fun q => wp_chk (by omega) (wp_ite (fun q => ?_) (fun q => b325 (by omega)))))))
  by_cases q6 : γ0 20 e = 6
  · exact b335' q6
  · exact b335 q6
theorem w_putIn_L232 (s : SN γ0 (γ0 0 18)) (hn : NdS γ0 n) (n0 : 0 ≤ n ∧ n < γ0 0 18) (h59 : γ0 0 18 ≤ 59) (hR : PuR γ0 n) (hE : ∀ g, 0 ≤ g → g < n → PuS E g) {k : Int} (k1 : γ0 7 n ≤ k) (k2 : k < γ0 7 (n + 1)) {x363 : St → Int → Int → Int → Option Res} {Q : Res → Prop} (kt : ∀ er γ', FT γ0 γ' → Q (.inl er, γ')) (hx : ∀ γ', PuM γ0 n out call (γ0 17 k + 1) (γ0 17 k + 1 - psN γ0 n).toNat γ' → wp (x363 γ' n (γ0 0 50) k) Q) : ∀ (f : Nat) (γ : St) (e : Int), PuM γ0 n out call e (e - psN γ0 n).toNat γ → γ0 19 k ≤ e → e ≤ γ0 17 k + 1 → γ0 17 k + 1 - e < f → wp (f_M_putIn_L232 E x363 f γ n (γ0 0 50) k e) Q := by
  have sz := hn.sz
  have wt := hn.wt
  have eq := hn.eq k1 k2
  have ⟨r0, r1, r2, r3, r4⟩ := hR
  have nn : ∀ i, psN γ0 n ≤ i → i < psN γ0 n + ((peN γ0 n - psN γ0 n).toNat : Int) → γ0 20 i = 3 → 0 ≤ γ0 34 (γ0 21 i) := fun i q1 q2 q3 => by
    obtain ⟨ks, _, _, _, _, w, _⟩ := hn.pt q1 (by omega)
    have w3 := w.2.2.1 q3
    exact (s _ w3.1 (by omega)).wt.1.1
  have sn0 : 0 ≤ sumC γ0 (psN γ0 n) (peN γ0 n - psN γ0 n).toNat := sumC_le (m := 0) (by omega) nn
  intro f
  induction f with
  | zero => intro γ e h1 h2 h3 h4; exfalso; omega
  | succ f ih =>
    intro γ e h1 h2 h3 h4
    have ft := h1.1.ft
    unfold f_M_putIn_L232
    rw [ft 17 k (by omega) (by omega)]
    refine wp_chk (by omega) (wp_ite (fun q => ?_) (fun q => ?_))
    · rw [show e = γ0 17 k + 1 by omega] at h1
      exact hx γ h1
    · have hp : e < peN γ0 n := by omega
      have h0 : psN γ0 n ≤ e := by omega
      have en : (e + 1 - psN γ0 n).toNat = (e - psN γ0 n).toNat + 1 := by omega
      have el : psN γ0 n + ((e - psN γ0 n).toNat : Int) = e := by omega
      have sst : sumC γ0 (psN γ0 n) (e + 1 - psN γ0 n).toNat = sumC γ0 (psN γ0 n) (e - psN γ0 n).toNat + if γ0 20 e = 3 then γ0 34 (γ0 21 e) else 0 := by
        rw [en]
        show _ + (if γ0 20 (psN γ0 n + ((e - psN γ0 n).toNat : Int)) = 3 then γ0 34 (γ0 21 (psN γ0 n + ((e - psN γ0 n).toNat : Int))) else 0) = _
        rw [el]
      have le := sumC_le (m := (e + 1 - psN γ0 n).toNat) (k := (peN γ0 n - psN γ0 n).toNat) (by omega) nn
      have mw := wt.2 (by omega)
      have ⟨p1, p2, p3, p4, p5, p6, p7, ⟨a1, a2, a3, a4, a5, a6⟩, p9, p10, p11, p12⟩ := h1
      have ⟨v0, v1, v2, v3, v4⟩ := p2
      rw [ft 20 e (by omega) (by omega), ft 21 e (by omega) (by omega), a6, ft 25 e (by omega) (by omega)]
      refine wp_chk (by omega) (wp_ite (fun q2 => ?_) (fun q2 => ?_))
      · rw [if_neg q2] at sst
        refine w_putIn_b290 s hn h1 h0 hp (fun q => absurd q q2) (by omega) (fun γ' h' => ih γ' (e + 1) ?_ (by omega) (by omega) (by omega))
        have ⟨g1, g2, g3, g4, g5, g6, g7, g8⟩ := h'
        exact ⟨g1, g2, by omega, g4, by omega, by omega, by omega, g8⟩
      · have c3 : γ0 20 e = 3 := by omega
        rw [if_pos c3] at sst
        obtain ⟨ks, _, _, _, _, w, _⟩ := hn.pt h0 hp
        have w3 := w.2.2.1 c3
        have cl := hn.cl h0 hp c3
        have e18 := ft 0 18 (by omega) (by omega)
        have g34 := ft 34 (γ0 21 e) (by omega) (by omega)
        have wg := (s _ w3.1 (by omega)).wt.1
        refine wp_chk (by omega) (wp_chk (by omega) (wp_chk (by omega) (wp_chk (by omega) ?_)))
        have pr : PuR γ (γ0 21 e) := by unfold PuR; rw [g34]; omega
        have sg : SN γ (γ 0 18) := fun x q1 q2 => ft.ns (s x q1 (by omega))
        refine wp_bndT (hE _ w3.1 w3.2 γ (γ0 0 50) e sg (by omega) (by omega) pr) (fun er γ' z => kt _ _ (ft.tr z.1)) (fun r γ' z => ?_)
        have pk : PuK γ (γ0 21 e) (γ0 0 50) e r γ' := z.2 r rfl
        refine wp_chk (by omega) (wp_sub ?_)
        have cc := h1.call s hn h0 hp c3 rfl pk sst rfl
        have ⟨g1, g2, g3, g4, g5, g6, g7, g8⟩ := cc.1
        have ⟨t0, t1, t2, t3, t4⟩ := g2
        exact w_putIn_b290 s hn cc.1 h0 hp (fun _ => cc.2) (by omega) (fun γ' h' => ih γ' (e + 1) h' (by omega) (by omega) (by omega))
end PW
