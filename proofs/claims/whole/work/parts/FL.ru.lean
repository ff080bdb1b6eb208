/-! equality: an instant of both, and many -/
section DY
variable {G D γ γ' δ δ' : St} {σ : Int → Int → Int} {κ P : Int → Int} {τ : Int → Int → Int} {V S : Int}
/-- all parts that are there and are truths are 0 or 1 -/
theorem bl_all {u M : Int → Int} {w : Int → Int → Int} {on : Int → Int → Prop} (R : RfS D u w on M τ) (km : KM D δ') (hd : HdV D δ' u on (fun _ => True)) {x k : Int} (x0 : 0 ≤ x) (x1 : x < D 0 50) (k1 : D 7 (D 35 x) ≤ k) (k2 : k < D 7 (D 35 x + 1)) : ∀ (n : Nat) (e : Int), e - D 19 k < n → D 19 k ≤ e → e ≤ D 17 k → on x (D 29 e) → τ k e = 1 → Bl (w x e) := by
  intro n
  induction n with
  | zero => intro e h1 h2; exfalso; omega
  | succ n ih =>
    intro e h1 h2 h3 ho ht
    have nd := R.1.nd x0 x1
    have eq := nd.eq k1 k2
    obtain ⟨ks, g1, g2, g3, _⟩ := nd.pt (e := e) (by omega) (by omega)
    have gl := nd.gl k1 k2 h2 h3
    have s : ∀ j i, (fun (j : Nat) (i : Int) => if j = 54 then w x i else if j = 52 then M i else δ' j i : St) j i = if j = 54 then w x i else if j = 52 then M i else δ' j i := fun _ _ => rfl
    generalize (fun (j : Nat) (i : Int) => if j = 54 then w x i else if j = 52 then M i else δ' j i : St) = δs at *
    have km2 : KM D δs := fun j k q1 q2 q3 q4 => by rw [s, if_neg (by omega), if_neg (by omega)]; exact km j k q1 q2 q3 q4
    have hd2 : HdV D δs u on (fun _ => True) := fun v q1 q2 => by rw [s 55, s 51, if_neg (by omega), if_neg (by omega), if_neg (by omega), if_neg (by omega)]; exact hd v q1 q2
    have wa := wk_at R km2 (fun k => by rw [s, if_neg (by omega), if_pos rfl]) hd2 x0 x1 k1 k2 h2 h3 ho (fun _ _ => trivial) (fun ms j y c1 hj np oy => by
      rw [Ch.uniq c1 g1] at hj
      have my := g2.mem y (List.mem_of_getElem? hj)
      exact ⟨by rw [s, if_pos rfl], fun z => ih y (by omega) (by omega) (by omega) oy z⟩)
    exact wa.2 ht
set_option maxHeartbeats 1000000 in
theorem dy_st {M : Int → Int} (st : StX G D σ κ P τ V S) (sc : SmC G γ γ' S V) (pgx : PgX G γ S V) (dy : DyR G D σ τ (γ 81) M) (km : KM D δ') (iq : InQ D (WV γ') M (fun x e => WV γ' (σ x e)) (onX G D γ' κ) δ δ') : DyR G D σ τ (γ' 81) (δ' 52) := by
  have R := lk_rf st sc pgx dy
  obtain ⟨lb, pp, o, ⟨s1, s2, s3, s4, s5⟩, ty, orr, k2v, one, cko, mc⟩ := st
  have lb' := lb
  obtain ⟨l, ar, tb, f41, g34, ⟨κ0, kV⟩, iy, mi⟩ := lb
  obtain ⟨_, hd, lt, _⟩ := iq
  have oe := on_eq sc cko
  have dcl := sc.1.2.2.2.2.1.2.2.2.2
  have cl := sc.2.2.2
  have wV : WV γ' V = 1 := by rw [(sc.2.1 V s4 s3).1 one.1, one.2]
  intro y k e y0 y1 k1 k2 h1 h2
  have d := dy y k e y0 y1 k1 k2 h1 h2
  have ixa := (l.2.2.2.2.2.2.2.2.1 y y0 y1).1
  have ixx := ixa.1
  have nd := l.nd y0 y1
  have an := ar _ ixx.1 ixx.2
  have eq := nd.eq k1 k2
  have er : psN D (D 35 y) ≤ e ∧ e < peN D (D 35 y) := by omega
  have le := lt y e y0 y1 er.1 er.2
  have lp := (iy y y0 y1).1.1 e er.1 er.2
  obtain ⟨⟨kd1, kd2⟩, _⟩ := tb.pt ixx.1 ixx.2 er.1 er.2
  obtain ⟨ks, g1, g2, g3, g4, g5, gf, _⟩ := nd.pt er.1 er.2
  have kd := kd_i kd1 g5.1.1
  have ck := ch_kd g1
  have e41 := f41 _ e ixx.1 ixx.2 er.1 er.2
  obtain ⟨_, ms, tc, tb2⟩ := (ty _ k ixx.1 ixx.2 k1 k2).1 e h1 h2
  have bl := bl_all R km hd y0 y1 k1 k2
  have kid : ∀ (j : Nat) z, ks[j]? = some z → D 20 e ≠ 25 → onX G D γ' κ y (D 29 e) → τ k z = 1 → Bl (WV γ' (σ y z)) := fun j z hj n25 ho ht => by
    have my := g2.mem z (List.mem_of_getElem? hj)
    have gl := nd.gl k1 k2 h1 h2
    exact bl ((z - D 19 k).toNat + 1) z (by omega) (by omega) (by omega) (kid_on R y0 y1 k1 k2 h1 h2 g1 (List.mem_of_getElem? hj) n25 ho) ht
  -- a cell after the instant
  have cel : ∀ i clk, 0 ≤ i → i < G 8 11 → G 62 i = clk → ∀ W, WV γ' (G 61 i) = W → (onK G γ' clk → γ' 81 i = W) ∧ (¬ onK G γ' clk → γ' 81 i = γ 81 i) := fun i clk i0 i1 h62 W hW => by
    have c := cl i i0 i1
    have m := mc i i0 i1
    have o2 := oe (clk.toNat + 1) clk (by omega) (by omega) (by omega) (fun z => by rw [← h62]; exact dcl i i0 i1 (by rw [h62]; exact z))
    rw [h62, hW] at c
    rw [← o2]
    refine ⟨fun z => by rw [c, if_neg (by omega)], fun z => by rw [c, if_pos z]⟩
  refine ⟨fun q => ?_, fun q => ?_, fun q => ?_, fun ht q => ?_⟩
  · rcases q with q | q
    · have hK := kd.2.2.2.2.1 q
      obtain ⟨ks', o1, o2, _, o7, _⟩ := lp.2.2.2.2 ⟨by omega, by omega, by omega, by omega, by omega, by omega⟩
      have o7 := o7 (Or.inl hK)
      rw [Ch.uniq o1 g1] at o7
      have l1 : ks.length = 1 := g4.2.2.2.2 (by omega)
      have sd : sdF (σ y) ks 0 = σ y (D 22 e) := by unfold sdF; rw [ck.1 (by omega)]
      rw [if_neg (by omega)] at e41
      rw [e41, sd] at o7
      have c := cel _ _ o7.1.1 o7.1.2 o7.2.2 _ (by rw [o7.2.1])
      by_cases on : onX G D γ' κ y (D 29 e)
      · rw [c.1 on, (le.1 q).1 on]
      · rw [c.2 on, (le.1 q).2 on]; exact d.1 (Or.inl q)
    · have hK := kd.2.2.2.2.2.1 q
      obtain ⟨ks', o1, o2, _, o7, _⟩ := lp.2.2.2.2 ⟨by omega, by omega, by omega, by omega, by omega, by omega⟩
      have o7 := o7 (Or.inr hK)
      rw [Ch.uniq o1 g1] at o7
      have l1 : ks.length = 1 := g4.2.2.2.2 (by omega)
      have sd : sdF (σ y) ks 0 = σ y (D 22 e) := by unfold sdF; rw [ck.1 (by omega)]
      rw [if_pos q] at e41
      rw [e41, sd] at o7
      have c := cel _ _ o7.1.1 o7.1.2 o7.2.2 _ (by rw [o7.2.1])
      have f25 := fl_25 nd an.1 (an.2 k k1 k2) k1 k2 h1 h2 q
      have pk2 := (l.pf y0 y1 er.1 er.2).2.2.2.2 (by omega)
      obtain ⟨_, _, _, _, _, _, fv, _⟩ := nd.pt (e := D 22 e) pk2.1.1 (by omega)
      have cb : D 29 (D 22 e) < 2 * nvN D (D 35 y) := by unfold FlV at fv; omega
      by_cases on : onX G D γ' κ y (D 29 (D 22 e))
      · have on2 : onX G D γ' κ y (D 29 e) := by
          have z := ((R.2.2.2.2.1.2.2 y _ y0 y1 f25.1 cb).1 on).2
          rw [(onV_x l y0 y1 (i := D 29 (D 22 e) / 2) (by omega) (by omega)).1] at z
          rw [f25.2]; exact z
        rw [c.1 on, (le.2.2.1 q).1 ⟨on2, on⟩]
      · rw [c.2 on, (le.2.2.1 q).2 (fun z => on z.2)]; exact d.1 (Or.inr q)
  · have hK := kd.1.2.2.2.2.2.1 q
    obtain ⟨ks', o1, o2, _, _, o8, _⟩ := lp.2.2.2.2 ⟨by omega, by omega, by omega, by omega, by omega, by omega⟩
    have o8 := o8 (Or.inl hK)
    rw [if_neg (by omega)] at e41
    rw [e41] at o8
    have c := cel _ _ o8.1.1 o8.1.2 o8.2.2 1 (by rw [o8.2.1]; exact wV)
    by_cases on : onX G D γ' κ y (D 29 e)
    · rw [c.1 on, (le.2.1 q).1 on]; exact ⟨rfl, Or.inr rfl⟩
    · rw [c.2 on, (le.2.1 q).2 on]; exact d.2.1 q
  · have hK := kd.1.2.2.2.2.2.2.1 q
    obtain ⟨ks', o1, o2, _, _, o8, o9⟩ := lp.2.2.2.2 ⟨by omega, by omega, by omega, by omega, by omega, by omega⟩
    have o8 := o8 (Or.inr hK)
    have o9 := o9 hK
    rw [Ch.uniq o1 g1] at o9
    have l2 : ks.length = 2 := g4.2.2.2.1 (by omega)
    have sd : sdF (σ y) ks 1 = σ y (D 23 (D 22 e)) := by unfold sdF; rw [ck.2.1 (by omega)]
    rw [if_neg (by omega)] at e41
    rw [e41] at o8 o9
    rw [sd] at o9
    have c := cel _ _ o8.1.1 o8.1.2 o8.2.2 1 (by rw [o8.2.1]; exact wV)
    have c2 := cel _ _ (by omega) o9.1 o9.2.2 _ (by rw [o9.2.1])
    by_cases on : onX G D γ' κ y (D 29 e)
    · have z := (le.2.2.2 q).1 on
      rw [c.1 on, c2.1 on, z.1, z.2]; exact ⟨rfl, Or.inr rfl, rfl⟩
    · have z := (le.2.2.2 q).2 on
      rw [c.2 on, c2.2 on, z.1, z.2]; exact d.2.2.1 q
  · rw [Ch.uniq tc g1] at tb2
    rcases q with q | q | q
    · have l2 : ks.length = 2 := g4.2.2.2.1 (by omega)
      by_cases on : onX G D γ' κ y (D 29 e)
      · rw [((le.2.2.2 q).1 on).1]
        exact kid 1 _ (ck.2.1 (by omega)) (by omega) on (by rw [(tb2.2.2.2.2.1 (Or.inr q)).2]; exact ht)
      · rw [((le.2.2.2 q).2 on).1]; exact d.2.2.2 ht (Or.inl q)
    · have l1 : ks.length = 1 := g4.2.2.2.2 (by omega)
      by_cases on : onX G D γ' κ y (D 29 e)
      · rw [(le.1 q).1 on]
        exact kid 0 _ (ck.1 (by omega)) (by omega) on (by rw [tb2.2.2.2.2.2.2.2.2 (by omega)]; exact ht)
      · rw [(le.1 q).2 on]; exact d.2.2.2 ht (Or.inr (Or.inl q))
    · have l1 : ks.length = 1 := g4.2.2.2.2 (by omega)
      by_cases on : onX G D γ' κ y (D 29 e) ∧ onX G D γ' κ y (D 29 (D 22 e))
      · rw [(le.2.2.1 q).1 on]
        have my := g2.mem _ (List.mem_of_getElem? (ck.1 (by omega)))
        have gl := nd.gl k1 k2 h1 h2
        exact bl ((D 22 e - D 19 k).toNat + 1) _ (by omega) (by omega) (by omega) on.2 (by rw [tb2.2.2.2.2.2.2.2.2 (by omega)]; exact ht)
      · rw [(le.2.2.1 q).2 on]; exact d.2.2.2 ht (Or.inr (Or.inr q))
/-- what is shown is the same -/
def ShR (G γ δ : St) (V : Int) : Prop := ∀ v, 0 ≤ v → v < V → (δ 55 v = 0 ∨ δ 55 v = 1) ∧ (OnC γ (G 59 v) = 1 ↔ δ 55 v = 1) ∧ (δ 55 v = 1 → WV γ v = δ 51 v)
theorem sh_st {M : Int → Int} (st : StX G D σ κ P τ V S) (sc : SmC G γ γ' S V) (iq : InQ D (WV γ') M (fun x e => WV γ' (σ x e)) (onX G D γ' κ) δ δ') : ShR G γ' δ' V := by
  obtain ⟨lb, pp, o, ⟨s1, s2, s3, s4, s5⟩, ty, orr, k2v, one, cko, mc⟩ := st
  have lb' := lb
  obtain ⟨l, ar, tb, f41, g34, ⟨κ0, kV⟩, iy, mi⟩ := lb
  obtain ⟨_, hd, lt, _⟩ := iq
  intro v v0 v1
  have h0 := (hd v v0 (by omega)).1
  have h := (hd v v0 (by omega)).2 trivial
  have k := cko v v0 v1
  have e := on_eq sc cko ((G 59 v).toNat + 1) (G 59 v) (by omega) k.1 (by omega) (fun z => sc.1.2.2.2.2.1.2.2.2.1 v v0 v1 z)
  have onv : onV D (onX G D γ' κ) v ↔ onK G γ' (G 59 v) := by
    rw [(vr_59 lb' v0 (by omega)).1]; exact Iff.rfl
  rw [e, ← onv]
  exact ⟨h0, h.1.symm, fun z => ((h.2 (h.1.1 z)).1).symm⟩
/-- while both run -/
def RuR (G D : St) (σ : Int → Int → Int) (τ : Int → Int → Int) (V S : Int) (γ δ : St) : Prop := PgX G γ S V ∧ KM D δ ∧ DyR G D σ τ (γ 81) (δ 52) ∧ (∀ i, 0 ≤ i → i < D 5 (D 35 0) → γ 79 i = δ 50 i ∧ (tyV D i = 1 → Bl (δ 50 i)))
theorem pq_run (st : StX G D σ κ P τ V S) {N : Int} : ∀ (m f : Nat) (γ δ : St) (i : Int), RuR G D σ τ V S γ δ → (0 < i → ShR G γ δ V) → 0 ≤ i → i ≤ N → pq (f_Pg_run_L27 f_Pg_run_b84 f γ N i) (f_M_tick_L54 m δ N i) (fun y z => ∃ γ1 δ1, RuR G D σ τ V S γ1 δ1 ∧ (0 < N → ShR G γ1 δ1 V) ∧ (∀ j k, j ≠ 79 → j ≠ 81 → j ≠ 87 → γ1 j k = γ j k) ∧ F5x δ δ1 ∧ δ1 0 72 = δ 0 72 + (N - i) ∧ z = (δ1 0 72, δ1) ∧ (∀ j k, j ≠ 76 → y.2 j k = γ1 j k) ∧ ∀ k, 0 ≤ k → k < γ1 11 5 → y.2 76 k = if OnC γ1 (γ1 59 k) ≠ 1 then 1099511627776 else WV γ1 k) := by
  intro m
  induction m with
  | zero => intro f γ δ i _ _ _ _; exact pq_nr
  | succ m ih =>
    intro f γ δ i h hs i0 i1
    have h' := h
    obtain ⟨pg, km, dy, inp⟩ := h
    cases f with
    | zero => exact pq_nl
    | succ f =>
      unfold f_Pg_run_L27 f_M_tick_L54
      by_cases q : N ≤ i
      · rw [if_pos q, if_pos q]
        intro y z e1 e2
        cases e2
        unfold f_Pg_run_b84 at e1
        have r := rn_L86 (γ0 := γ) FU γ 0 (fun _ _ _ => rfl) (fun k w1 w2 => by exfalso; omega) (Int.le_refl _) y e1
        exact ⟨γ, δ, h', fun w => hs (by omega), fun _ _ _ _ _ => rfl, fun _ _ _ _ => rfl, by omega, rfl, r.1, r.2⟩
      · rw [if_neg q, if_neg q]
        intro y z e1 e2
        have key : pc (f_Pg_run_L35 (f_Pg_run_b70 (f_Pg_run_L27 f_Pg_run_b84 f) f_Pg_run_b84) FU γ N i 0) (fun y => ∃ γ1 δ1, RuR G D σ τ V S γ1 δ1 ∧ (0 < N → ShR G γ1 δ1 V) ∧ (∀ j k, j ≠ 79 → j ≠ 81 → j ≠ 87 → γ1 j k = γ j k) ∧ F5x δ δ1 ∧ δ1 0 72 = δ 0 72 + (N - i) ∧ z = (δ1 0 72, δ1) ∧ (∀ j k, j ≠ 76 → y.2 j k = γ1 j k) ∧ ∀ k, 0 ≤ k → k < γ1 11 5 → y.2 76 k = if OnC γ1 (γ1 59 k) ≠ 1 then 1099511627776 else WV γ1 k) := by
          refine sm_inst st.2.2.1 pg (fun γ' sc => ?_) FU
          have R := lk_rf st sc pg dy
          have l := st.1.1
          have mi := st.1.2.2.2.2.2.2.2
          have tb := st.1.2.2.1
          have m0 := l.2.2.2.2.2.2.2.1
          have ip := in_pc R st.2.2.2.2.2.1 st.2.1 (I := δ 50) (fun i a b => ?_) km (fun _ => rfl) (fun _ _ _ => rfl)
          · match hm : f_M_instant δ, e2 with
            | some (r, δ'), e2 =>
              have iq : InQ D (WV γ') (δ 52) (fun x e => WV γ' (σ x e)) (onX G D γ' κ) δ δ' := ip _ hm
              have e2 := (chk_e e2).2
              have km' : KM D δ' := fun j k q1 q2 q3 q4 => by rw [iq.1 j k (by omega) (by omega)]; exact km j k q1 q2 q3 q4
              have sh := sh_st st sc iq
              have dy' := dy_st st sc pg dy km' iq
              have ru : RuR G D σ τ V S γ' δ' := ⟨sc.1.2, km', dy', fun i a b => by
                have n5 : D 5 (D 35 0) ≤ V := by
                  have nd := l.nd (x := 0) (Int.le_refl _) (by have := l.2.2.1; omega)
                  have sz := nd.sz
                  have nv : nvN D (D 35 0) = D 4 (D 35 0 + 1) - D 4 (D 35 0) := rfl
                  have vv := (l.2.2.2.2.2.2.2.2.1 0 (Int.le_refl _) (by have := l.2.2.1; omega)).1.2.1
                  have kV := st.1.2.2.2.2.2.1.2
                  rw [m0.2.2] at vv
                  omega
                have s54 := st.2.2.2.2.2.2.1 i a (by omega)
                have s3 := st.2.2.2.1.2.2.1
                rw [(sc.2.1 i a (by omega)).2.2.2.2 s54, iq.1 50 i (by omega) (by omega)]; exact inp i a b⟩
              refine fun y e1 => ?_
              obtain ⟨γ1, δ1, a1, a2, a3, a4, a5, a6, a7, a8⟩ := ih f γ' δ' (i + 1) ru (fun _ => sh) (by omega) (by omega) y z e1 e2
              exact ⟨γ1, δ1, a1, a2, fun j k q1 q2 q3 => by rw [a3 j k q1 q2 q3]; exact sc.1.1 j k q1 q2 q3, iq.1.tr a4, by rw [a5, iq.2.2.2]; omega, a6, a7, a8⟩
          · have n5 : D 5 (D 35 0) ≤ V := by
              have nd := l.nd (x := 0) (Int.le_refl _) (by have := l.2.2.1; omega)
              have sz := nd.sz
              have nv : nvN D (D 35 0) = D 4 (D 35 0 + 1) - D 4 (D 35 0) := rfl
              have vv := (l.2.2.2.2.2.2.2.2.1 0 (Int.le_refl _) (by have := l.2.2.1; omega)).1.2.1
              have kV := st.1.2.2.2.2.2.1.2
              rw [m0.2.2] at vv
              omega
            have ix := (l.2.2.2.2.2.2.2.2.1 0 (Int.le_refl _) (by have := l.2.2.1; omega)).1.1
            have nt := tb.1 _ ix.1 ix.2
            have s54 := st.2.2.2.2.2.2.1 i a (by omega)
            have s3 := st.2.2.2.1.2.2.1
            have e55 := mi i a (by rw [nt.1.2.1]; exact b)
            rw [(sc.2.1 i a (by omega)).2.2.1 s54 (by omega)]
            exact inp i a b
        exact key y e1
end DY
