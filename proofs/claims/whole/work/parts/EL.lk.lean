/-! equality: the linker against putIn, all of it -/
theorem sim_MP {γ0 : St} {m : Int} (hx : LkX γ0 m) : ∀ (M : Nat) (n : Int), 0 ≤ n → n < M → n ≤ m → LqSim γ0 m (MP M) n
  | 0, n, h0, h1, _ => by exfalso; omega
  | M + 1, n, h0, h1, h2 => by
    intro fu γe δe i σe κe out call c K Q hJ tb h18 hR hc en fin
    show pq _ (bndT (if (0 : Nat) = 0 then f_M_putIn (MP M) δe n out call else none) K) Q
    rw [if_pos rfl]
    have hn := tb.2.2.2.1 n h0 (by omega)
    have sz := hn.sz
    have nv : nvN δe n = δe 4 (n + 1) - δe 4 n := rfl
    have lb := lk_b hx hJ.1
    have eg : ∀ j i, 10 ≤ j ∧ j < 54 → γe j i = γ0 j i := fun j i q => hJ.1.1 j i (by omega)
    have nt := tb.1 n h0 (by omega)
    have ⟨en0, ⟨en1, en2, en3, en4, en5⟩, ⟨en6, en7, en8⟩, en9⟩ := en
    have e28 : γe 28 n = nvN δe n := by rw [eg 28 _ (by omega)]; exact nt.2.1
    have hV := hx.2.2.1
    have ⟨r0, r1, r2, r3, r4⟩ := hR
    refine pq_putIn (by omega) r1.1 (fun q => by exfalso; omega) (fun hA δ pv => ?_)
    unfold f_M_putIn_b202
    simp only [bT_C, bT_A]
    have ft := pv.1.ft
    rw [ft 7 n (by omega) (by omega)]
    have pm := pv.pm hn hR (by omega)
    have ⟨p1, ⟨c0, c1, c2, c3, c4⟩, p3, p4⟩ := pv
    refine pq_cr (fun _ => pq_ar ?_)
    refine sim_L210 hx tb h18 ⟨h0, h2⟩ hR (fun g q1 q2 => sim_MP hx M g q1 (by omega) (by omega)) hc en eg fin FU fu γe δ i σe (fun y => if y = δe 0 50 then c else κe y) (δe 7 n) (psN δe n) hJ ⟨LqPr.rf, ⟨rfl, en1, en2, en3, en4, en5⟩, fun _ _ _ _ _ => rfl, fun _ _ => rfl, ⟨by omega, by omega, en8⟩, ⟨fun y q => ⟨rfl, by show (if y = δe 0 50 then c else κe y) = κe y; rw [if_neg (by omega)]⟩, by show (if _ then _ else _) = _; rw [if_pos rfl]⟩, fun e q1 q2 => by omega, fun i q1 q2 => en9 i q1 q2, fun k' q1 q2 => by omega, fun y q1 q2 => by omega⟩ pm rfl (Int.le_refl _) (by omega) (fun _ => rfl) (fun q => by omega) (fun _ k' q1 q2 => by omega)
theorem bT_id (m : Option Res) : bndT m (fun r γ => some ((.inr r, γ) : Res)) = m := by
  match m with
  | none => rfl
  | some (.inl e, γ) => rfl
  | some (.inr r, γ) => rfl
/-- all is put in, in both -/
def LqL (γ : St) (m : Int) (δ γ' δ' : St) : Prop := (FrLk γ γ' ∧ LdI γ' (γ 32 m)) ∧ PuK δ m (-1) (-1) (δ 0 50) δ' ∧ (γ 32 m = δ' 0 51 ∧ γ' 8 11 = δ' 0 53) ∧ (∀ i, 0 ≤ i → i < γ 26 m → γ' 55 i = -1) ∧ (γ' 54 (γ 32 m) = 3 ∧ γ' 58 (γ 32 m) = 1 ∧ γ' 55 (γ 32 m) = -1 ∧ γ' 56 (γ 32 m) = -1 ∧ γ' 57 (γ 32 m) = -1) ∧ ∃ (σ : Int → Int → Int) (κ : Int → Int), κ 0 = 0 ∧ ∀ y, 0 ≤ y → y < δ' 0 50 → LqIn (γ 32 m) γ' δ' σ κ y ∧ (0 < y → LqIp γ' δ' σ κ y)
set_option maxHeartbeats 4000000 in
/-- the linker begins -/
theorem link_st {β : Type} {γ : St} {m : Int} {M : Option β} {Q : Int × St → β → Prop} (hx : LkX γ m) (k : ∀ γ3, LkJ γ m γ3 0 → (γ3 9 8 = 1 ∧ γ3 9 11 = γ 28 m ∧ γ3 9 12 = γ 32 m ∧ γ3 8 5 = γ 32 m + 1 ∧ γ3 8 11 = 0) → (γ3 63 0 = m ∧ γ3 64 0 = 0 ∧ γ3 65 0 = 0 ∧ γ3 66 0 = γ 29 m ∧ γ3 67 0 = γ 43 (γ 29 m)) → (∀ i, 0 ≤ i → i < γ 28 m → VrS γ γ3 m 0 0 0 i) → (γ3 54 (γ 32 m) = 3 ∧ γ3 58 (γ 32 m) = 1 ∧ γ3 55 (γ 32 m) = -1 ∧ γ3 56 (γ 32 m) = -1 ∧ γ3 57 (γ 32 m) = -1) → pq (f_Lk_link_L63 FU γ3 (γ 31 m) 0) M Q) : pq (f_Lk_link γ m) M Q := by
  have hm := hx.1
  have hV := hx.2.2.1
  have pn := hx.pn hm.1 (Int.le_refl _)
  have wn := (hx.2.1 m hm.1 (Int.le_refl _)).1
  have sz := wn.2.2.2.2.2
  have sz0 := sz.1.1
  have x1 := sz.1.2.2 (by omega)
  have x2 := sz.2.2.2 (by omega)
  have nn := hx.nn hm.1 (Int.le_refl _)
  have ec := hx.eq hm.1 (Int.le_refl _) (Int.le_refl _) (by omega)
  have nc := sm_nn (f := cvF γ) (fun i q1 q2 => (nn i q1 q2).2)
  have := FU_v
  unfold f_Lk_link
  refine pq_cl (fun _ => pq_al (pq_cl (fun _ => ?_)))
  refine pq_el (r := 0) (γ' := setA (setA (setA γ 8 8 (γ 32 m)) 8 5 (γ 32 m)) 8 11 0) ?_ (pq_al (pq_al (pq_al ?_)))
  · unfold f_Sl_begin
    exact some_wp (wp_sub (wp_sub (wp_sub (wp_some rfl))))
  generalize hh : setA _ 9 11 0 = γ1
  have s1 : ∀ j k, γ1 j k = if j = 9 ∧ k = 11 then 0 else if j = 9 ∧ k = 10 then 0 else if j = 9 ∧ k = 8 then 0 else if j = 8 ∧ k = 11 then 0 else if j = 8 ∧ k = 5 then γ 32 m else if j = 8 ∧ k = 8 then γ 32 m else γ j k := fun j k => by rw [← hh]; simp [stA]
  have a85 : γ1 8 5 = γ 32 m := by rw [s1]; simp
  refine pq_el (sadd_eq (by omega)) (pq_al ?_)
  rw [a85]
  generalize hh2 : setA (setA (setS γ1 (γ 32 m) 3 1) 8 5 (γ 32 m + 1)) 9 12 (γ 32 m) = γ2
  have s2 : ∀ j k, γ2 j k = if j = 9 ∧ k = 12 then γ 32 m else if j = 8 ∧ k = 5 then γ 32 m + 1 else if j = 57 ∧ k = γ 32 m then -1 else if j = 56 ∧ k = γ 32 m then -1 else if j = 55 ∧ k = γ 32 m then -1 else if j = 58 ∧ k = γ 32 m then 1 else if j = 54 ∧ k = γ 32 m then 3 else γ1 j k := fun j k => by rw [← hh2, stA, stA, setS_v]
  have c98 : γ2 9 8 = 0 := by rw [s2]; simp; rw [s1]; simp
  have c910 : γ2 9 10 = 0 := by rw [s2]; simp; rw [s1]; simp
  have c911 : γ2 9 11 = 0 := by rw [s2]; simp; rw [s1]; simp
  have c912 : γ2 9 12 = γ 32 m := by rw [s2]; simp
  have c85 : γ2 8 5 = γ 32 m + 1 := by rw [s2]; simp
  have c88 : γ2 8 8 = γ 32 m := by rw [s2]; simp; rw [s1]; simp
  have c811 : γ2 8 11 = 0 := by rw [s2]; simp; rw [s1]; simp
  have hF2 : FrLk γ γ2 := fun j k q => by
    rw [s2, if_neg (by omega), if_neg (by omega), if_neg (by omega), if_neg (by omega), if_neg (by omega), if_neg (by omega), if_neg (by omega), s1, if_neg (by omega), if_neg (by omega), if_neg (by omega), if_neg (by omega), if_neg (by omega), if_neg (by omega)]
  have g2 : ∀ j k, (j < 8 ∨ 10 ≤ j ∧ j < 54) → γ2 j k = γ j k := fun j k q => hF2 j k (by omega)
  have wo := (w_openNode (oc := 0) (pl := 0) hx hF2 (c := m) (by omega) (by omega) (by omega) (by omega)).pc
  have lo := lkOpen_pc (γ := γ2) (g := m) (oc := 0) (pl := 0) (Int.le_refl _) (by omega) (fun i q1 q2 => by
    rw [g2 28 _ (by omega)] at q2
    rw [g2 25 _ (by omega), g2 34 _ (by omega)]
    exact (wn.2.2.1 i q1 q2).1.1)
  refine pq_bl (P := fun z => OpP γ m γ2 m 0 z.2 ∧ OpX γ2 z.2 m 0 0) (fun y e => ⟨wo y e, lo y e⟩) (fun r γ3 y => ?_)
  obtain ⟨⟨o1, o2, o3, o4, o5, o6⟩, ox⟩ := y
  rw [c911] at o5 o6
  rw [c98] at o4 o5
  have o1 : FrLk γ γ3 := o1
  have o2 : γ3 9 8 = 1 := by have : γ3 9 8 = γ2 9 8 + 1 := o2; omega
  have o3 : γ3 9 11 = γ 28 m := by have : γ3 9 11 = γ2 9 11 + γ 28 m := o3; omega
  have o4 : γ3 63 0 = m ∧ γ3 64 0 = 0 ∧ γ3 65 0 = 0 ∧ γ3 66 0 = γ 29 m ∧ γ3 67 0 = γ 43 (γ 29 m) := by
    obtain ⟨p1, p2, p3, p4, p5⟩ := o4
    have p2 : γ3 64 0 = γ2 9 11 := p2
    exact ⟨p1, by omega, p3, p4, p5⟩
  have o5 : ∀ j k, (j ≠ 9 ∨ k ≠ 8 ∧ k ≠ 11) → (j < 54 ∨ 60 < j ∨ k < 0 ∨ 0 + γ 28 m ≤ k) → (j < 63 ∨ 67 < j ∨ k ≠ 0) → γ3 j k = γ2 j k := o5
  have o6 : ∀ k, 0 ≤ k → k < 0 + γ 28 m → OkS (γ 32 m) γ3 k := o6
  have d910 : γ3 9 10 = 0 := by rw [o5 9 10 (by omega) (by omega) (by omega)]; exact c910
  have d912 : γ3 9 12 = γ 32 m := by rw [o5 9 12 (by omega) (by omega) (by omega)]; exact c912
  have d85 : γ3 8 5 = γ 32 m + 1 := by rw [o5 8 5 (by omega) (by omega) (by omega)]; exact c85
  have d88 : γ3 8 8 = γ 32 m := by rw [o5 8 8 (by omega) (by omega) (by omega)]; exact c88
  have d811 : γ3 8 11 = 0 := by rw [o5 8 11 (by omega) (by omega) (by omega)]; exact c811
  have en : enF γ γ3 0 = γ 29 m + γ 30 m := by unfold enF; rw [o4.1]
  have dd : dF γ γ3 0 = 0 := by
    unfold dF
    rw [en, o4.2.2.2.1, o4.2.2.2.2, if_pos (by omega), if_neg (by omega)]
    omega
  have rr : rF γ γ3 0 = γ 31 m := by
    unfold rF
    rw [en, o4.2.2.2.1, o4.2.2.2.2]
    omega
  have ww : wF γ γ3 0 = γ 32 m - γ 28 m := by
    unfold wF
    rw [en, o4.2.2.2.2]
    omega
  have one : ∀ F : Int → Int, sm F 0 1 = F 0 := fun F => by
    have := sm_succ (f := F) (a := 0) (b := 0) (Int.le_refl _)
    rw [sm_nil (Int.le_refl _)] at this
    rw [show (0 : Int) + 1 = 1 by omega] at this
    omega
  have hL : LkI γ m γ3 := by
    refine ⟨o1, fun f q1 q2 => ?_, ⟨by omega, ?_, ?_, ?_, ?_, ?_, by omega⟩, ⟨fun i q1 q2 => by omega, fun s q => ?_, fun i q1 q2 => by omega⟩⟩
    · have f0 : f = 0 := by omega
      subst f0
      unfold LkF
      rw [en, o4.1, o4.2.1, o4.2.2.1, o4.2.2.2.1, o4.2.2.2.2, o3]
      exact ⟨by omega, by omega, by omega, by omega, fun _ => by omega, fun y => by omega, hV⟩
    · rw [o2, one, dd]; exact d910
    · rw [o2, one, ww]; omega
    · rw [o2, one, rr]; omega
    · rw [o2, one, rr]; omega
    · rw [o2, one, rr]; omega
    · by_cases q2 : s < γ 28 m
      · have o := o6 s (by omega) (by omega)
        unfold OkS at o
        exact ⟨by omega, by omega, by omega, fun _ => by omega, fun q => by omega, fun q => by omega, fun q => by omega, fun q => by omega⟩
      · have es : s = γ 32 m := by omega
        have m54 : γ3 54 s = 3 := by rw [o5 54 s (by omega) (by omega) (by omega), s2, es]; simp
        have m55 : γ3 55 s = -1 := by rw [o5 55 s (by omega) (by omega) (by omega), s2, es]; simp
        have m56 : γ3 56 s = -1 := by rw [o5 56 s (by omega) (by omega) (by omega), s2, es]; simp
        have m57 : γ3 57 s = -1 := by rw [o5 57 s (by omega) (by omega) (by omega), s2, es]; simp
        exact ⟨by omega, by omega, by omega, fun q => by omega, fun q => m54, fun q => by omega, fun q => by omega, fun q => by omega⟩
  obtain ⟨_, _, _, _, v9⟩ := ox
  have v9 : ∀ i, 0 ≤ i → i < γ2 28 m → VrS γ2 γ3 m (γ2 9 11) 0 0 i := v9
  rw [g2 28 _ (by omega), c911] at v9
  have w28 : 0 + γ 28 m ≤ γ 32 m := by omega
  have one1 : ∀ j, 54 ≤ j → j ≤ 58 → γ3 j (γ 32 m) = γ2 j (γ 32 m) := fun j q1 q2 => by
    have q9 : j ≠ 9 := fun h => by rw [h] at q1; exact absurd q1 (by decide)
    have q63 : j < 63 := Nat.lt_of_le_of_lt q2 (by decide)
    rw [o5 j _ (Or.inl q9) (Or.inr (Or.inr (Or.inr w28))) (Or.inl q63)]
  refine k γ3 ⟨hL, by rw [o2, one, rr]; omega⟩ ⟨o2, o3, d912, d85, d811⟩ o4 (fun i q1 q2 => ?_) ⟨?_, ?_, ?_, ?_, ?_⟩
  · have v := v9 i q1 q2
    unfold VrS at v ⊢
    rw [g2 34 _ (by decide), g2 25 _ (by decide), g2 26 _ (by decide), g2 37 _ (by decide)] at v
    exact v
  · rw [one1 54 (by decide) (by decide), s2]; simp
  · rw [one1 58 (by decide) (by decide), s2]; simp
  · rw [one1 55 (by decide) (by decide), s2]; simp
  · rw [one1 56 (by decide) (by decide), s2]; simp
  · rw [one1 57 (by decide) (by decide), s2]; simp
theorem pq_link {γ δ : St} {m : Int} (hx : LkX γ m) (tb : TbR γ δ) (h18 : δ 0 18 = m + 1) (hR : PuR δ m) (hz : δ 0 50 = 0 ∧ δ 0 51 = 0 ∧ δ 0 53 = 0) : pq (f_Lk_link γ m) (F_M_putIn δ m (-1) (-1)) (fun y z => ∃ r, z.1 = .inr r ∧ LqL γ m δ y.2 z.2) := by
  refine pq_mono (pq_andl (Q := fun y z => ∃ r, z.1 = .inr r ∧ (PuK δ m (-1) (-1) (δ 0 50) z.2 ∧ (γ 32 m = z.2 0 51 ∧ y.2 8 11 = z.2 0 53) ∧ (∀ i, 0 ≤ i → i < γ 26 m → y.2 55 i = -1) ∧ (y.2 54 (γ 32 m) = 3 ∧ y.2 58 (γ 32 m) = 1 ∧ y.2 55 (γ 32 m) = -1 ∧ y.2 56 (γ 32 m) = -1 ∧ y.2 57 (γ 32 m) = -1) ∧ ∃ (σ : Int → Int → Int) (κ : Int → Int), κ 0 = 0 ∧ ∀ x, 0 ≤ x → x < z.2 0 50 → LqIn (γ 32 m) y.2 z.2 σ κ x ∧ (0 < x → LqIp y.2 z.2 σ κ x))) ?_ (w_link hx).pc) (fun y z h => ?_)
  rotate_left
  · obtain ⟨⟨r, h1, h2⟩, h3⟩ := h
    exact ⟨r, h1, h3, h2⟩
  rw [← bT_id (F_M_putIn δ m (-1) (-1))]
  have hm := hx.1
  have hV := hx.2.2.1
  have pn := (hx.pn hm.1 (Int.le_refl _)).1
  have nt := tb.1 m hm.1 (by omega)
  have nsz := (tb.2.2.2.1 m hm.1 (by omega)).sz.2.1
  have te := tb.eq (n := m) (k := δ 7 m) hm.1 (by omega) (Int.le_refl _) nsz.2.1
  refine link_st hx (fun γ3 hJ ⟨o2, o3, d912, d85, d811⟩ o4 v9 on => ?_)
  have o1 := hJ.1.1
  have lb3 := (lk_b hx hJ.1).1.2.1
  have e28 : γ3 28 m = γ 28 m := o1 28 m (by omega)
  have entry : LqE (γ 32 m) γ3 δ m 0 := by
    unfold LqE
    rw [o2, show (1 : Int) - 1 = 0 by omega]
    refine ⟨by omega, ⟨o4.1, by rw [o4.2.1]; omega, o4.2.2.1, by rw [o4.2.2.2.1]; exact nt.2.2.1, ?_⟩, ⟨by rw [e28]; omega, by omega, d912⟩, fun i q1 q2 => ?_⟩
    · rw [o4.2.2.2.2, nt.2.2.1, te.2.1]; rfl
    · rw [e28] at q2
      obtain ⟨u1, u2, u3, u4, u5, u6⟩ := v9 i q1 q2
      rw [hz.2.1]
      refine ⟨u1, u3, ?_, u5, fun q => ?_⟩
      · rw [u4, o1 34 _ (by omega), o1 25 _ (by omega)]
      · rw [o1 26 _ (by omega)] at q
        rw [u6, if_neg (by omega), o1 37 _ (by omega), o1 25 _ (by omega)]
  unfold F_M_putIn
  refine sim_MP hx 100 m hm.1 (by omega) (Int.le_refl _) FU γ3 δ 0 (fun _ _ => 0) (fun _ => 0) (-1) (-1) 0 _ _ hJ tb h18 hR (Int.le_refl _) entry (fun fu' γ' i' δ' σ' κ' hJ' pk z => ?_)
  obtain ⟨z1, z2, z3, z4, ⟨z6, z7, z8⟩, ⟨z9, z10⟩, z11⟩ := z
  rw [hz.1] at z10 z11
  have z98 : γ' 9 8 = 0 := by omega
  cases fu' with
  | zero => exact pq_nl
  | succ fu' =>
    unfold f_Lk_link_L63
    rw [if_pos (by omega)]
    have b3 := hJ'.1.2.2.1.2.2.1
    rw [z98, sm_nil (Int.le_refl _)] at b3
    rw [hz.2.1, o1 26 _ (by omega), e28] at z1
    have z12 := z1.2.1
    have one1 : ∀ j, 54 ≤ j → j ≤ 58 → γ' j (γ 32 m) = γ3 j (γ 32 m) := fun j q1 q2 => z12 j (γ 32 m) q1 (by omega) (by omega) (fun _ => by omega)
    refine pq_some ⟨δ 0 50, rfl, pk, ⟨by show γ 32 m = δ' 0 51; omega, z7⟩, fun i q1 q2 => ?_, ⟨?_, ?_, ?_, ?_, ?_⟩, σ', κ', z10, fun x q1 q2 => ⟨(z11 x q1 q2).1, fun q3 => ((z11 x q1 q2).2 q3).1⟩⟩
    · show γ' 55 i = -1
      have u := (v9 i q1 (by omega)).2.1
      rw [show (0 : Int) + i = i by omega] at u
      rw [z12 55 i (by omega) (by omega) (by omega) (fun _ => by omega)]
      exact u
    · show γ' 54 _ = _
      rw [one1 54 (by omega) (by omega)]; exact on.1
    · show γ' 58 _ = _
      rw [one1 58 (by omega) (by omega)]; exact on.2.1
    · show γ' 55 _ = _
      rw [one1 55 (by omega) (by omega)]; exact on.2.2.1
    · show γ' 56 _ = _
      rw [one1 56 (by omega) (by omega)]; exact on.2.2.2.1
    · show γ' 57 _ = _
      rw [one1 57 (by omega) (by omega)]; exact on.2.2.2.2
