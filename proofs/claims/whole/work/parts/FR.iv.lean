/-! equality: what stands between the calls -/
section IV
variable {G D D' γ γ' δ δ' : St} {σ : Int → Int → Int} {κ P : Int → Int} {τ : Int → Int → Int} {V S : Int}
theorem StX.ro (st : StX G D σ κ P τ V S) (hd : ∀ j : Nat, 2 ≤ j → D' j = D j) (h0 : ∀ k, k ≠ 1 → D' 0 k = D 0 k) : StX G D' σ κ P τ V S := by
  obtain ⟨lb, pp, o, s, ty, orr, k2v, one, cko, mc⟩ := st
  have hd1 : ∀ j : Nat, 2 ≤ j → j ≤ 43 → D' j = D j := fun j q _ => hd j q
  have h01 : ∀ k, 18 ≤ k → k ≤ 54 → k ≠ 49 → D' 0 k = D 0 k := fun k q1 _ _ => h0 k (by omega)
  have cs : ∀ v c, CsS D' v c ↔ CsS D v c := fun v c => CsS_ro hd1 h01 v c
  refine ⟨lb.ro hd1 h01 (fun _ _ _ _ => rfl), ?_, o, s, ?_, ?_, k2v, one, cko, mc⟩
  · simp only [PpI, pN, psN, peN, nvN, h0 50 (by omega), hd 4 (by omega), hd 7 (by omega), hd 9 (by omega), hd 17 (by omega), hd 19 (by omega), hd 35 (by omega), hd 36 (by omega), hd 37 (by omega), hd 38 (by omega), hd 39 (by omega)] at pp ⊢
    exact pp
  · simp only [TyS, TyQ, h0 18 (by omega), hd 4 (by omega), hd 5 (by omega), hd 7 (by omega), hd 14 (by omega), hd 16 (by omega), hd 17 (by omega), hd 18 (by omega), hd 19 (by omega), hd 20 (by omega), hd 21 (by omega), hd 22 (by omega), hd 23 (by omega)] at ty ⊢
    exact ty
  · simp only [OrR, cs, h0 51 (by omega), hd 48 (by omega)] at orr ⊢
    exact orr
theorem TbX.ro (tb : TbX G D V) (hd : ∀ j : Nat, 2 ≤ j → D' j = D j) (h0 : ∀ k, k ≠ 1 → D' 0 k = D 0 k) : TbX G D' V := by
  have hd1 : ∀ j : Nat, 2 ≤ j → j ≤ 43 → D' j = D j := fun j q _ => hd j q
  have h01 : ∀ k, 18 ≤ k → k ≤ 54 → k ≠ 49 → D' 0 k = D 0 k := fun k q1 _ _ => h0 k (by omega)
  have cs : ∀ v c, CsS D' v c ↔ CsS D v c := fun v c => CsS_ro hd1 h01 v c
  obtain ⟨t1, t2, t3, t4, t5⟩ := tb
  refine ⟨?_, ?_, t3.fr (h0 51 (by omega)) (h0 67 (by omega)) (fun k => by rw [hd 44 (by omega)]) (fun k => by rw [hd 45 (by omega)]), fun u c q1 q2 => ?_, t5⟩
  · rw [h0 49 (by omega), h0 18 (by omega), h0 53 (by omega), hd 34 (by omega)]; exact t1
  · rw [h0 19 (by omega), hd 14 (by omega)]; exact t2
  · rw [cs, ← t4 u c q1 q2]
    unfold EdM
    rw [hd 44 (by omega), hd 45 (by omega)]
theorem DyR.ro {C M : Int → Int} (h : DyR G D σ τ C M) (hd : ∀ j : Nat, 2 ≤ j → D' j = D j) (h0 : ∀ k, k ≠ 1 → D' 0 k = D 0 k) : DyR G D' σ τ C M := by
  simp only [DyR, h0 50 (by omega), hd 7 (by omega), hd 17 (by omega), hd 19 (by omega), hd 20 (by omega), hd 25 (by omega), hd 35 (by omega), hd 39 (by omega)] at h ⊢
  exact h
theorem DyR.zr : DyR G D σ τ (fun _ => 0) (fun _ => 0) := fun _ _ _ _ _ _ _ _ _ => ⟨fun _ => rfl, fun _ => ⟨rfl, Or.inl rfl⟩, fun _ => ⟨rfl, Or.inl rfl, rfl⟩, fun _ _ => Or.inl rfl⟩
theorem DyR.ag {C C' M M' : Int → Int} (st : StX G D σ κ P τ V S) (dy : DyR G D σ τ C M) (hC : ∀ i, 0 ≤ i → i < G 8 11 → C' i = C i) (hM : ∀ i, 0 ≤ i → i < D 0 52 → M' i = M i) : DyR G D σ τ C' M' := by
  obtain ⟨lb, _⟩ := st
  obtain ⟨l, ar, tb, f41, g34, ⟨κ0, kV⟩, iy, mi⟩ := lb
  intro y k e y0 y1 k1 k2 h1 h2
  have d := dy y k e y0 y1 k1 k2 h1 h2
  have ixa := (l.2.2.2.2.2.2.2.2.1 y y0 y1).1
  have ixx := ixa.1
  have nd := l.nd y0 y1
  have eq := nd.eq k1 k2
  have er : psN D (D 35 y) ≤ e ∧ e < peN D (D 35 y) := by omega
  have lp := (iy y y0 y1).1.1 e er.1 er.2
  obtain ⟨⟨kd1, kd2⟩, _⟩ := tb.pt ixx.1 ixx.2 er.1 er.2
  obtain ⟨ks, g1, g2, g3, g4, g5, gf, _⟩ := nd.pt er.1 er.2
  have kd := kd_i kd1 g5.1.1
  have mem : ∀ j, 0 ≤ j → j < stw (D 20 e) → M' (D 39 y + D 25 e + j) = M (D 39 y + D 25 e + j) := fun j j0 j1 => by
    have s := nd.st er.1 er.2 (by omega)
    have := ixa.2.2.1
    exact hM _ (by omega) (by omega)
  have m1 : (D 20 e = 24 ∨ D 20 e = 25 ∨ D 20 e = 5 ∨ D 20 e = 6) → M' (D 39 y + D 25 e) = M (D 39 y + D 25 e) := fun q => by
    have m := mem 0 (Int.le_refl _) (by unfold stw; rcases q with q | q | q | q <;> rw [q] <;> decide)
    rw [Int.add_zero] at m
    exact m
  have cel : (D 20 e = 24 ∨ D 20 e = 25 ∨ D 20 e = 5 ∨ D 20 e = 6) → C' (G 58 (σ y e)) = C (G 58 (σ y e)) ∧ (D 20 e = 6 → C' (G 58 (σ y e) + 1) = C (G 58 (σ y e) + 1)) := fun q => by
    rcases q with q | q | q | q
    · have hK := kd.2.2.2.2.1 q
      obtain ⟨ks', o1, o2, _, o7, o8, o9⟩ := lp.2.2.2.2 ⟨by omega, by omega, by omega, by omega, by omega, by omega⟩
      have o7 := o7 (Or.inl hK)
      exact ⟨hC _ o7.1.1 o7.1.2, fun q => by exfalso; omega⟩
    · have hK := kd.2.2.2.2.2.1 q
      obtain ⟨ks', o1, o2, _, o7, o8, o9⟩ := lp.2.2.2.2 ⟨by omega, by omega, by omega, by omega, by omega, by omega⟩
      have o7 := o7 (Or.inr hK)
      exact ⟨hC _ o7.1.1 o7.1.2, fun q => by exfalso; omega⟩
    · have hK := kd.1.2.2.2.2.2.1 q
      obtain ⟨ks', o1, o2, _, o7, o8, o9⟩ := lp.2.2.2.2 ⟨by omega, by omega, by omega, by omega, by omega, by omega⟩
      have o8 := o8 (Or.inl hK)
      exact ⟨hC _ o8.1.1 o8.1.2, fun q => by exfalso; omega⟩
    · have hK := kd.1.2.2.2.2.2.2.1 q
      obtain ⟨ks', o1, o2, _, o7, o8, o9⟩ := lp.2.2.2.2 ⟨by omega, by omega, by omega, by omega, by omega, by omega⟩
      have o8 := o8 (Or.inr hK)
      have o9 := o9 hK
      exact ⟨hC _ o8.1.1 o8.1.2, fun _ => hC _ (by omega) o9.1⟩
  refine ⟨fun q => ?_, fun q => ?_, fun q => ?_, fun ht q => ?_⟩
  · rw [(cel (by omega)).1, m1 (by omega)]; exact d.1 q
  · rw [(cel (by omega)).1, m1 (by omega)]; exact d.2.1 q
  · rw [(cel (by omega)).1, (cel (by omega)).2 q, m1 (by omega), mem 1 (by omega) (by rw [q]; decide)]; exact d.2.2.1 q
  · rw [m1 (by omega)]; exact d.2.2.2 ht q
/-- the program that both have -/
def PrB (G D : St) (σ : Int → Int → Int) (τ : Int → Int → Int) (V S : Int) (γ δ : St) : Prop := PgX G γ S V ∧ KM D δ ∧ (γ 0 12 = D 0 18 - 1 ∧ γ 11 4 = D 5 (D 0 18 - 1) ∧ γ 11 5 = nvN D (D 0 18 - 1)) ∧ DyR G D σ τ (γ 81) (δ 52) ∧ ∀ i, 0 ≤ i → i < D 5 (D 0 18 - 1) → γ 12 i = δ 50 i ∧ (tyV D i = 1 → Bl (δ 50 i))
/-- what they show -/
def PrV (D γ δ : St) : Prop := γ 0 13 = δ 0 72 ∧ (γ 0 13 ≠ 0 → ∀ k, 0 ≤ k → k < nvN D (D 0 18 - 1) → γ 76 k = if δ 55 k = 0 then 1099511627776 else δ 51 k)
/-- what they keep -/
def PrK (G D : St) (σ : Int → Int → Int) (τ : Int → Int → Int) (γ δ : St) : Prop := (δ 0 83 = 0 ∧ γ 0 14 = 0) ∨ (δ 0 83 ≠ 0 ∧ γ 0 14 = δ 0 82 ∧ γ 0 14 ≠ 0 ∧ DyR G D σ τ (γ 82) (δ 56) ∧ ∀ k, 0 ≤ k → k < nvN D (D 0 18 - 1) → γ 77 k = if δ 58 k = 0 then 1099511627776 else δ 57 k)
def PrX (γ δ : St) : Prop := ∃ G D σ κ P τ V S, (StX G D σ κ P τ V S ∧ TbX G D V) ∧ PrB G D σ τ V S γ δ ∧ PrV D γ δ ∧ PrK G D σ τ γ δ
def Inv (γ δ : St) : Prop := RlT γ δ ∧ ((γ 0 12 = -1 ∧ δ 0 49 = -1 ∧ γ 0 13 = 0 ∧ δ 0 72 = 0 ∧ γ 0 14 = 0 ∧ δ 0 83 = 0) ∨ PrX γ δ)
/-- a step that leaves the program and what it is worth -/
def KcS (γ γ' : St) : Prop := ∀ j k, (j = 0 → k = 12 ∨ k = 13 ∨ k = 14) → j ≠ 10 → j ≠ 13 → j ≠ 73 → j ≠ 74 → γ' j k = γ j k
def KcM (δ δ' : St) : Prop := ∀ j k, (j = 0 → k ≠ 1 ∧ k ≠ 2) → j ≠ 1 → j ≠ 46 → j ≠ 47 → δ' j k = δ j k
theorem KcS.rf : KcS γ γ := fun _ _ _ _ _ _ _ => rfl
theorem KcM.rf : KcM δ δ := fun _ _ _ _ _ _ => rfl
theorem KcS.r (f : KcS γ γ') {j : Nat} (q : j ≠ 0 ∧ j ≠ 10 ∧ j ≠ 13 ∧ j ≠ 73 ∧ j ≠ 74) : γ' j = γ j := funext fun k => f j k (by omega) (by omega) (by omega) (by omega) (by omega)
theorem KcM.r (f : KcM δ δ') {j : Nat} (q : j ≠ 0 ∧ j ≠ 1 ∧ j ≠ 46 ∧ j ≠ 47) : δ' j = δ j := funext fun k => f j k (by omega) (by omega) (by omega) (by omega)
theorem PgX.kc (h : PgX G γ S V) (f : KcS γ γ') : PgX G γ' S V := h.fr (fun j k w1 w2 w3 w4 w5 w6 _ _ _ _ _ _ => f j k (by omega) w2 w4.2 w5 w6) ⟨f 11 9 (by omega) (by omega) (by omega) (by omega) (by omega), f 11 17 (by omega) (by omega) (by omega) (by omega) (by omega)⟩ (fun s _ => f 79 s (by omega) (by omega) (by omega) (by omega) (by omega)) (f 87 0 (by omega) (by omega) (by omega) (by omega) (by omega))
theorem PrX.kc (h : PrX γ δ) (f : KcS γ γ') (g : KcM δ δ') : PrX γ' δ' := by
  obtain ⟨G, D, σ, κ, P, τ, V, S, ⟨st, tb⟩, ⟨b1, b2, b3, b4, b5⟩, ⟨v1, v2⟩, k⟩ := h
  generalize hD : (fun (j : Nat) (k : Int) => if (j = 0 ∧ k = 1) ∨ j = 1 then δ' j k else D j k : St) = D'
  have e1 : ∀ j k, (j = 0 ∧ k = 1) ∨ j = 1 → D' j k = δ' j k := fun j k q => by rw [← hD]; exact if_pos q
  have e2 : ∀ j k, ¬ ((j = 0 ∧ k = 1) ∨ j = 1) → D' j k = D j k := fun j k q => by rw [← hD]; exact if_neg q
  have hd : ∀ j : Nat, 2 ≤ j → D' j = D j := fun j q => funext fun k => e2 j k (by omega)
  have h0 : ∀ k, k ≠ 1 → D' 0 k = D 0 k := fun k q => e2 0 k (by omega)
  have km : KM D' δ' := fun j k q1 q2 q3 q4 => by
    by_cases q : (j = 0 ∧ k = 1) ∨ j = 1
    · exact (e1 j k q).symm
    · rw [e2 j k q, g j k (by omega) (by omega) q2 q3]; exact b2 j k q1 q2 q3 q4
  have n1 : nvN D' (D' 0 18 - 1) = nvN D (D 0 18 - 1) := by unfold nvN; rw [h0 18 (by omega), hd 4 (by omega)]
  have n2 : D' 5 (D' 0 18 - 1) = D 5 (D 0 18 - 1) := by rw [h0 18 (by omega), hd 5 (by omega)]
  have g0 : ∀ k, k = 12 ∨ k = 13 ∨ k = 14 → γ' 0 k = γ 0 k := fun k q => f 0 k (by omega) (by omega) (by omega) (by omega) (by omega)
  have d0 : ∀ k, k ≠ 1 → k ≠ 2 → δ' 0 k = δ 0 k := fun k q1 q2 => g 0 k (by omega) (by omega) (by omega) (by omega)
  refine ⟨G, D', σ, κ, P, τ, V, S, ⟨st.ro hd h0, tb.ro hd h0⟩, ⟨b1.kc f, km, ?_, ?_, fun i q1 q2 => ?_⟩, ⟨?_, fun q1 k q2 q3 => ?_⟩, ?_⟩
  · rw [n1, n2, g0 12 (by omega), h0 18 (by omega), f.r (j := 11) (by omega)]; exact b3
  · rw [f.r (j := 81) (by omega), g.r (j := 52) (by omega)]; exact b4.ro hd h0
  · rw [n2] at q2
    rw [f.r (j := 12) (by omega), g.r (j := 50) (by omega), show tyV D' i = tyV D i by unfold tyV; rw [hd 14 (by omega), hd 4 (by omega), hd 35 (by omega), hd 42 (by omega), hd 43 (by omega)]]
    exact b5 i q1 q2
  · rw [g0 13 (by omega), d0 72 (by omega) (by omega)]; exact v1
  · rw [n1] at q3
    rw [g0 13 (by omega)] at q1
    rw [f.r (j := 76) (by omega), g.r (j := 55) (by omega), g.r (j := 51) (by omega)]
    exact v2 q1 k q2 q3
  · unfold PrK
    rw [n1, g0 14 (by omega), d0 83 (by omega) (by omega), d0 82 (by omega) (by omega), f.r (j := 82) (by omega), g.r (j := 56) (by omega), f.r (j := 77) (by omega), g.r (j := 58) (by omega), g.r (j := 57) (by omega)]
    rcases k with k | ⟨k1, k2, k3, k4, k5⟩
    · exact Or.inl k
    · exact Or.inr ⟨k1, k2, k3, k4.ro hd h0, k5⟩
theorem Inv.kc (h : Inv γ δ) (f : KcS γ γ') (g : KcM δ δ') (r : RlT γ' δ') : Inv γ' δ' := by
  refine ⟨r, ?_⟩
  rcases h.2 with q | q
  · refine Or.inl ?_
    rw [f 0 12 (by omega) (by omega) (by omega) (by omega) (by omega), f 0 13 (by omega) (by omega) (by omega) (by omega) (by omega), f 0 14 (by omega) (by omega) (by omega) (by omega) (by omega), g 0 49 (by omega) (by omega) (by omega) (by omega), g 0 72 (by omega) (by omega) (by omega) (by omega), g 0 83 (by omega) (by omega) (by omega) (by omega)]
    exact q
  · exact Or.inr (q.kc f g)
/-- whether there is a program, and its sizes -/
theorem PrX.sz (h : PrX γ δ) : (0 ≤ γ 0 12 ∧ γ 0 12 = δ 0 49 ∧ δ 0 49 = δ 0 18 - 1) ∧ (γ 25 (γ 0 12) = δ 4 (δ 0 49) ∧ γ 26 (γ 0 12) = δ 5 (δ 0 49) ∧ γ 27 (γ 0 12) = δ 6 (δ 0 49) ∧ γ 28 (γ 0 12) = δ 4 (δ 0 49 + 1) - δ 4 (δ 0 49) ∧ γ 31 (γ 0 12) = δ 34 (δ 0 49)) ∧ (γ 8 8 = δ 0 51 ∧ γ 8 11 = δ 0 53 ∧ γ 3 9 = δ 0 18 ∧ γ 0 13 = δ 0 72) ∧ (∀ i, 0 ≤ i → i < δ 4 (δ 0 49 + 1) - δ 4 (δ 0 49) → γ 33 (δ 4 (δ 0 49) + i) = δ 14 (δ 4 (δ 0 49) + i) ∧ (δ 14 (δ 4 (δ 0 49) + i) = 0 ∨ δ 14 (δ 4 (δ 0 49) + i) = 1) ∧ γ 34 (δ 4 (δ 0 49) + i) = δ 12 (δ 4 (δ 0 49) + i) ∧ (δ 12 (δ 4 (δ 0 49) + i) = -1 ∨ 0 ≤ δ 12 (δ 4 (δ 0 49) + i) ∧ δ 12 (δ 4 (δ 0 49) + i) ≤ 20000)) ∧ (1 ≤ δ 5 (δ 0 49) ∧ (0 ≤ δ 6 (δ 0 49) ∧ δ 5 (δ 0 49) + δ 6 (δ 0 49) ≤ δ 4 (δ 0 49 + 1) - δ 4 (δ 0 49)) ∧ δ 4 (δ 0 49 + 1) - δ 4 (δ 0 49) ≤ 99 ∧ δ 4 (δ 0 49 + 1) - δ 4 (δ 0 49) ≤ δ 0 51 ∧ 0 ≤ δ 4 (δ 0 49)) := by
  obtain ⟨G, D, σ, κ, P, τ, V, S, ⟨st, t1, t2, t3, t4, t5⟩, ⟨b1, b2, b3, b4, b5⟩, ⟨v1, v2⟩, k⟩ := h
  have sv := st.2.2.2.1
  obtain ⟨lb, _⟩ := st
  obtain ⟨l, ar, tb, f41, g34, ⟨κ0, kV⟩, iy, mi⟩ := lb
  have m0 := l.2.2.2.2.2.2.2.1
  have m18 := l.2.1
  have nt := tb.1 (D 0 18 - 1) (by omega) (by omega)
  have t4b := (tb.2.2.2.2 (D 0 18 - 1) (by omega) (by omega)).1
  have nds := l.1 (D 0 18 - 1) (by omega) (by omega)
  have sz := nds.sz
  have ix := (l.2.2.2.2.2.2.2.2.1 0 (by omega) (by have := l.2.2.1; omega)).1.2.1
  have d0 : ∀ k, k ≠ 2 → k ≠ 72 → k ≠ 82 → k ≠ 83 → δ 0 k = D 0 k := fun k q1 q2 q3 q4 => b2 0 k (by omega) (by omega) (by omega) (by omega)
  have dr : ∀ j : Nat, 1 ≤ j → j < 46 → δ j = D j := fun j q1 q2 => funext fun k => b2 j k (by omega) (by omega) (by omega) (by omega)
  have gr : ∀ j : Nat, 1 ≤ j → j < 61 → j ≠ 10 → j ≠ 11 → j ≠ 12 → j ≠ 13 → γ j = G j := fun j q1 q2 q3 q4 q5 q6 => funext fun k => b1.1 j k (by omega) q3 q4 ⟨q5, q6⟩ (by omega) (by omega) (by omega)
  have e49 : δ 0 49 = D 0 18 - 1 := by rw [d0 49 (by omega) (by omega) (by omega) (by omega)]; exact t1.1
  rw [e49, b3.1, d0 18 (by omega) (by omega) (by omega) (by omega), d0 51 (by omega) (by omega) (by omega) (by omega), d0 53 (by omega) (by omega) (by omega) (by omega), dr 4 (by omega) (by omega), dr 5 (by omega) (by omega), dr 6 (by omega) (by omega), dr 34 (by omega) (by omega), dr 14 (by omega) (by omega), dr 12 (by omega) (by omega), gr 25 (by omega) (by omega) (by omega) (by omega) (by omega) (by omega), gr 26 (by omega) (by omega) (by omega) (by omega) (by omega) (by omega), gr 27 (by omega) (by omega) (by omega) (by omega) (by omega) (by omega), gr 28 (by omega) (by omega) (by omega) (by omega) (by omega) (by omega), gr 31 (by omega) (by omega) (by omega) (by omega) (by omega) (by omega), gr 8 (by omega) (by omega) (by omega) (by omega) (by omega) (by omega), gr 3 (by omega) (by omega) (by omega) (by omega) (by omega) (by omega), gr 33 (by omega) (by omega) (by omega) (by omega) (by omega) (by omega), gr 34 (by omega) (by omega) (by omega) (by omega) (by omega) (by omega)]
  have nv : nvN D (D 35 0) = D 4 (D 0 18 - 1 + 1) - D 4 (D 0 18 - 1) := by unfold nvN; rw [m0.1]
  refine ⟨⟨by omega, rfl, rfl⟩, ⟨nt.1.1, nt.1.2.1, nt.1.2.2, nt.2.1, t1.2.2.2⟩, ⟨by omega, t1.2.2.1, t1.2.1, v1⟩, fun i q1 q2 => ⟨(t2 _ (by omega) (by omega)).1, (t2 _ (by omega) (by omega)).2, g34 _ (by omega) (by omega), by have := nds.co (v := D 4 (D 0 18 - 1) + i) (by omega) (by omega); omega⟩, by omega, by omega, by omega, by omega, by omega⟩
/-- the class's helper against the reference -/
theorem pq_h {f : Option (Int × St)} {g : Option (Nat × St)} {ke : Int → St → Option (Int × St × Int)} {he : Nat → Option (Int × St × Int)} {β : Type} {m : Option β} {Q : Int × St × Int → β → Prop} (h1 : ∀ r γ', f = some (r, γ') → pq (ke r γ') m Q) (h2 : f = none → ∀ e γ', g = some (e, γ') → pq (he e) m Q) : pq (hcl f g ke he) m Q := by
  intro y z e1 e2
  unfold hcl at e1
  cases hf : f with
  | some a => rw [hf] at e1; exact h1 a.1 a.2 hf y z e1 e2
  | none =>
    rw [hf] at e1
    cases hg : g with
    | none => rw [hg] at e1; cases e1
    | some b => rw [hg] at e1; exact h2 hf b.1 b.2 hg y z e1 e2
end IV
