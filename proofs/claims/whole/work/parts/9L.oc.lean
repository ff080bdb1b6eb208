/-! the class's order: a slot closes -/
set_option maxHeartbeats 2000000 in
/-- it reaches one that is open still: it stays open -/
theorem OdI.cls1 {γ0 γ γ' : St} {S x : Int} (h : OdI γ0 S γ) (hP : 0 < γ 10 10) (hx : x = γ 73 (γ 10 10 - 1)) (h71 : γ 71 x = 3) (hl : γ 70 x ≠ γ 69 x)
    (s0 : 2 ≤ γ 10 10 → ∀ j k, γ' j k = if j = 70 ∧ k = γ 73 (γ 10 10 - 2) then min (γ 70 (γ 73 (γ 10 10 - 2))) (γ 70 x) else if j = 10 ∧ k = 10 then γ 10 10 - 1 else γ j k) : OdI γ0 S γ' := by
  have ⟨hF, hN, hT, hE, hC⟩ := h
  have ⟨e1, e2, e3, e4, e5, e6⟩ := hE
  have ⟨n1, n2, n3, n4, n5, n6⟩ := hN
  have ⟨t1, t2, t3, t4, t5, t6⟩ := hT
  have tx := t4 (γ 10 10 - 1) (by omega) (by omega)
  rw [← hx] at tx
  have lx := e6 x tx.1.1 tx.1.2 tx.2
  have P2 : 2 ≤ γ 10 10 := by
    obtain ⟨y, y1, y2, y3, y4⟩ := lx.2
    obtain ⟨i, p1, p2, p3, p4⟩ := e4 y y1.1 y1.2 y2
    rcases Int.lt_or_le (γ 10 10) 2 with q | q
    · exfalso
      rw [show i = γ 10 10 - 1 by omega, ← hx] at p3
      omega
    · exact q
  have s0 := s0 P2
  generalize hu : γ 73 (γ 10 10 - 2) = u at *
  have tu := t4 (γ 10 10 - 2) (by omega) (by omega)
  rw [hu] at tu
  have ux : γ 69 u < γ 69 x := by
    have := t5 (γ 10 10 - 2) (γ 10 10 - 1) (by omega) (by omega) (by omega)
    rw [hu, ← hx] at this
    exact this
  have unx : u ≠ x := fun q => by rw [q] at ux; omega
  have f : ∀ j k, (j ≠ 70 ∨ k ≠ u) → (j ≠ 10 ∨ k ≠ 10) → γ' j k = γ j k := fun j k q1 q2 => by rw [s0, if_neg (by omega), if_neg (by omega)]
  have k10 : γ' 10 10 = γ 10 10 - 1 := by rw [s0]; simp
  have k70 : γ' 70 u = min (γ 70 u) (γ 70 x) := by rw [s0]; simp
  have f69 : ∀ k, γ' 69 k = γ 69 k := fun k => f 69 k (by omega) (by omega)
  have f71 : ∀ k, γ' 71 k = γ 71 k := fun k => f 71 k (by omega) (by omega)
  have f72 : ∀ k, γ' 72 k = γ 72 k := fun k => f 72 k (by omega) (by omega)
  have f73 : ∀ k, γ' 73 k = γ 73 k := fun k => f 73 k (by omega) (by omega)
  have f75 : ∀ k, γ' 75 k = γ 75 k := fun k => f 75 k (by omega) (by omega)
  have f70 : ∀ k, k ≠ u → γ' 70 k = γ 70 k := fun k q => f 70 k (by omega) (by omega)
  have oq : ∀ y, Opn γ' S y ↔ Opn γ S y := fun y => by unfold Opn; rw [f69]
  have cw : ∀ w, cnW γ' w = cnW γ w := fun w => funext fun s => by unfold cnW; rw [f69]
  have k8 := f 10 8 (by omega) (by omega)
  have k9 := f 10 9 (by omega) (by omega)
  have k11 := f 10 11 (by omega) (by omega)
  have k13 := f 10 13 (by omega) (by omega)
  have eux : Rc (Ed γ0) u x := by
    have := t6 (γ 10 10 - 2) (by omega) (by omega)
    rw [hu, show γ 10 10 - 2 + 1 = γ 10 10 - 1 by omega, ← hx] at this
    exact Rc.ed this
  -- the last path slot: the same, or the outer one in place of x
  have pin : ∀ y i, 0 ≤ y → y < S → Opn γ S y → piI γ' i y → piI γ i y ∨ i = γ 10 10 - 2 ∧ piI γ (γ 10 10 - 1) y := fun y i q1 q2 q3 r => by
    obtain ⟨r1, r2, r3, r4⟩ := r
    rw [f73, f69, f69] at r3
    by_cases z : i + 1 < γ 10 10 - 1
    · refine Or.inl ⟨r1, by omega, r3, fun _ => ?_⟩
      have := r4 (by omega)
      rw [f73, f69, f69] at this
      exact this
    · have : i = γ 10 10 - 2 := by omega
      by_cases w : γ 69 y < γ 69 x
      · refine Or.inl ⟨r1, by omega, r3, fun _ => ?_⟩
        rw [this, show γ 10 10 - 2 + 1 = γ 10 10 - 1 by omega, ← hx]
        exact w
      · refine Or.inr ⟨this, by omega, by omega, by rw [← hx]; omega, fun q => by omega⟩
  have piz : ∀ y i, piI γ i y → i < γ 10 10 - 1 → piI γ' i y := fun y i r z => by
    obtain ⟨r1, r2, r3, r4⟩ := r
    refine ⟨r1, by omega, by rw [f73, f69, f69]; exact r3, fun q => ?_⟩
    rw [f73, f69, f69]
    exact r4 (by omega)
  refine ⟨fun j k q1 q2 => by rw [f j k (by omega) (by omega)]; exact hF j k q1 q2, ?_, ?_, ?_, ?_⟩
  · refine ⟨by omega, by omega, by rw [k8, cw]; exact n3, fun w => ?_, fun s q1 q2 => by rw [f69, k8]; exact n5 s q1 q2, fun i q1 q2 => by rw [f75]; exact n6 i q1 (by omega)⟩
    rw [cw, k11, k9, ← n4 w, show (fun i => w (γ' 75 i)) = (fun i => w (γ 75 i)) from funext fun i => by rw [f75], show (fun i => w (γ' 72 i)) = (fun i => w (γ 72 i)) from funext fun i => by rw [f72]]
  · refine ⟨fun i q1 q2 => ?_, fun i j q1 q2 q3 => ?_, fun s q1 q2 q3 => ?_, fun i q1 q2 => ?_, fun i j q1 q2 q3 => ?_, fun i q1 q2 => ?_⟩
    · rw [f72, oq]; exact t1 i q1 (by omega)
    · rw [f72, f72, f69, f69]; exact t2 i j q1 q2 (by omega)
    · obtain ⟨i, r1, r2, r3⟩ := t3 s q1 q2 ((oq s).1 q3)
      exact ⟨i, r1, by omega, by rw [f72]; exact r3⟩
    · rw [f73, oq]; exact t4 i q1 (by omega)
    · rw [f73, f73, f69, f69]; exact t5 i j q1 q2 (by omega)
    · rw [f73, f73]; exact t6 i q1 (by omega)
  · refine ⟨fun y q1 q2 q3 => ?_, fun y q1 q2 q3 d q4 => ?_, fun y q1 q2 q3 q4 => ?_, fun y q1 q2 q3 => ?_, fun y i q1 q2 q3 q4 => ?_, fun y q1 q2 q3 => ?_⟩
    · rw [f69] at q3
      have z := e1 y q1 q2 q3
      rw [f71]
      exact ⟨z.1, fun j r1 r2 r3 => by rw [f69]; exact z.2 j r1 r2 r3⟩
    · rw [f69] at q3 ⊢
      exact e2 y q1 q2 q3 d q4
    · have q3' := (oq y).1 q3
      have yu : y ≠ u := fun r => q4 (γ 10 10 - 2) (by omega) (by omega) (by rw [f73, hu, r])
      rw [f71, f69, f70 y yu]
      by_cases r : y = x
      · rw [r]; exact ⟨h71, by omega⟩
      · refine e3 y q1 q2 q3' (fun i r1 r2 => ?_)
        by_cases z : i = γ 10 10 - 1
        · rw [z, ← hx]; exact fun w => r w.symm
        · have := q4 i r1 (by omega); rw [f73] at this; exact this
    · have q3' := (oq y).1 q3
      obtain ⟨i, r⟩ := e4 y q1 q2 q3'
      by_cases z : i < γ 10 10 - 1
      · exact ⟨i, piz y i r z⟩
      · obtain ⟨r1, r2, r3, r4⟩ := r
        have : i = γ 10 10 - 1 := by omega
        rw [this, ← hx] at r3
        refine ⟨γ 10 10 - 2, by omega, by omega, by rw [f73, f69, f69, hu]; omega, fun q => by omega⟩
    · have q3' := (oq y).1 q3
      rw [f73]
      have b6 := (e6 u tu.1.1 tu.1.2 tu.2).1
      rcases pin y i q1 q2 q3' q4 with r | r
      · have z := e5 y i q1 q2 q3' r
        have lo : γ' 70 (γ 73 i) ≤ γ 70 (γ 73 i) := by
          by_cases w : γ 73 i = u
          · rw [w, k70]; omega
          · rw [f70 _ w]; exact Int.le_refl _
        refine ⟨z.1, ?_, fun j r1 r2 r3 r4 => ?_⟩
        · by_cases w : y = u
          · have : i = γ 10 10 - 2 := pi_uq hT r (by rw [w, ← hu]; exact pi_path hT (by omega) (by omega))
            rw [this, hu, w]; exact Int.le_refl _
          · rw [f70 y w]; omega
        · rw [f71] at r2
          have := z.2.2 j r1 r2 r3 ((oq _).1 r4)
          rw [f69]
          omega
      · obtain ⟨ri, r⟩ := r
        have z := e5 y _ q1 q2 q3' r
        rw [← hx] at z
        have yu : y ≠ u := fun w => by
          have := r.2.2.1
          rw [← hx, w] at this
          omega
        rw [ri, hu, f70 y yu, k70]
        refine ⟨eux.tr z.1, by omega, fun j r1 r2 r3 r4 => ?_⟩
        rw [f71] at r2
        have := z.2.2 j r1 r2 r3 ((oq _).1 r4)
        rw [f69]
        omega
    · have q3' := (oq y).1 q3
      have z := e6 y q1 q2 q3'
      by_cases w : y = u
      · rw [w, k70, f69]
        have zu := e6 u tu.1.1 tu.1.2 tu.2
        refine ⟨by omega, ?_⟩
        rcases Int.le_total (γ 70 u) (γ 70 x) with v | v
        · obtain ⟨d, z1, z2, z3, z4⟩ := zu.2
          exact ⟨d, z1, (oq d).2 z2, by rw [f69]; omega, z4⟩
        · obtain ⟨d, z1, z2, z3, z4⟩ := lx.2
          exact ⟨d, z1, (oq d).2 z2, by rw [f69]; omega, eux.tr z4⟩
      · rw [f70 y w, f69]
        obtain ⟨d, z1, z2, z3, z4⟩ := z.2
        exact ⟨z.1, d, z1, (oq d).2 z2, by rw [f69]; exact z3, z4⟩
  · have ⟨c1, c2, c3, c4⟩ := hC
    rw [OdC, k13]
    refine ⟨c1, c2, fun s q1 q2 q3 q4 => ?_, fun y j q1 q2 q3 q4 q5 q6 => ?_⟩
    · rw [f69] at q3; exact c3 s q1 q2 q3 q4
    · rw [f69] at q3
      rw [f71] at q5
      exact c4 y j q1 q2 q3 q4 q5 q6
set_option maxHeartbeats 2000000 in
/-- it reaches none that was open before it: all from it on are done -/
theorem OdI.pop {γ0 γ γ' : St} {S x i0 : Int} (hX : SdX γ0 S) (h : OdI γ0 S γ) (hP : 0 < γ 10 10) (hx : x = γ 73 (γ 10 10 - 1)) (h71 : γ 71 x = 3) (hl : γ 70 x = γ 69 x) (hi : 0 ≤ i0 ∧ i0 < γ 10 9 ∧ γ 72 i0 = x)
    (k9 : γ' 10 9 = i0) (k10 : γ' 10 10 = γ 10 10 - 1) (k11 : γ' 10 11 = γ 10 11 + (γ 10 9 - i0)) (ga : ∀ i, i0 ≤ i → i < γ 10 9 → γ' 69 (γ 72 i) = S + 1) (gb : ∀ s, (∀ i, i0 ≤ i → i < γ 10 9 → γ 72 i ≠ s) → γ' 69 s = γ 69 s) (gw : ∀ w : Int → Int, sm (fun i => w (γ' 75 i)) 0 (γ' 10 11) = sm (fun i => w (γ 75 i)) 0 (γ 10 11) + sm (fun i => w (γ 72 i)) i0 (γ 10 9)) (gr : ∀ i, 0 ≤ i → i < γ' 10 11 → 0 ≤ γ' 75 i ∧ γ' 75 i < S) (f : ∀ j k, j ≠ 69 → j ≠ 75 → (j ≠ 10 ∨ k ≠ 9 ∧ k ≠ 10 ∧ k ≠ 11 ∧ k ≠ 13) → γ' j k = γ j k)
    (go : i0 = γ 10 9 - 1 ∧ γ' 10 13 = γ 10 13 ∨ i0 < γ 10 9 - 1 ∧ 0 ≤ γ' 10 13 ∧ (γ' 10 13 = γ 10 13 ∨ ∃ i, i0 ≤ i ∧ i < γ 10 9 ∧ γ' 10 13 = γ 72 i) ∧ (∀ i, i0 ≤ i → i < γ 10 9 → γ' 10 13 ≤ γ 72 i) ∧ (0 ≤ γ 10 13 → γ' 10 13 ≤ γ 10 13)) : OdI γ0 S γ' := by
  have ⟨hF, hN, hT, hE, hC⟩ := h
  have ⟨e1, e2, e3, e4, e5, e6⟩ := hE
  have ⟨n1, n2, n3, n4, n5, n6⟩ := hN
  have ⟨t1, t2, t3, t4, t5, t6⟩ := hT
  have cnt := hN.cnt hX.1.1
  have tx := t4 (γ 10 10 - 1) (by omega) (by omega)
  rw [← hx] at tx
  have f70 : ∀ k, γ' 70 k = γ 70 k := fun k => f 70 k (by omega) (by omega) (by omega)
  have f71 : ∀ k, γ' 71 k = γ 71 k := fun k => f 71 k (by omega) (by omega) (by omega)
  have f72 : ∀ k, γ' 72 k = γ 72 k := fun k => f 72 k (by omega) (by omega) (by omega)
  have f73 : ∀ k, γ' 73 k = γ 73 k := fun k => f 73 k (by omega) (by omega) (by omega)
  have k8 := f 10 8 (by omega) (by omega) (by omega)
  -- the circle: the open ones from x on
  have seg : ∀ i, i0 ≤ i → i < γ 10 9 → (0 ≤ γ 72 i ∧ γ 72 i < S) ∧ Opn γ S (γ 72 i) ∧ γ 69 x ≤ γ 69 (γ 72 i) := fun i q1 q2 => by
    have z := t1 i (by omega) q2
    refine ⟨z.1, z.2, ?_⟩
    by_cases q : i = i0
    · rw [q, hi.2.2]; exact Int.le_refl _
    · have := t2 i0 i hi.1 (by omega) q2
      rw [hi.2.2] at this
      omega
  have mem : ∀ s, 0 ≤ s → s < S → Opn γ S s → γ 69 x ≤ γ 69 s → γ' 69 s = S + 1 := fun s q1 q2 q3 q4 => by
    obtain ⟨i, r1, r2, r3⟩ := t3 s q1 q2 q3
    by_cases q : i0 ≤ i
    · rw [← r3]; exact ga i q r2
    · have := t2 i i0 r1 (by omega) hi.2.1
      rw [hi.2.2, r3] at this
      omega
  have out : ∀ s, (¬ Opn γ S s ∨ γ 69 s < γ 69 x) → γ' 69 s = γ 69 s := fun s q => gb s (fun i r1 r2 r3 => by
    have z := seg i r1 r2
    rw [r3] at z
    rcases q with q | q
    · exact q z.2.1
    · omega)
  have dn : ∀ s, γ 69 s = S + 1 → γ' 69 s = S + 1 := fun s q => by rw [out s (Or.inl (fun r => by have := r.2; omega))]; exact q
  have nz : ∀ s, 0 ≤ s → s < S → (γ' 69 s ≠ 0 ↔ γ 69 s ≠ 0) := fun s q1 q2 => by
    by_cases q : Opn γ S s ∧ γ 69 x ≤ γ 69 s
    · rw [mem s q1 q2 q.1 q.2]
      have := q.1.1
      have := hX.1.1
      omega
    · rw [out s (by
        by_cases r : Opn γ S s
        · exact Or.inr (by rcases Int.lt_or_le (γ 69 s) (γ 69 x) with v | v; exact v; exact absurd ⟨r, v⟩ q)
        · exact Or.inl r)]
  have oq : ∀ y, 0 ≤ y → y < S → (Opn γ' S y ↔ Opn γ S y ∧ γ 69 y < γ 69 x) := fun y q1 q2 => by
    constructor
    · intro r
      by_cases q : Opn γ S y
      · rcases Int.lt_or_le (γ 69 y) (γ 69 x) with v | v
        · exact ⟨q, v⟩
        · exfalso
          have := mem y q1 q2 q v
          have := r.2
          omega
      · exfalso
        have := out y (Or.inl q)
        unfold Opn at r
        rw [this] at r
        exact q r
    · intro r
      unfold Opn
      rw [out y (Or.inr r.2)]
      exact r.1
  have px : ∀ y, 0 ≤ y → y < S → Opn γ S y → γ 69 x ≤ γ 69 y → piI γ (γ 10 10 - 1) y := fun y q1 q2 q3 q4 => ⟨by omega, by omega, by rw [← hx]; exact q4, fun q => by omega⟩
  -- edges of the circle stay in it or lead to what is done
  have cl : ∀ y c, 0 ≤ y → y < S → Opn γ S y → γ 69 x ≤ γ 69 y → Ed γ0 y c → γ' 69 c = S + 1 := fun y c q1 q2 q3 q4 q5 => by
    have s3 : γ 71 y = 3 := by
      by_cases q : y = x
      · rw [q]; exact h71
      · refine (e3 y q1 q2 q3 (fun i r1 r2 r3 => ?_)).1
        by_cases z : i = γ 10 10 - 1
        · rw [z, ← hx] at r3; exact q r3.symm
        · have := t5 i (γ 10 10 - 1) r1 (by omega) (by omega)
          rw [r3, ← hx] at this
          omega
    obtain ⟨j, j1, j2, j3⟩ := q5.to
    have c0 : 0 ≤ sdV γ0 y j := by rw [j3]; exact q5.1
    have cS := hX.2 y j q1 q2 j1 j2
    have v := (e1 y q1 q2 (by have := q3.1; omega)).2 j j1 (by omega) c0
    have w := e5 y _ q1 q2 q3 (px y q1 q2 q3 q4)
    rw [j3] at v cS c0
    have u := n5 c c0 cS.2
    rcases u with u | u | u
    · exact absurd u v
    · have oc : Opn γ S c := ⟨by omega, by omega⟩
      have w2 := w.2.2 j j1 (by omega) (by rw [j3]; exact c0) (by rw [j3]; exact oc)
      rw [j3, ← hx, hl] at w2
      exact mem c c0 cS.2 oc w2
    · exact dn c u
  -- each reaches x
  have back : ∀ (n : Nat) (y : Int), 0 ≤ y → y < S → Opn γ S y → γ 69 x ≤ γ 69 y → γ 69 y - γ 69 x < n → Rc (Ed γ0) y x := by
    intro n
    induction n with
    | zero => intro y q1 q2 q3 q4 q5; omega
    | succ n ih =>
      intro y q1 q2 q3 q4 q5
      by_cases q : y = x
      · rw [q]; exact Rc.rf
      · have nl := (e3 y q1 q2 q3 (fun i r1 r2 r3 => by
          by_cases z : i = γ 10 10 - 1
          · rw [z, ← hx] at r3; exact q r3.symm
          · have := t5 i (γ 10 10 - 1) r1 (by omega) (by omega)
            rw [r3, ← hx] at this
            omega)).2
        have w := (e5 y _ q1 q2 q3 (px y q1 q2 q3 q4)).2.1
        rw [← hx, hl] at w
        obtain ⟨d, z1, z2, z3, z4⟩ := (e6 y q1 q2 q3).2
        exact z4.tr (ih d z1.1 z1.2 z2 (by omega) (by omega))
  have fwd : ∀ y, 0 ≤ y → y < S → Opn γ S y → γ 69 x ≤ γ 69 y → Rc (Ed γ0) x y := fun y q1 q2 q3 q4 => by
    have := (e5 y _ q1 q2 q3 (px y q1 q2 q3 q4)).1
    rw [← hx] at this
    exact this
  have pin : ∀ y i, 0 ≤ y → y < S → Opn γ S y → γ 69 y < γ 69 x → piI γ' i y → piI γ i y := fun y i q1 q2 q3 q4 r => by
    obtain ⟨r1, r2, r3, r4⟩ := r
    have pl : ∀ k, 0 ≤ k → k < γ 10 10 - 1 → γ' 69 (γ 73 k) = γ 69 (γ 73 k) := fun k z1 z2 => out _ (Or.inr (by have := t5 k (γ 10 10 - 1) z1 (by omega) (by omega); rw [← hx] at this; exact this))
    rw [f73, pl i r1 (by omega), out y (Or.inr q4)] at r3
    refine ⟨r1, by omega, r3, fun z => ?_⟩
    by_cases w : i + 1 = γ 10 10 - 1
    · rw [w, ← hx]; exact q4
    · have := r4 (by omega)
      rw [f73, pl (i + 1) (by omega) (by omega), out y (Or.inr q4)] at this
      exact this
  have piz : ∀ y i, 0 ≤ y → y < S → Opn γ S y → γ 69 y < γ 69 x → piI γ i y → piI γ' i y := fun y i q1 q2 q3 q4 r => by
    obtain ⟨r1, r2, r3, r4⟩ := r
    have pl : ∀ k, 0 ≤ k → k < γ 10 10 - 1 → γ' 69 (γ 73 k) = γ 69 (γ 73 k) := fun k z1 z2 => out _ (Or.inr (by have := t5 k (γ 10 10 - 1) z1 (by omega) (by omega); rw [← hx] at this; exact this))
    have il : i < γ 10 10 - 1 := by
      rcases Int.lt_or_le i (γ 10 10 - 1) with z | z
      · exact z
      · rw [show i = γ 10 10 - 1 by omega, ← hx] at r3; omega
    refine ⟨r1, by omega, by rw [f73, pl i r1 il, out y (Or.inr q4)]; exact r3, fun z => ?_⟩
    rw [f73, pl (i + 1) (by omega) (by omega), out y (Or.inr q4)]
    exact r4 (by omega)
  have pbl : ∀ k, 0 ≤ k → k < γ 10 10 - 1 → γ 69 (γ 73 k) < γ 69 x := fun k z1 z2 => by
    have := t5 k (γ 10 10 - 1) z1 (by omega) (by omega)
    rw [← hx] at this
    exact this
  have tbl : ∀ k, 0 ≤ k → k < i0 → γ 69 (γ 72 k) < γ 69 x := fun k z1 z2 => by
    have := t2 k i0 z1 z2 hi.2.1
    rw [hi.2.2] at this
    exact this
  refine ⟨fun j k q1 q2 => by rw [f j k (by omega) (by omega) (by omega)]; exact hF j k q1 q2, ?_, ?_, ?_, ?_⟩
  · have cw : ∀ w, sm (cnW γ' w) 0 S = sm (cnW γ w) 0 S := fun w => sm_ext (fun s q1 q2 => by
      unfold cnW
      by_cases q : γ 69 s ≠ 0
      · rw [if_pos q, if_pos ((nz s q1 q2).2 q)]
      · rw [if_neg q, if_neg (fun r => q ((nz s q1 q2).1 r))])
    refine ⟨by omega, by omega, by rw [k8, cw]; exact n3, fun w => ?_, fun s q1 q2 => ?_, gr⟩
    · have sp : ∀ m : Nat, i0 + m ≤ γ 10 9 → sm (fun i => w (γ 72 i)) 0 (i0 + m) = sm (fun i => w (γ 72 i)) 0 i0 + sm (fun i => w (γ 72 i)) i0 (i0 + m) := by
        intro m
        induction m with
        | zero => intro _; rw [show i0 + ((0 : Nat) : Int) = i0 by omega, sm_nil (Int.le_refl i0)]; omega
        | succ m ih =>
          intro hm
          rw [show i0 + ((m + 1 : Nat) : Int) = i0 + m + 1 by omega, sm_succ (by omega), sm_succ (by omega), ih (by omega)]
          omega
      have s1 := sp (γ 10 9 - i0).toNat (by omega)
      rw [show i0 + (((γ 10 9 - i0).toNat : Nat) : Int) = γ 10 9 by omega] at s1
      rw [cw, ← n4 w, gw, k9, show (fun i => w (γ' 72 i)) = (fun i => w (γ 72 i)) from funext fun i => by rw [f72]]
      omega
    · rw [k8]
      by_cases q : Opn γ S s ∧ γ 69 x ≤ γ 69 s
      · exact Or.inr (Or.inr (mem s q1 q2 q.1 q.2))
      · rw [out s (by
          by_cases r : Opn γ S s
          · exact Or.inr (by rcases Int.lt_or_le (γ 69 s) (γ 69 x) with v | v; exact v; exact absurd ⟨r, v⟩ q)
          · exact Or.inl r)]
        exact n5 s q1 q2
  · refine ⟨fun i q1 q2 => ?_, fun i j q1 q2 q3 => ?_, fun s q1 q2 q3 => ?_, fun i q1 q2 => ?_, fun i j q1 q2 q3 => ?_, fun i q1 q2 => ?_⟩
    · have z := t1 i q1 (by omega)
      rw [f72, oq _ z.1.1 z.1.2]
      exact ⟨z.1, z.2, tbl i q1 (by omega)⟩
    · rw [f72, f72, out _ (Or.inr (tbl i q1 (by omega))), out _ (Or.inr (tbl j (by omega) (by omega)))]; exact t2 i j q1 q2 (by omega)
    · have r := (oq s q1 q2).1 q3
      obtain ⟨i, r1, r2, r3⟩ := t3 s q1 q2 r.1
      refine ⟨i, r1, ?_, by rw [f72]; exact r3⟩
      rcases Int.lt_or_le i i0 with v | v
      · omega
      · have := (seg i v r2).2.2
        rw [r3] at this
        omega
    · have z := t4 i q1 (by omega)
      rw [f73, oq _ z.1.1 z.1.2]
      exact ⟨z.1, z.2, pbl i q1 (by omega)⟩
    · rw [f73, f73, out _ (Or.inr (pbl i q1 (by omega))), out _ (Or.inr (pbl j (by omega) (by omega)))]; exact t5 i j q1 q2 (by omega)
    · rw [f73, f73]; exact t6 i q1 (by omega)
  · refine ⟨fun y q1 q2 q3 => ?_, fun y q1 q2 q3 d q4 => ?_, fun y q1 q2 q3 q4 => ?_, fun y q1 q2 q3 => ?_, fun y i q1 q2 q3 q4 => ?_, fun y q1 q2 q3 => ?_⟩
    · have z := e1 y q1 q2 ((nz y q1 q2).1 q3)
      rw [f71]
      exact ⟨z.1, fun j r1 r2 r3 => (nz _ r3 (hX.2 y j q1 q2 r1 (by omega)).2).2 (z.2 j r1 r2 r3)⟩
    · by_cases q : Opn γ S y ∧ γ 69 x ≤ γ 69 y
      · exact cl y d q1 q2 q.1 q.2 q4
      · rw [out y (by
          by_cases r : Opn γ S y
          · exact Or.inr (by rcases Int.lt_or_le (γ 69 y) (γ 69 x) with v | v; exact v; exact absurd ⟨r, v⟩ q)
          · exact Or.inl r)] at q3
        exact dn d (e2 y q1 q2 q3 d q4)
    · have r := (oq y q1 q2).1 q3
      rw [f71, f70, out y (Or.inr r.2)]
      refine e3 y q1 q2 r.1 (fun i r1 r2 r3 => ?_)
      by_cases z : i = γ 10 10 - 1
      · rw [z, ← hx] at r3
        have := r.2
        rw [r3] at this
        omega
      · exact q4 i r1 (by omega) (by rw [f73]; exact r3)
    · have r := (oq y q1 q2).1 q3
      obtain ⟨i, p⟩ := e4 y q1 q2 r.1
      exact ⟨i, piz y i q1 q2 r.1 r.2 p⟩
    · have r := (oq y q1 q2).1 q3
      have p := pin y i q1 q2 r.1 r.2 q4
      have z := e5 y i q1 q2 r.1 p
      rw [f73, f70, f70]
      refine ⟨z.1, z.2.1, fun j r1 r2 r3 r4 => ?_⟩
      rw [f71] at r2
      have cS := hX.2 y j q1 q2 r1 (by have := (e1 y q1 q2 (by have := r.1.1; omega)).1; omega)
      have v := (oq _ r3 cS.2).1 r4
      rw [out _ (Or.inr v.2)]
      exact z.2.2 j r1 r2 r3 v.1
    · have r := (oq y q1 q2).1 q3
      have z := e6 y q1 q2 r.1
      rw [f70, out y (Or.inr r.2)]
      obtain ⟨d, z1, z2, z3, z4⟩ := z.2
      exact ⟨z.1, d, z1, (oq d z1.1 z1.2).2 ⟨z2, by omega⟩, by rw [out d (Or.inr (by omega))]; exact z3, z4⟩
  · have ⟨c1, c2, c3, c4⟩ := hC
    have xS := tx.1
    have le : 0 ≤ γ 10 13 → 0 ≤ γ' 10 13 ∧ γ' 10 13 ≤ γ 10 13 := fun q => by
      rcases go with g | g
      · omega
      · exact ⟨g.2.1, g.2.2.2.2 q⟩
    refine ⟨?_, fun q => ?_, fun s q1 q2 q3 q4 => ?_, fun y j q1 q2 q3 q4 q5 q6 => ?_⟩
    · rcases go with g | g
      · omega
      · obtain ⟨g1, g2, g3, g4, g5⟩ := g
        have := g4 i0 (by omega) hi.2.1
        rw [hi.2.2] at this
        omega
    · rcases go with g | g
      · rw [g.2] at q ⊢; exact c2 q
      · obtain ⟨g1, g2, g3, g4, g5⟩ := g
        rcases g3 with r | ⟨i, r1, r2, r3⟩
        · rw [r] at q ⊢; exact c2 q
        · rw [r3]
          have z := seg i r1 r2
          have b := back (γ 69 (γ 72 i) - γ 69 x + 1).toNat (γ 72 i) z.1.1 z.1.2 z.2.1 z.2.2 (by omega)
          have w := fwd (γ 72 i) z.1.1 z.1.2 z.2.1 z.2.2
          by_cases u : γ 72 i = x
          · -- another member
            have z2 := seg (γ 10 9 - 1) (by omega) (by omega)
            have ne : γ 72 (γ 10 9 - 1) ≠ x := fun r => by
              have := t2 i0 (γ 10 9 - 1) hi.1 (by omega) (by omega)
              rw [hi.2.2, r] at this
              omega
            have b2 := back (γ 69 (γ 72 (γ 10 9 - 1)) - γ 69 x + 1).toNat (γ 72 (γ 10 9 - 1)) z2.1.1 z2.1.2 z2.2.1 z2.2.2 (by omega)
            have w2 := fwd (γ 72 (γ 10 9 - 1)) z2.1.1 z2.1.2 z2.2.1 z2.2.2
            rw [u]
            exact Cy.of w2 b2 (fun r => ne r.symm)
          · exact Cy.of b w u
    · by_cases q : Opn γ S s ∧ γ 69 x ≤ γ 69 s
      · obtain ⟨i, r1, r2, r3⟩ := t3 s q1 q2 q.1
        have il : i0 ≤ i := by
          rcases Int.lt_or_le i i0 with v | v
          · have := tbl i r1 v
            rw [r3] at this
            omega
          · exact v
        rcases go with g | g
        · -- alone: a circle of its own
          have es : s = x := by rw [← r3, ← hi.2.2, show i = i0 by omega]
          obtain ⟨c, d1, d2⟩ := q4
          have cc : c = x := by
            have gc := cl s c q1 q2 q.1 q.2 d1
            by_cases u : c = x
            · exact u
            · exfalso
              -- c is done, so it does not come back
              have cd : γ 69 c = S + 1 := by
                by_cases v : Opn γ S c ∧ γ 69 x ≤ γ 69 c
                · obtain ⟨j, j1, j2, j3⟩ := d1.to
                  have cS := hX.2 s j q1 q2 j1 j2
                  rw [j3] at cS
                  obtain ⟨k, k1, k2, k3⟩ := t3 c d1.1 cS.2 v.1
                  have : i0 ≤ k := by
                    rcases Int.lt_or_le k i0 with a | a
                    · have := tbl k k1 a
                      rw [k3] at this
                      omega
                    · exact a
                  exact absurd (by rw [← k3, ← hi.2.2, show k = i0 by omega]) u
                · rw [out c (by
                    by_cases r : Opn γ S c
                    · exact Or.inr (by rcases Int.lt_or_le (γ 69 c) (γ 69 x) with v2 | v2; exact v2; exact absurd ⟨r, v2⟩ v)
                    · exact Or.inl r)] at gc
                  exact gc
              have st : (0 ≤ s ∧ s < S) ∧ γ 69 s = S + 1 := Rc.cl (P := fun y => (0 ≤ y ∧ y < S) ∧ γ 69 y = S + 1) (fun a b ha hab => by
                obtain ⟨j, j1, j2, j3⟩ := hab.to
                have := hX.2 a j ha.1.1 ha.1.2 j1 j2
                rw [j3] at this
                exact ⟨⟨hab.1, this.2⟩, e2 a ha.1.1 ha.1.2 ha.2 b hab⟩) d2 (by
                obtain ⟨j, j1, j2, j3⟩ := d1.to
                have := hX.2 s j q1 q2 j1 j2
                rw [j3] at this
                exact ⟨⟨d1.1, this.2⟩, cd⟩)
              have := q.1.2
              omega
          obtain ⟨j, j1, j2, j3⟩ := d1.to
          have z := c4 x j xS.1 xS.2 (by have := tx.2.1; omega) j1 (by omega) (by rw [es] at j3; rw [j3, cc])
          have := le z.1
          omega
        · obtain ⟨g1, g2, g3, g4, g5⟩ := g
          have := g4 i il r2
          rw [r3] at this
          exact ⟨g2, this⟩
      · rw [out s (by
          by_cases r : Opn γ S s
          · exact Or.inr (by rcases Int.lt_or_le (γ 69 s) (γ 69 x) with v | v; exact v; exact absurd ⟨r, v⟩ q)
          · exact Or.inl r)] at q3
        have z := c3 s q1 q2 q3 q4
        have := le z.1
        omega
    · rw [f71] at q5
      have z := c4 y j q1 q2 ((nz y q1 q2).1 q3) q4 q5 q6
      have := le z.1
      omega
