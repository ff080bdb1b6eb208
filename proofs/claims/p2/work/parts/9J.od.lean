/-! the class's order: what stands while slots are sorted -/
theorem sm_upd {f g : Int → Int} {n c : Int} (h1 : 0 ≤ c) (h2 : c < n) (e : ∀ i, 0 ≤ i → i < n → i ≠ c → f i = g i) : sm f 0 n = sm g 0 n - g c + f c := by
  have x : ∀ m : Nat, c + 1 + m ≤ n → sm f 0 (c + 1 + m) = sm g 0 (c + 1 + m) - g c + f c := by
    intro m
    induction m with
    | zero =>
      intro _
      rw [show c + 1 + ((0 : Nat) : Int) = c + 1 by omega, sm_succ h1, sm_succ h1, sm_ext (f := f) (g := g) (fun i q1 q2 => e i q1 (by omega) (by omega))]
      omega
    | succ m ih =>
      intro hm
      have i1 := ih (by omega)
      have i2 := e (c + 1 + m) (by omega) (by omega) (by omega)
      rw [show c + 1 + ((m + 1 : Nat) : Int) = c + 1 + m + 1 by omega, sm_succ (by omega), sm_succ (by omega)]
      omega
  have := x (n - c - 1).toNat (by omega)
  rw [show c + 1 + (((n - c - 1).toNat : Nat) : Int) = n by omega] at this
  exact this
theorem sm_le {f : Int → Int} {n : Int} (h0 : 0 ≤ n) (h : ∀ i, 0 ≤ i → i < n → f i ≤ 1) : sm f 0 n ≤ n := by
  have x : ∀ m : Nat, (m : Int) ≤ n → sm f 0 m ≤ m := by
    intro m
    induction m with
    | zero => intro _; rw [sm_nil (by omega)]; omega
    | succ m ih =>
      intro hm
      have := ih (by omega)
      have := h m (by omega) (by omega)
      rw [show ((m + 1 : Nat) : Int) = (m : Int) + 1 by omega, sm_succ (by omega)]
      omega
  have := x n.toNat (by omega)
  rw [show ((n.toNat : Nat) : Int) = n by omega] at this
  exact this
def Opn (γ : St) (S x : Int) : Prop := 1 ≤ γ 69 x ∧ γ 69 x ≤ S
def piI (γ : St) (i x : Int) : Prop := 0 ≤ i ∧ i < γ 10 10 ∧ γ 69 (γ 73 i) ≤ γ 69 x ∧ (i + 1 < γ 10 10 → γ 69 x < γ 69 (γ 73 (i + 1)))
def cnW (γ : St) (w : Int → Int) : Int → Int := fun s => if γ 69 s ≠ 0 then w s else 0
def OdN (S : Int) (γ : St) : Prop := (0 ≤ γ 10 9 ∧ 0 ≤ γ 10 10 ∧ 0 ≤ γ 10 11) ∧ γ 10 10 ≤ γ 10 8 ∧ γ 10 8 = sm (cnW γ (fun _ => 1)) 0 S ∧ (∀ w : Int → Int, sm (fun i => w (γ 75 i)) 0 (γ 10 11) + sm (fun i => w (γ 72 i)) 0 (γ 10 9) = sm (cnW γ w) 0 S) ∧ (∀ s, 0 ≤ s → s < S → γ 69 s = 0 ∨ (1 ≤ γ 69 s ∧ γ 69 s ≤ γ 10 8) ∨ γ 69 s = S + 1) ∧ ∀ i, 0 ≤ i → i < γ 10 11 → 0 ≤ γ 75 i ∧ γ 75 i < S
def OdT (γ0 : St) (S : Int) (γ : St) : Prop := (∀ i, 0 ≤ i → i < γ 10 9 → (0 ≤ γ 72 i ∧ γ 72 i < S) ∧ Opn γ S (γ 72 i)) ∧ (∀ i j, 0 ≤ i → i < j → j < γ 10 9 → γ 69 (γ 72 i) < γ 69 (γ 72 j)) ∧ (∀ s, 0 ≤ s → s < S → Opn γ S s → ∃ i, 0 ≤ i ∧ i < γ 10 9 ∧ γ 72 i = s) ∧ (∀ i, 0 ≤ i → i < γ 10 10 → (0 ≤ γ 73 i ∧ γ 73 i < S) ∧ Opn γ S (γ 73 i)) ∧ (∀ i j, 0 ≤ i → i < j → j < γ 10 10 → γ 69 (γ 73 i) < γ 69 (γ 73 j)) ∧ ∀ i, 0 ≤ i → i + 1 < γ 10 10 → Ed γ0 (γ 73 i) (γ 73 (i + 1))
def OdE (γ0 : St) (S : Int) (γ : St) : Prop := (∀ x, 0 ≤ x → x < S → γ 69 x ≠ 0 → (0 ≤ γ 71 x ∧ γ 71 x ≤ 3) ∧ ∀ j, 0 ≤ j → j < γ 71 x → 0 ≤ sdV γ0 x j → γ 69 (sdV γ0 x j) ≠ 0) ∧ (∀ x, 0 ≤ x → x < S → γ 69 x = S + 1 → ∀ c, Ed γ0 x c → γ 69 c = S + 1) ∧ (∀ x, 0 ≤ x → x < S → Opn γ S x → (∀ i, 0 ≤ i → i < γ 10 10 → γ 73 i ≠ x) → γ 71 x = 3 ∧ γ 70 x < γ 69 x) ∧ (∀ x, 0 ≤ x → x < S → Opn γ S x → ∃ i, piI γ i x) ∧ (∀ x i, 0 ≤ x → x < S → Opn γ S x → piI γ i x → Rc (Ed γ0) (γ 73 i) x ∧ γ 70 (γ 73 i) ≤ γ 70 x ∧ ∀ j, 0 ≤ j → j < γ 71 x → 0 ≤ sdV γ0 x j → Opn γ S (sdV γ0 x j) → γ 70 (γ 73 i) ≤ γ 69 (sdV γ0 x j)) ∧ ∀ x, 0 ≤ x → x < S → Opn γ S x → γ 70 x ≤ γ 69 x ∧ ∃ y, (0 ≤ y ∧ y < S) ∧ Opn γ S y ∧ γ 69 y = γ 70 x ∧ Rc (Ed γ0) x y
def OdC (γ0 : St) (S : Int) (γ : St) : Prop := (-1 ≤ γ 10 13 ∧ γ 10 13 < S) ∧ (0 ≤ γ 10 13 → Cy (Ed γ0) (γ 10 13)) ∧ (∀ s, 0 ≤ s → s < S → γ 69 s = S + 1 → Cy (Ed γ0) s → 0 ≤ γ 10 13 ∧ γ 10 13 ≤ s) ∧ ∀ x j, 0 ≤ x → x < S → γ 69 x ≠ 0 → 0 ≤ j → j < γ 71 x → sdV γ0 x j = x → 0 ≤ γ 10 13 ∧ γ 10 13 ≤ x
def OdF (γ0 γ : St) : Prop := ∀ j k, j ≠ 10 → (j < 69 ∨ 75 < j) → γ j k = γ0 j k
def OdI (γ0 : St) (S : Int) (γ : St) : Prop := OdF γ0 γ ∧ OdN S γ ∧ OdT γ0 S γ ∧ OdE γ0 S γ ∧ OdC γ0 S γ
/-- the slots' causes are slots -/
def SdX (γ0 : St) (S : Int) : Prop := (0 ≤ S ∧ S ≤ 9001) ∧ ∀ s j, 0 ≤ s → s < S → 0 ≤ j → j < 3 → -1 ≤ sdV γ0 s j ∧ sdV γ0 s j < S
theorem pi_uq {γ0 γ : St} {S i k x : Int} (h : OdT γ0 S γ) (h1 : piI γ i x) (h2 : piI γ k x) : i = k := by
  have ⟨_, _, _, _, m, _⟩ := h
  obtain ⟨a1, a2, a3, a4⟩ := h1
  obtain ⟨b1, b2, b3, b4⟩ := h2
  rcases Int.lt_or_le i k with q | q
  · exfalso
    have y := a4 (by omega)
    by_cases z : i + 1 = k
    · rw [z] at y; omega
    · have := m (i + 1) k (by omega) (by omega) b2
      omega
  · by_cases z : k = i
    · exact z.symm
    · exfalso
      have y := b4 (by omega)
      by_cases z2 : k + 1 = i
      · rw [z2] at y; omega
      · have := m (k + 1) i (by omega) (by omega) a2
        omega
theorem pi_path {γ0 γ : St} {S i : Int} (h : OdT γ0 S γ) (h1 : 0 ≤ i) (h2 : i < γ 10 10) : piI γ i (γ 73 i) := ⟨h1, h2, Int.le_refl _, fun q => h.2.2.2.2.1 i (i + 1) h1 (by omega) q⟩
theorem OdN.cnt {S : Int} {γ : St} (h : OdN S γ) (hS : 0 ≤ S) : γ 10 8 ≤ S ∧ 0 ≤ γ 10 8 := by
  have ⟨a1, a2, a3, a4, a5, a6⟩ := h
  rw [a3]
  refine ⟨sm_le hS (fun i _ _ => ?_), sm_nn (fun i _ _ => ?_)⟩
  · show (if γ 69 i ≠ 0 then (1 : Int) else 0) ≤ 1
    split <;> omega
  · show 0 ≤ (if γ 69 i ≠ 0 then (1 : Int) else 0)
    split <;> omega
theorem OdN.tk {S : Int} {γ : St} (h : OdN S γ) : γ 10 11 + γ 10 9 = γ 10 8 := by
  have ⟨a1, a2, a3, a4, a5, a6⟩ := h
  have := a4 (fun _ => 1)
  rw [← a3] at this
  have one : ∀ n : Int, 0 ≤ n → sm (fun _ => (1 : Int)) 0 n = n := by
    intro n hn
    have x : ∀ m : Nat, sm (fun _ => (1 : Int)) 0 m = m := by
      intro m
      induction m with
      | zero => rw [sm_nil (by omega)]; omega
      | succ m ih =>
        rw [show ((m + 1 : Nat) : Int) = (m : Int) + 1 by omega, sm_succ (by omega), ih]
    have := x n.toNat
    rw [show ((n.toNat : Nat) : Int) = n by omega] at this
    exact this
  rw [one _ a1.2.2, one _ a1.1] at this
  exact this
set_option maxHeartbeats 1000000 in
/-- one side is looked at, and it is no new slot -/
theorem OdI.adv {γ0 γ γ' : St} {S x c L o : Int} (hX : SdX γ0 S) (h : OdI γ0 S γ) (hP : 0 < γ 10 10) (hx : x = γ 73 (γ 10 10 - 1)) (hs : γ 71 x ≠ 3) (hc : c = sdV γ0 x (γ 71 x)) (hL : c < 0 ∧ L = γ 70 x ∨ 0 ≤ c ∧ γ 69 c ≠ 0 ∧ L = min (γ 70 x) (γ 69 c)) (ho : c ≠ x ∧ o = γ 10 13 ∨ c = x ∧ (o = γ 10 13 ∧ 0 ≤ o ∧ o ≤ x ∨ o = x ∧ (γ 10 13 < 0 ∨ x ≤ γ 10 13)))
    (s0 : ∀ j k, γ' j k = if j = 70 ∧ k = x then L else if j = 71 ∧ k = x then γ 71 x + 1 else if j = 10 ∧ k = 13 then o else γ j k) : OdI γ0 S γ' := by
  have ⟨hF, hN, hT, hE, hC⟩ := h
  have ⟨e1, e2, e3, e4, e5, e6⟩ := hE
  have ⟨n1, n2, n3, n4, n5, n6⟩ := hN
  have tx := hT.2.2.2.1 (γ 10 10 - 1) (by omega) (by omega)
  rw [← hx] at tx
  have f : ∀ j k, (j ≠ 70 ∧ j ≠ 71 ∨ k ≠ x) → (j ≠ 10 ∨ k ≠ 13) → γ' j k = γ j k := fun j k q1 q2 => by rw [s0, if_neg (by omega), if_neg (by omega), if_neg (by omega)]
  have f69 : ∀ k, γ' 69 k = γ 69 k := fun k => f 69 k (by omega) (by omega)
  have f73 : ∀ k, γ' 73 k = γ 73 k := fun k => f 73 k (by omega) (by omega)
  have f72 : ∀ k, γ' 72 k = γ 72 k := fun k => f 72 k (by omega) (by omega)
  have f75 : ∀ k, γ' 75 k = γ 75 k := fun k => f 75 k (by omega) (by omega)
  have f8 := f 10 8 (by omega) (by omega)
  have f9 := f 10 9 (by omega) (by omega)
  have f10 := f 10 10 (by omega) (by omega)
  have f11 := f 10 11 (by omega) (by omega)
  have k70 : γ' 70 x = L := by rw [s0]; simp
  have k71 : γ' 71 x = γ 71 x + 1 := by rw [s0]; simp
  have k13 : γ' 10 13 = o := by rw [s0]; simp
  have x3 := (e1 x tx.1.1 tx.1.2 (by have := tx.2.1; omega)).1
  have cS := hX.2 x (γ 71 x) tx.1.1 tx.1.2 x3.1 (by omega)
  rw [← hc] at cS
  have LL : L ≤ γ 70 x := by omega
  have oq : ∀ y, Opn γ' S y ↔ Opn γ S y := fun y => by unfold Opn; rw [f69]
  have pq : ∀ i y, piI γ' i y ↔ piI γ i y := fun i y => by unfold piI; rw [f10, f73, f73, f69, f69, f69]
  have cw : ∀ w, cnW γ' w = cnW γ w := fun w => funext fun s => by unfold cnW; rw [f69]
  have px : piI γ (γ 10 10 - 1) x := by rw [hx]; exact pi_path hT (by omega) (by omega)
  have low : ∀ y i, 0 ≤ y → y < S → Opn γ S y → piI γ i y → γ' 70 (γ 73 i) ≤ γ 70 (γ 73 i) ∧ (γ 73 i = x → γ' 70 (γ 73 i) = L) := fun y i _ _ _ hp => by
    by_cases q : γ 73 i = x
    · rw [q, k70]; exact ⟨LL, fun _ => rfl⟩
    · rw [f 70 _ (by omega) (by omega)]; exact ⟨Int.le_refl _, fun q2 => absurd q2 q⟩
  refine ⟨fun j k q1 q2 => by rw [f j k (by omega) (by omega)]; exact hF j k q1 q2, ?_, ?_, ?_, ?_⟩
  · refine ⟨by omega, by omega, by rw [f8, cw]; exact n3, fun w => ?_, fun s q1 q2 => by rw [f69, f8]; exact n5 s q1 q2, fun i q1 q2 => by rw [f75]; exact n6 i q1 (by omega)⟩
    rw [cw, f11, f9, ← n4 w, show (fun i => w (γ' 75 i)) = (fun i => w (γ 75 i)) from funext fun i => by rw [f75], show (fun i => w (γ' 72 i)) = (fun i => w (γ 72 i)) from funext fun i => by rw [f72]]
  · have ⟨t1, t2, t3, t4, t5, t6⟩ := hT
    refine ⟨fun i q1 q2 => ?_, fun i j q1 q2 q3 => ?_, fun s q1 q2 q3 => ?_, fun i q1 q2 => ?_, fun i j q1 q2 q3 => ?_, fun i q1 q2 => ?_⟩
    · rw [f72, oq]; exact t1 i q1 (by omega)
    · rw [f72, f72, f69, f69]; exact t2 i j q1 q2 (by omega)
    · obtain ⟨i, r1, r2, r3⟩ := t3 s q1 q2 ((oq s).1 q3)
      exact ⟨i, r1, by omega, by rw [f72]; exact r3⟩
    · rw [f73, oq]; exact t4 i q1 (by omega)
    · rw [f73, f73, f69, f69]; exact t5 i j q1 q2 (by omega)
    · rw [f73, f73]; exact t6 i q1 (by omega)
  · refine ⟨fun y q1 q2 q3 => ?_, fun y q1 q2 q3 d q4 => ?_, fun y q1 q2 q3 q4 => ?_, fun y q1 q2 q3 => ?_, fun y i q1 q2 q3 q4 => ?_, fun y q1 q2 q3 => ?_⟩
    · rw [f69] at q3
      have z := e1 y q1 q2 q3
      by_cases q : y = x
      · subst q
        rw [k71]
        refine ⟨by omega, fun j r1 r2 r3 => ?_⟩
        rw [f69]
        by_cases r : j = γ 71 y
        · rw [r, ← hc]; rw [r, ← hc] at r3; omega
        · exact z.2 j r1 (by omega) r3
      · rw [f 71 y (by omega) (by omega)]
        exact ⟨z.1, fun j r1 r2 r3 => by rw [f69]; exact z.2 j r1 r2 r3⟩
    · rw [f69] at q3 ⊢
      exact e2 y q1 q2 q3 d q4
    · have q4' : ∀ i, 0 ≤ i → i < γ 10 10 → γ 73 i ≠ y := fun i r1 r2 => by have := q4 i r1 (by omega); rw [f73] at this; exact this
      have yx : y ≠ x := fun r => q4' (γ 10 10 - 1) (by omega) (by omega) (by rw [← hx]; exact r.symm)
      rw [f 71 y (by omega) (by omega), f 70 y (by omega) (by omega), f69]
      exact e3 y q1 q2 ((oq y).1 q3) q4'
    · obtain ⟨i, r⟩ := e4 y q1 q2 ((oq y).1 q3)
      exact ⟨i, (pq i y).2 r⟩
    · have q3' := (oq y).1 q3
      have q4' := (pq i y).1 q4
      have z := e5 y i q1 q2 q3' q4'
      have lo := low y i q1 q2 q3' q4'
      rw [f73]
      refine ⟨z.1, ?_, fun j r1 r2 r3 r4 => ?_⟩
      · by_cases q : y = x
        · have : i = γ 10 10 - 1 := pi_uq hT q4' (by rw [q]; exact px)
          rw [this, ← hx, q]; exact Int.le_refl _
        · rw [f 70 y (by omega) (by omega)]; omega
      · rw [f69]
        by_cases q : y = x
        · have : i = γ 10 10 - 1 := pi_uq hT q4' (by rw [q]; exact px)
          have lx : γ' 70 (γ 73 i) = L := lo.2 (by rw [this, ← hx])
          rw [q, k71] at r2
          by_cases r : j = γ 71 x
          · rw [lx, q, r, ← hc]
            rw [q, r, ← hc] at r3
            omega
          · have := z.2.2 j r1 (by rw [q]; omega) r3 ((oq _).1 r4)
            omega
        · rw [f 71 y (by omega) (by omega)] at r2
          have := z.2.2 j r1 r2 r3 ((oq _).1 r4)
          omega
    · have q3' := (oq y).1 q3
      have z := e6 y q1 q2 q3'
      by_cases q : y = x
      · subst q
        rw [k70, f69]
        refine ⟨by omega, ?_⟩
        by_cases r : L = γ 70 y
        · obtain ⟨d, z1, z2, z3, z4⟩ := z.2
          exact ⟨d, z1, (oq d).2 z2, by rw [f69]; omega, z4⟩
        · have c0 : 0 ≤ c := by omega
          have cL : γ 69 c = L := by omega
          have c5 := n5 c c0 (by omega)
          have nb := q3'.2
          refine ⟨c, by omega, (oq c).2 ⟨by omega, by omega⟩, by rw [f69]; exact cL, Rc.ed ?_⟩
          rw [hc]
          exact Ed.of (by rw [← hc]; exact c0) (by omega)
      · rw [f 70 y (by omega) (by omega), f69]
        obtain ⟨d, z1, z2, z3, z4⟩ := z.2
        exact ⟨z.1, d, z1, (oq d).2 z2, by rw [f69]; exact z3, z4⟩
  · have ⟨c1, c2, c3, c4⟩ := hC
    have sl : c = x → Cy (Ed γ0) x := fun q => ⟨x, by
      have := Ed.of (γ := γ0) (s := x) (j := γ 71 x) (by omega) (by omega)
      rw [← hc, q] at this
      exact this, Rc.rf⟩
    have oo : 0 ≤ γ 10 13 → 0 ≤ o ∧ o ≤ γ 10 13 := fun q => by omega
    refine ⟨by omega, fun q => ?_, fun s q1 q2 q3 q4 => ?_, fun y j q1 q2 q3 q4 q5 q6 => ?_⟩
    · rw [k13] at q ⊢
      rcases ho with r | ⟨r, r2⟩
      · rw [r.2]; exact c2 (by omega)
      · rcases r2 with r2 | r2
        · rw [r2.1]; exact c2 (by omega)
        · rw [r2.1]; exact sl r
    · rw [f69] at q3
      have := c3 s q1 q2 q3 q4
      rw [k13]
      omega
    · rw [f69] at q3
      rw [k13]
      by_cases q : y = x
      · subst q
        rw [k71] at q5
        by_cases r : j = γ 71 y
        · rw [r, ← hc] at q6
          omega
        · have := c4 y j q1 q2 q3 q4 (by omega) q6
          omega
      · rw [f 71 y (by omega) (by omega)] at q5
        have := c4 y j q1 q2 q3 q4 q5 q6
        omega
