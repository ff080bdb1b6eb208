/-! equality: the levels from implied to product -/
theorem XmR.lx {N d i r : Int} {γ0 δ0 γ δ : St} (h : XmR N d i γ0 δ0 γ δ r) : LexR N γ δ := h.1.1.1.1
theorem LexR.k03 {N : Int} {γ δ : St} (h : LexR N γ δ) (q : γ 14 (γ 1 6) ≠ 0 ∧ γ 14 (γ 1 6) ≠ 1) : tK δ ≠ 0 ∧ tK δ ≠ 3 := by
  refine ⟨fun r => ?_, fun r => ?_⟩
  · exact q.1 (by rw [h.ot (by omega) (by omega), r]; rfl)
  · exact q.2 (by rw [h.ot (by omega) (by omega), r]; rfl)
theorem XmR.tp {N d i i0 r c : Int} {lv : Nat} {γ0 δ0 γ δ : St} (m : XmR N d i γ0 δ0 γ δ r) (h0 : XeI N lv d i0 γ0 δ0) (ht : tpB lv < lstK c ∧ (rankK c = 5 → tpB lv ≤ 4)) : γ 6 8 ≤ 0 ∨ rankK (topK γ) < lstK c ∧ (rankK c = 5 → rankK (topK γ) ≠ 5) := by
  have e8 := m.2.2.2.1.1
  have p8 := h0.1.2.2.2.2.1
  rcases h0.2.2.2.2.1 with q | q
  · exact Or.inl (by omega)
  · by_cases q2 : γ0 6 8 = 0
    · exact Or.inl (by omega)
    · refine Or.inr ?_
      have e : topK γ = topK γ0 := by
        unfold topK
        rw [e8, m.2.2.1 48 _ (by omega) (by omega) (by omega) (by omega) (by omega) (by omega)]
      rw [e]
      exact ⟨by omega, fun r => by have := ht.2 r; omega⟩
/-- a sign of two sides, from the left -/
theorem pq_bop {N d i i0 a c k : Int} {lv lv' lx : Nat} {f : Nat} {γ0 δ0 γ δ : St} {E : Nat → St → Int → Int → Option Res} {K : Int → St → Option Res} {R : St → St → Prop} (h0 : XeI N lv d i0 γ0 δ0) (m : XmR N d i γ0 δ0 γ δ a) (kd : γ 14 (γ 1 6) = c) (hk : kdM c = k) (hk2 : 5 ≤ k ∧ k ≤ 21) (rc : 0 < rankK c ∧ rankK c < 8 ∧ c ≠ 34) (ht : tpB lv < lstK c ∧ (rankK c = 5 → tpB lv ≤ 4)) (hlv : (lv' : Int) = rankK c ∧ 3 ≤ rankK c ∧ lv' = lv + 1) (hn : nestK c = 0) (hlx : lx = lv' ∧ rankK c ≠ 5 ∨ lx = 4 ∧ rankK c = 5 ∧ lv' = 5) (hE : LvE N E lv' d)
    (cont : ∀ (z : Bool) (f' : Nat) (γ' : St) (i' r : Int) (δ' : St), XmR N d i' γ0 δ0 γ' δ' r → NxT z lx (γ' 14 (γ' 1 6)) → pq (Go z f' γ' i') (K r δ') (OuR R)) : pq (f_Er_readRightSide_L57 f γ 1 i) (bndN (f_M_take δ) fun _ γ6 => bndT (E lv' γ6 d 0) fun r7 γ8 => bndT (f_M_two γ8 k a r7) K) (OuR R) := by
  have c01 : c ≠ 0 ∧ c ≠ 1 := ⟨fun q => by rw [q] at rc; exact absurd rc.1 (by decide), fun q => by rw [q] at rc; exact absurd rc.1 (by decide)⟩
  have t := m.lx.k03 (by rw [kd]; exact c01)
  have ⟨w1, w2, w3, w4, w5, w6, w7⟩ := h0
  have e8 := m.2.2.2.1.1
  refine pq_er (tkM_eq m.lx.1) ?_
  refine lp_push m.1 m.2.1 kd rc (m.tp h0 ht) (by omega) t.1 t.2 (fun n' => ?_)
  refine pq_bin hE w1.2.2.1 w1.2.1.1.1 w1.2.2.2.2.2.1 m hk hk2 rc (Or.inl ⟨hlv.1, hlv.2.1⟩) (by omega) (by omega) (by omega) t.1 t.2 (fun z f' γ' i' r δ' m' q0 q1 => cont z f' γ' i' r δ' m' ⟨fun q => ?_, fun q => ⟨fun _ => (q0 q).1, fun _ => ?_⟩⟩)
  · have := q1 q; omega
  · have := (q0 q).2; omega
/-- a sign of two sides, from the right -/
theorem pq_bopn {N d i i0 a c k : Int} {lv : Nat} {f : Nat} {γ0 δ0 γ δ : St} {E : Nat → St → Int → Int → Option Res} {K : Int → St → Option Res} {R : St → St → Prop} (h0 : XeI N lv d i0 γ0 δ0) (m : XmR N d i γ0 δ0 γ δ a) (kd : γ 14 (γ 1 6) = c) (hk : kdM c = k) (hk2 : 5 ≤ k ∧ k ≤ 21) (rc : 0 < rankK c ∧ rankK c < 8 ∧ c ≠ 34) (ht : tpB lv < lstK c ∧ (rankK c = 5 → tpB lv ≤ 4)) (hlv : (lv : Int) + 1 = rankK c ∧ rankK c ≤ 2) (hn : nestK c = 1) (hE : d < 40 → LvE N E lv (d + 1))
    (cont : ∀ (z : Bool) (f' : Nat) (γ' : St) (i' r : Int) (δ' : St), XmR N d i' γ0 δ0 γ' δ' r → NxT z lv (γ' 14 (γ' 1 6)) → pq (Go z f' γ' i') (K r δ') (OuR R)) : pq (f_Er_readRightSide_L57 f γ 1 i) (bndN (f_M_take δ) fun _ γ6 => bndT (f_M_nest γ6 d) fun r7 γ8 => bndT (E lv γ8 r7 0) fun r9 γ10 => bndT (f_M_two γ10 k a r9) K) (OuR R) := by
  have c01 : c ≠ 0 ∧ c ≠ 1 := ⟨fun q => by rw [q] at rc; exact absurd rc.1 (by decide), fun q => by rw [q] at rc; exact absurd rc.1 (by decide)⟩
  have t := m.lx.k03 (by rw [kd]; exact c01)
  have ⟨w1, w2, w3, w4, w5, w6, w7⟩ := h0
  have e8 := m.2.2.2.1.1
  refine pq_er (tkM_eq m.lx.1) ?_
  refine lp_push m.1 m.2.1 kd rc (m.tp h0 ht) (by omega) t.1 t.2 (fun n' => ?_)
  have u := m.1.pu (c := c) (w := if rankK c = 1 then 1 else 0) t.1 t.2
  have u1 := u.1
  rw [hn] at u1
  refine pq_nest u1 (by rw [u.2.2.1.2.2.1]; decide) w7 (fun hd => ?_)
  refine pq_bin (hE hd) w1.2.2.1 w1.2.1.1.1 w1.2.2.2.2.2.1 m hk hk2 rc (Or.inr hlv) (by omega) (by omega) (by omega) t.1 t.2 (fun z f' γ' i' r δ' m' q0 q1 => cont z f' γ' i' r δ' m' ⟨fun q => ?_, fun q => ⟨fun _ => (q0 q).1, fun _ => ?_⟩⟩)
  · have := q1 q; omega
  · have := (q0 q).2; omega
theorem NxT.dn {z : Bool} {lv : Nat} {c : Int} (h : NxT z (lv + 1) c) (h6 : lv ≤ 6) (hr : rankK c ≠ (lv : Int) + 1) : NxT z lv c := by
  have b := rankK_b c
  refine ⟨fun q => ?_, fun q => ⟨fun _ => (h.2 q).1 (by omega), fun _ => ?_⟩⟩
  · have := h.1 q; omega
  · by_cases r : lv = 6
    · omega
    · have := (h.2 q).2 (by omega); omega
/-- the second comparison is no sign of another level -/
theorem NxT.f {z : Bool} {lv : Nat} {c : Int} (h : NxT z lv c) (hr : rankK c ≠ 5) : z = false := by
  cases z with
  | true => exact absurd (h.1 rfl).2 hr
  | false => rfl
theorem rk_7 {c : Int} (h : rankK c = 7) : c = 17 ∨ c = 38 ∨ c = 39 := by
  unfold rankK at h
  repeat (first | omega | split at h)
theorem rk_6 {c : Int} (h : rankK c = 6) : c = 15 ∨ c = 16 := by
  unfold rankK at h
  repeat (first | omega | split at h)
theorem rk_5 {c : Int} (h : rankK c = 5) : 9 ≤ c ∧ c ≤ 14 := by
  unfold rankK at h
  repeat (first | omega | split at h)
theorem rk_4 {c : Int} (h : rankK c = 4) : c = 29 := by
  unfold rankK at h
  repeat (first | omega | split at h)
theorem rk_3 {c : Int} (h : rankK c = 3) : c = 30 ∨ c = 31 := by
  unfold rankK at h
  repeat (first | omega | split at h)
theorem rk_2 {c : Int} (h : rankK c = 2) : c = 19 := by
  unfold rankK at h
  repeat (first | omega | split at h)
theorem rk_1 {c : Int} (h : rankK c = 1) : c = 18 ∨ c = 34 ∨ c = 37 := by
  unfold rankK at h
  repeat (first | omega | split at h)
section LEV
variable {N d i0 : Int} {γ0 δ0 : St} {E : Nat → St → Int → Int → Option Res} {K : Int → St → Option Res} {R : St → St → Prop}
theorem pq_bothL (h0 : XeI N 3 d i0 γ0 δ0) (hE : LvE N E 4 d) (cont : ∀ (z : Bool) (f' : Nat) (γ' : St) (i' r : Int) (δ' : St), XmR N d i' γ0 δ0 γ' δ' r → NxT z 3 (γ' 14 (γ' 1 6)) → pq (Go z f' γ' i') (K r δ') (OuR R)) : ∀ (n : Nat) (z : Bool) (f : Nat) (γ : St) (i r : Int) (δ : St), XmR N d i γ0 δ0 γ δ r → NxT z 4 (γ 14 (γ 1 6)) → pq (Go z f γ i) (bndT (f_M_both_L6 E n δ d r) K) (OuR R) := by
  intro n
  induction n with
  | zero => intro z f γ i r δ m nx; exact pq_nr
  | succ n ih =>
    intro z f γ i r δ m nx
    unfold f_M_both_L6
    rw [bT_N]
    refine pq_yn (w_is m.lx.1 9) (fun q => ?_) (fun q => ?_)
    · rw [if_neg (show ¬ (1 : Int) = 0 by decide), bT_N]
      have kd : γ 14 (γ 1 6) = 29 := (m.lx.kw (by omega)).2 q
      have zf := nx.f (by rw [kd]; decide)
      subst zf
      simp only [bT_T]
      exact pq_bop (lv := 3) (lx := 4) h0 m.pk kd rfl (by omega) (by decide) (by decide) ⟨rfl, by decide, rfl⟩ rfl (Or.inl ⟨rfl, by decide⟩) hE ih
    · rw [if_pos (show (0 : Int) = 0 from rfl)]
      exact cont z f γ i r _ m.pk (nx.dn (by omega) (fun r => q ((m.lx.kw (by omega)).1 (rk_4 r))))
theorem pq_both (hE : LvE N E 4 d) : ∀ (R : St → St → Prop) (K : Int → St → Option Res) (f : Nat) (γ δ : St) (i : Int), XeI N 3 d i γ δ → (∀ (z : Bool) (f' : Nat) (γ' : St) (i' r : Int) (δ' : St), XmR N d i' γ δ γ' δ' r → NxT z 3 (γ' 14 (γ' 1 6)) → pq (Go z f' γ' i') (K r δ') (OuR R)) → pq (f_Er_readRightSide_L57 f γ 1 i) (bndT (f_M_both E δ d) K) (OuR R) := fun R K f γ δ i h0 cont => by
  unfold f_M_both
  rw [bT_T]
  exact hE R _ f γ δ i (h0.up (by omega)) (pq_bothL h0 hE cont FU)
theorem pq_eitherL (h0 : XeI N 2 d i0 γ0 δ0) (hE : LvE N E 3 d) (cont : ∀ (z : Bool) (f' : Nat) (γ' : St) (i' r : Int) (δ' : St), XmR N d i' γ0 δ0 γ' δ' r → NxT z 2 (γ' 14 (γ' 1 6)) → pq (Go z f' γ' i') (K r δ') (OuR R)) : ∀ (n : Nat) (z : Bool) (f : Nat) (γ : St) (i r : Int) (δ : St), XmR N d i γ0 δ0 γ δ r → NxT z 3 (γ 14 (γ 1 6)) → pq (Go z f γ i) (bndT (f_M_either_L6 E n δ d r) K) (OuR R) := by
  intro n
  induction n with
  | zero => intro z f γ i r δ m nx; exact pq_nr
  | succ n ih =>
    intro z f γ i r δ m nx
    have b26 : ∀ δ, XmR N d i γ0 δ0 γ δ r → (γ 14 (γ 1 6) = 30 ∨ γ 14 (γ 1 6) = 31) → pq (Go z f γ i) (bndT (f_M_either_b26 E (f_M_either_L6 E n) δ d r) K) (OuR R) := fun δ m hc => by
      have zf := nx.f (by rcases hc with q | q <;> rw [q] <;> decide)
      subst zf
      unfold f_M_either_b26 f_M_either_b43
      rw [bT_N]
      refine pq_yn (w_is m.lx.1 10) (fun q => ?_) (fun q => ?_)
      · rw [if_neg (show ¬ (1 : Int) = 0 by decide), bT_N]
        have kd : γ 14 (γ 1 6) = 30 := (m.lx.kw (by omega)).2 q
        simp only [bT_T]
        exact pq_bop (lv := 2) (lx := 3) h0 m.pk kd rfl (by omega) (by decide) (by decide) ⟨rfl, by decide, rfl⟩ rfl (Or.inl ⟨rfl, by decide⟩) hE ih
      · rw [if_pos (show (0 : Int) = 0 from rfl), bT_N]
        have kd : γ 14 (γ 1 6) = 31 := by
          rcases hc with r | r
          · exact (q ((m.lx.kw (by omega)).1 r)).elim
          · exact r
        simp only [bT_T]
        exact pq_bop (lv := 2) (lx := 3) h0 m.pk kd rfl (by omega) (by decide) (by decide) ⟨rfl, by decide, rfl⟩ rfl (Or.inl ⟨rfl, by decide⟩) hE ih
    unfold f_M_either_L6
    rw [bT_N]
    refine pq_yn (w_is m.lx.1 10) (fun q => ?_) (fun q => ?_)
    · rw [if_pos (show (1 : Int) ≠ 0 by decide)]
      exact b26 _ m.pk (Or.inl ((m.lx.kw (by omega)).2 q))
    · rw [if_neg (show ¬ (0 : Int) ≠ 0 by decide), bT_N]
      refine pq_yn (w_is m.pk.lx.1 11) (fun q2 => ?_) (fun q2 => ?_)
      · rw [if_neg (show ¬ (1 : Int) = 0 by decide)]
        exact b26 _ m.pk.pk (Or.inr ((m.pk.lx.kw (by omega)).2 q2))
      · rw [if_pos (show (0 : Int) = 0 from rfl)]
        refine cont z f γ i r _ m.pk.pk (nx.dn (by omega) (fun r => ?_))
        rcases rk_3 r with r | r
        · exact q ((m.lx.kw (by omega)).1 r)
        · exact q2 ((m.pk.lx.kw (by omega)).1 r)
theorem pq_either (hE : LvE N E 3 d) : ∀ (R : St → St → Prop) (K : Int → St → Option Res) (f : Nat) (γ δ : St) (i : Int), XeI N 2 d i γ δ → (∀ (z : Bool) (f' : Nat) (γ' : St) (i' r : Int) (δ' : St), XmR N d i' γ δ γ' δ' r → NxT z 2 (γ' 14 (γ' 1 6)) → pq (Go z f' γ' i') (K r δ') (OuR R)) → pq (f_Er_readRightSide_L57 f γ 1 i) (bndT (f_M_either E δ d) K) (OuR R) := fun R K f γ δ i h0 cont => by
  unfold f_M_either
  rw [bT_T]
  exact hE R _ f γ δ i (h0.up (by omega)) (pq_eitherL h0 hE cont FU)
theorem pq_sumL (h0 : XeI N 5 d i0 γ0 δ0) (hE : LvE N E 6 d) (cont : ∀ (z : Bool) (f' : Nat) (γ' : St) (i' r : Int) (δ' : St), XmR N d i' γ0 δ0 γ' δ' r → NxT z 5 (γ' 14 (γ' 1 6)) → pq (Go z f' γ' i') (K r δ') (OuR R)) : ∀ (n : Nat) (z : Bool) (f : Nat) (γ : St) (i r : Int) (δ : St), XmR N d i γ0 δ0 γ δ r → NxT z 6 (γ 14 (γ 1 6)) → pq (Go z f γ i) (bndT (f_M_sum_L6 E n δ d r) K) (OuR R) := by
  intro n
  induction n with
  | zero => intro z f γ i r δ m nx; exact pq_nr
  | succ n ih =>
    intro z f γ i r δ m nx
    have b24 : ∀ δ, XmR N d i γ0 δ0 γ δ r → (tK δ = 43 ∨ tK δ = 45) → pq (Go z f γ i) (bndT (f_M_sum_b24 E (f_M_sum_L6 E n) δ d r) K) (OuR R) := fun δ m hc => by
      have hc2 : γ 14 (γ 1 6) = 15 ∨ γ 14 (γ 1 6) = 16 := by
        rcases hc with q | q
        · exact Or.inl ((m.lx.sg (k := 43) (by decide)).2 q)
        · exact Or.inr ((m.lx.sg (k := 45) (by decide)).2 q)
      have zf := nx.f (by rcases hc2 with q | q <;> rw [q] <;> decide)
      subst zf
      unfold f_M_sum_b24 f_M_sum_b40
      rw [bT_N]
      refine pq_er (pkM_eq m.lx.1) ?_
      rw [bT_I]
      refine pq_ir (fun q => ?_) (fun q => ?_)
      · rw [bT_N]
        simp only [bT_T]
        exact pq_bop (lv := 5) (lx := 6) h0 m.pk ((m.lx.sg (k := 45) (by decide)).2 (by omega)) rfl (by omega) (by decide) (by decide) ⟨rfl, by decide, rfl⟩ rfl (Or.inl ⟨rfl, by decide⟩) hE ih
      · rw [bT_N]
        simp only [bT_T]
        exact pq_bop (lv := 5) (lx := 6) h0 m.pk ((m.lx.sg (k := 43) (by decide)).2 (by omega)) rfl (by omega) (by decide) (by decide) ⟨rfl, by decide, rfl⟩ rfl (Or.inl ⟨rfl, by decide⟩) hE ih
    unfold f_M_sum_L6
    rw [bT_N]
    refine pq_er (pkM_eq m.lx.1) ?_
    rw [bT_I]
    refine pq_ir (fun q => ?_) (fun q => ?_)
    · exact b24 _ m.pk (Or.inl (by rw [pk_tK m.lx.1]; exact q))
    · rw [bT_N]
      refine pq_er (pkM_eq m.pk.lx.1) ?_
      rw [bT_I]
      refine pq_ir (fun q2 => ?_) (fun q2 => ?_)
      · refine cont z f γ i r _ m.pk.pk (nx.dn (by omega) (fun r => ?_))
        rcases rk_6 r with r | r
        · exact q ((m.lx.sg (k := 43) (by decide)).1 r)
        · exact q2 ((m.pk.lx.sg (k := 45) (by decide)).1 r)
      · exact b24 _ m.pk.pk (Or.inr (by rw [pk_tK m.pk.lx.1]; omega))
theorem pq_sum (hE : LvE N E 6 d) : ∀ (R : St → St → Prop) (K : Int → St → Option Res) (f : Nat) (γ δ : St) (i : Int), XeI N 5 d i γ δ → (∀ (z : Bool) (f' : Nat) (γ' : St) (i' r : Int) (δ' : St), XmR N d i' γ δ γ' δ' r → NxT z 5 (γ' 14 (γ' 1 6)) → pq (Go z f' γ' i') (K r δ') (OuR R)) → pq (f_Er_readRightSide_L57 f γ 1 i) (bndT (f_M_sum E δ d) K) (OuR R) := fun R K f γ δ i h0 cont => by
  unfold f_M_sum
  rw [bT_T]
  exact hE R _ f γ δ i (h0.up (by omega)) (pq_sumL h0 hE cont FU)
theorem pq_productL (h0 : XeI N 6 d i0 γ0 δ0) (hE : LvE N E 7 d) (cont : ∀ (z : Bool) (f' : Nat) (γ' : St) (i' r : Int) (δ' : St), XmR N d i' γ0 δ0 γ' δ' r → NxT z 6 (γ' 14 (γ' 1 6)) → pq (Go z f' γ' i') (K r δ') (OuR R)) : ∀ (n : Nat) (z : Bool) (f : Nat) (γ : St) (i r : Int) (δ : St), XmR N d i γ0 δ0 γ δ r → NxT z 7 (γ 14 (γ 1 6)) → pq (Go z f γ i) (bndT (f_M_product_L6 E n δ d r) K) (OuR R) := by
  intro n
  induction n with
  | zero => intro z f γ i r δ m nx; exact pq_nr
  | succ n ih =>
    intro z f γ i r δ m nx
    have b35 : ∀ δ, XmR N d i γ0 δ0 γ δ r → (γ 14 (γ 1 6) = 17 ∨ γ 14 (γ 1 6) = 38 ∨ γ 14 (γ 1 6) = 39) → pq (Go z f γ i) (bndT (f_M_product_b35 E (f_M_product_L6 E n) δ d r) K) (OuR R) := fun δ m hc => by
      have zf := nx.f (by rcases hc with q | q | q <;> rw [q] <;> decide)
      subst zf
      unfold f_M_product_b35 f_M_product_b66
      rw [bT_N]
      refine pq_er (pkM_eq m.lx.1) ?_
      rw [bT_I]
      refine pq_ir (fun q => ?_) (fun q => ?_)
      · rw [bT_N]
        refine pq_yn (w_is m.pk.lx.1 18) (fun q2 => ?_) (fun q2 => ?_)
        · rw [if_neg (show ¬ (1 : Int) = 0 by decide), bT_N]
          simp only [bT_T]
          exact pq_bop (lv := 6) (lx := 7) h0 m.pk.pk ((m.pk.lx.kw (by omega)).2 q2) rfl (by omega) (by decide) (by decide) ⟨rfl, by decide, rfl⟩ rfl (Or.inl ⟨rfl, by decide⟩) hE ih
        · rw [if_pos (show (0 : Int) = 0 from rfl), bT_N]
          have kd : γ 14 (γ 1 6) = 39 := by
            rcases hc with r | r | r
            · exact absurd ((m.lx.sg (k := 42) (by decide)).1 r) q
            · exact (q2 ((m.pk.lx.kw (by omega)).1 r)).elim
            · exact r
          simp only [bT_T]
          exact pq_bop (lv := 6) (lx := 7) h0 m.pk.pk kd rfl (by omega) (by decide) (by decide) ⟨rfl, by decide, rfl⟩ rfl (Or.inl ⟨rfl, by decide⟩) hE ih
      · rw [bT_N]
        simp only [bT_T]
        exact pq_bop (lv := 6) (lx := 7) h0 m.pk ((m.lx.sg (k := 42) (by decide)).2 (by omega)) rfl (by omega) (by decide) (by decide) ⟨rfl, by decide, rfl⟩ rfl (Or.inl ⟨rfl, by decide⟩) hE ih
    unfold f_M_product_L6
    rw [bT_N]
    refine pq_er (pkM_eq m.lx.1) ?_
    rw [bT_I]
    refine pq_ir (fun q => ?_) (fun q => ?_)
    · exact b35 _ m.pk (Or.inl ((m.lx.sg (k := 42) (by decide)).2 q))
    · rw [bT_N]
      refine pq_yn (w_is m.pk.lx.1 18) (fun q2 => ?_) (fun q2 => ?_)
      · rw [if_pos (show (1 : Int) ≠ 0 by decide)]
        exact b35 _ m.pk.pk (Or.inr (Or.inl ((m.pk.lx.kw (by omega)).2 q2)))
      · rw [if_neg (show ¬ (0 : Int) ≠ 0 by decide), bT_N]
        refine pq_yn (w_is m.pk.pk.lx.1 19) (fun q3 => ?_) (fun q3 => ?_)
        · rw [if_neg (show ¬ (1 : Int) = 0 by decide)]
          exact b35 _ m.pk.pk.pk (Or.inr (Or.inr ((m.pk.pk.lx.kw (by omega)).2 q3)))
        · rw [if_pos (show (0 : Int) = 0 from rfl)]
          refine cont z f γ i r _ m.pk.pk.pk (nx.dn (by omega) (fun r => ?_))
          rcases rk_7 r with r | r | r
          · exact q ((m.lx.sg (k := 42) (by decide)).1 r)
          · exact q2 ((m.pk.lx.kw (by omega)).1 r)
          · exact q3 ((m.pk.pk.lx.kw (by omega)).1 r)
theorem pq_product (hE : LvE N E 7 d) : ∀ (R : St → St → Prop) (K : Int → St → Option Res) (f : Nat) (γ δ : St) (i : Int), XeI N 6 d i γ δ → (∀ (z : Bool) (f' : Nat) (γ' : St) (i' r : Int) (δ' : St), XmR N d i' γ δ γ' δ' r → NxT z 6 (γ' 14 (γ' 1 6)) → pq (Go z f' γ' i') (K r δ') (OuR R)) → pq (f_Er_readRightSide_L57 f γ 1 i) (bndT (f_M_product E δ d) K) (OuR R) := fun R K f γ δ i h0 cont => by
  unfold f_M_product
  rw [bT_T]
  exact hE R _ f γ δ i (h0.up (by omega)) (pq_productL h0 hE cont FU)
theorem pq_compared (hE : LvE N E 5 d) : ∀ (R : St → St → Prop) (K : Int → St → Option Res) (f : Nat) (γ δ : St) (i : Int), XeI N 4 d i γ δ → (∀ (z : Bool) (f' : Nat) (γ' : St) (i' r : Int) (δ' : St), XmR N d i' γ δ γ' δ' r → NxT z 4 (γ' 14 (γ' 1 6)) → pq (Go z f' γ' i') (K r δ') (OuR R)) → pq (f_Er_readRightSide_L57 f γ 1 i) (bndT (f_M_compared E δ d) K) (OuR R) := fun R K f γ δ i h0 cont => by
  unfold f_M_compared
  rw [bT_T]
  refine hE R _ f γ δ i (h0.up (by omega)) (fun z f' γ' i' r δ' m nx => ?_)
  have zf : z = false := by
    cases z with
    | true => have := (nx.1 rfl).1; omega
    | false => rfl
  subst zf
  have b81 : ∀ c k : Int, γ' 14 (γ' 1 6) = c → kdM c = k → (9 ≤ c ∧ c ≤ 14) → pq (Go false f' γ' i') (bndT (f_M_compared_b81 E (pkS δ') d r k) K) (OuR R) := fun c k kd hk hc => by
    have rc : rankK c = 5 := by unfold rankK; rw [if_pos hc]
    have ek : k = c + 2 := by rw [← hk]; unfold kdM; rw [if_pos (by omega)]
    unfold f_M_compared_b81
    rw [if_pos (show k ≠ 0 by omega), bT_N]
    simp only [bT_T]
    refine pq_bop (lv := 4) (lv' := 5) (lx := 4) h0 m.pk kd hk (by omega) (by omega) ⟨?_, fun _ => by decide⟩ ⟨by omega, by omega, rfl⟩ (by unfold nestK; rw [if_pos (by omega)]) (Or.inr ⟨rfl, rc, rfl⟩) hE cont
    unfold lstK
    rw [if_pos (by omega), if_pos (by omega), rc]
    decide
  rw [bT_N]
  refine pq_er (pkM_eq m.lx.1) ?_
  rw [bT_I]
  refine pq_ir (fun q1 => ?_) (fun q1 => b81 9 11 ((m.lx.sg (k := 61) (by decide)).2 (by omega)) rfl (by omega))
  rw [bT_I]
  refine pq_ir (fun q2 => ?_) (fun q2 => b81 10 12 ((m.lx.sg (k := 300) (by decide)).2 (by omega)) rfl (by omega))
  rw [bT_I]
  refine pq_ir (fun q3 => ?_) (fun q3 => b81 11 13 ((m.lx.sg (k := 60) (by decide)).2 (by omega)) rfl (by omega))
  rw [bT_I]
  refine pq_ir (fun q4 => ?_) (fun q4 => b81 12 14 ((m.lx.sg (k := 301) (by decide)).2 (by omega)) rfl (by omega))
  rw [bT_I]
  refine pq_ir (fun q5 => ?_) (fun q5 => b81 13 15 ((m.lx.sg (k := 62) (by decide)).2 (by omega)) rfl (by omega))
  rw [bT_I]
  refine pq_ir (fun q6 => ?_) (fun q6 => b81 14 16 ((m.lx.sg (k := 302) (by decide)).2 (by omega)) rfl (by omega))
  unfold f_M_compared_b81
  rw [if_neg (show ¬ (0 : Int) ≠ 0 by decide)]
  refine cont false f' γ' i' r _ m.pk (nx.dn (by omega) (fun r => ?_))
  have b := rk_5 r
  have s1 := (m.lx.sg (k := 61) (by decide)).1
  have s2 := (m.lx.sg (k := 300) (by decide)).1
  have s3 := (m.lx.sg (k := 60) (by decide)).1
  have s4 := (m.lx.sg (k := 301) (by decide)).1
  have s5 := (m.lx.sg (k := 62) (by decide)).1
  have s6 := (m.lx.sg (k := 302) (by decide)).1
  have t1 : sgC 61 = 9 := rfl
  have t2 : sgC 300 = 10 := rfl
  have t3 : sgC 60 = 11 := rfl
  have t4 : sgC 301 = 12 := rfl
  have t5 : sgC 62 = 13 := rfl
  have t6 : sgC 302 = 14 := rfl
  omega
theorem pq_implied (h1 : 0 ≤ d → d < 40 → LvE N E 1 (d + 1)) (hE : LvE N E 2 d) : ∀ (R : St → St → Prop) (K : Int → St → Option Res) (f : Nat) (γ δ : St) (i : Int), XeI N 1 d i γ δ → (∀ (z : Bool) (f' : Nat) (γ' : St) (i' r : Int) (δ' : St), XmR N d i' γ δ γ' δ' r → NxT z 1 (γ' 14 (γ' 1 6)) → pq (Go z f' γ' i') (K r δ') (OuR R)) → pq (f_Er_readRightSide_L57 f γ 1 i) (bndT (f_M_implied E δ d) K) (OuR R) := fun R K f γ δ i h0 cont => by
  unfold f_M_implied
  rw [bT_T]
  refine hE R _ f γ δ i (h0.up (by omega)) (fun z f' γ' i' r δ' m nx => ?_)
  rw [bT_N]
  refine pq_er (pkM_eq m.lx.1) ?_
  rw [bT_I]
  refine pq_ir (fun q => ?_) (fun q => ?_)
  · have kd : γ' 14 (γ' 1 6) = 19 := (m.lx.sg (k := 304) (by decide)).2 q
    have zf := nx.f (by rw [kd]; decide)
    subst zf
    rw [bT_N]
    simp only [bT_T]
    exact pq_bopn (lv := 1) h0 m.pk kd rfl (by omega) (by decide) (by decide) ⟨rfl, by decide⟩ rfl (h1 h0.2.2.2.2.2.2.1) cont
  · exact cont z f' γ' i' r _ m.pk (nx.dn (by omega) (fun r => q ((m.lx.sg (k := 304) (by decide)).1 (rk_2 r))))
end LEV
