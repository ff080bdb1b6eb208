/-! the reference's instances: putIn, all of it -/
theorem PuM.done {γ0 γ : St} {n out call : Int} (s : SN γ0 (γ0 0 18)) (hn : NdS γ0 n) (n0 : 0 ≤ n ∧ n < γ0 0 18) (hR : PuR γ0 n) (h : PuM γ0 n out call (peN γ0 n) (peN γ0 n - psN γ0 n).toNat γ) : PuK γ0 n out call (γ0 0 50) γ := by
  have sz := hn.sz
  have wt := hn.wt
  have ⟨r0, r1, r2, r3, r4⟩ := hR
  have mw := wt.2 (by omega)
  have ⟨p1, p2, p3, p4, p5, p6, p7, ⟨a1, a2, a3, a4, a5, a6⟩, p9, p10, p11, p12⟩ := h
  have ft := p1.ft
  refine ⟨rfl, p1, p2, by omega, ⟨a1, a2, a3, a4⟩, fun y q1 q2 => ?_, p12⟩
  by_cases q : y = γ0 0 50
  · rw [q]
    refine ⟨?_, by omega, fun q3 => absurd q3 (by omega), fun e q3 q4 q5 => ?_⟩
    · unfold IsX
      rw [a1, a4, a5, a6, ft.nv, ft 0 18 (by omega) (by omega), ft 9 _ (by omega) (by omega), ft 8 _ (by omega) (by omega)]
      exact ⟨n0, by omega, by omega, by omega, p9⟩
    · rw [a1, ft.ps] at q3
      rw [a1, ft.pe] at q4
      rw [ft 20 e (by omega) (by omega)] at q5
      exact p11 e q3 q4 q5
  · have ⟨t1, t2, t3, t4⟩ := p10 y (by omega) q2
    exact ⟨t1, by omega, t3, t4⟩
theorem w_putIn_L210 {γ0 : St} {n out call : Int} {E : Nat → St → Int → Int → Int → Option Res} (s : SN γ0 (γ0 0 18)) (hn : NdS γ0 n) (n0 : 0 ≤ n ∧ n < γ0 0 18) (n1 : γ0 0 18 ≤ 59) (hR : PuR γ0 n) (hE : ∀ g, 0 ≤ g → g < n → PuS E g) : ∀ (f : Nat) (γ : St) (k t : Int), PuM γ0 n out call t (t - psN γ0 n).toNat γ → γ0 7 n ≤ k → k ≤ γ0 7 (n + 1) → (k < γ0 7 (n + 1) → γ0 19 k = t) → (k = γ0 7 (n + 1) → t = peN γ0 n) → γ0 7 (n + 1) - k < f → wp (f_M_putIn_L210 E f γ n (γ0 0 50) k) (PuO γ0 n out call) := by
  have := FU_v
  have sz := hn.sz
  intro f
  induction f with
  | zero => intro γ k t h1 h2 h3 h4 h5 h6; exfalso; omega
  | succ f ih =>
    intro γ k t h1 h2 h3 h4 h5 h6
    have ft := h1.1.ft
    unfold f_M_putIn_L210
    rw [ft 7 _ (by omega) (by omega)]
    refine wp_chk (by omega) (wp_chk (by omega) (wp_ite (fun q => ?_) (fun q => ?_)))
    · have ek : k = γ0 7 (n + 1) := by omega
      rw [h5 ek] at h1
      exact wp_some (PuO.ok (h1.done s hn n0 hR))
    · have eq := hn.eq h2 (by omega)
      have et := h4 (by omega)
      rw [ft 19 _ (by omega) (by omega)]
      refine wp_chk (by omega) (wp_sub ?_)
      refine w_putIn_L232 s hn n0 n1 hR hE h2 (by omega) (fun er γ' g => PuO.er g) (fun γ' h' => ?_) FU γ _ (by rw [et]; exact h1) (Int.le_refl _) (by omega) (by omega)
      unfold f_M_putIn_b363
      exact wp_chk (by omega) (ih γ' (k + 1) (γ0 17 k + 1) h' (by omega) (by omega) (fun q2 => eq.2.2.2.2.2.2.1 q2) (fun q2 => eq.2.2.2.2.2.2.2 q2) (by omega))
/-- while the variables of an instance are put in: i of them are -/
def PuV (γ0 : St) (n out call i : Int) (γ : St) : Prop := FP γ0 γ ∧ (γ 0 50 = γ0 0 50 + 1 ∧ γ 0 51 = γ0 0 51 + i ∧ γ 0 52 = γ0 0 52 + γ0 9 n ∧ γ 0 53 = γ0 0 53 ∧ γ 0 54 = γ0 0 54 + γ0 8 n) ∧ (γ 35 (γ0 0 50) = n ∧ γ 36 (γ0 0 50) = out ∧ γ 37 (γ0 0 50) = call ∧ γ 38 (γ0 0 50) = γ0 0 51 ∧ γ 39 (γ0 0 50) = γ0 0 52 ∧ γ 40 (γ0 0 50) = γ0 0 54) ∧ ∀ t, 0 ≤ t → t < i → γ 42 (γ0 0 51 + t) = γ0 0 50 ∧ γ 43 (γ0 0 51 + t) = t
theorem w_putIn_L147 {γ0 : St} {n out call : Int} {E : Nat → St → Int → Int → Int → Option Res} {x202 : St → Int → Int → Option Res} {Q : Res → Prop} (hn : NdS γ0 n) (n0 : 0 ≤ n ∧ n ≤ 59) (a0 : 0 ≤ γ0 0 51) (hA : γ0 0 51 + nvN γ0 n ≤ 6000) (hx : ∀ γ, PuV γ0 n out call (nvN γ0 n) γ → wp (x202 γ n (γ0 0 50)) Q) : ∀ (f : Nat) (γ : St) (i : Int), PuV γ0 n out call i γ → 0 ≤ i → i ≤ nvN γ0 n → nvN γ0 n - i < f → wp (f_M_putIn_L147 E x202 f γ n (γ0 0 50) (γ0 4 n + i)) Q := by
  have sz := hn.sz
  have nv : nvN γ0 n = γ0 4 (n + 1) - γ0 4 n := rfl
  intro f
  induction f with
  | zero => intro γ i h1 h2 h3 h4; exfalso; omega
  | succ f ih =>
    intro γ i h1 h2 h3 h4
    have ⟨p1, ⟨c0, c1, c2, c3, c4⟩, p3, p4⟩ := h1
    have ft := p1.ft
    unfold f_M_putIn_L147
    rw [ft 4 _ (by omega) (by omega)]
    refine wp_chk (by omega) (wp_chk (by omega) (wp_ite (fun q => ?_) (fun q => ?_)))
    · rw [show i = nvN γ0 n by omega] at h1
      exact hx γ h1
    · rw [c1]
      refine wp_chk (by omega) (wp_sub ?_)
      rw [show setA γ 42 (γ0 0 51 + i) (γ0 0 50) 0 51 = γ0 0 51 + i by rw [stA, if_neg (by omega)]; exact c1]
      refine wp_chk (by omega) (wp_sub ?_)
      rw [show setA (setA γ 42 (γ0 0 51 + i) (γ0 0 50)) 0 51 (γ0 0 51 + i + 1) 4 n = γ0 4 n by rw [stA, if_neg (by omega), stA, if_neg (by omega)]; exact ft 4 n (by omega) (by omega)]
      refine wp_chk (by omega) (wp_chk (by omega) (wp_chk (by omega) (wp_sub ?_)))
      rw [show γ0 4 n + i - γ0 4 n = i by omega, show γ0 4 n + i + 1 = γ0 4 n + (i + 1) by omega]
      generalize hg : setA (setA (setA γ 42 (γ0 0 51 + i) (γ0 0 50)) 0 51 (γ0 0 51 + i + 1)) 43 (γ0 0 51 + i) i = γ1
      have s : ∀ j k, γ1 j k = if j = 43 ∧ k = γ0 0 51 + i then i else if j = 0 ∧ k = 51 then γ0 0 51 + i + 1 else if j = 42 ∧ k = γ0 0 51 + i then γ0 0 50 else γ j k := fun j k => by rw [← hg, stA, stA, stA]
      have s0 : ∀ j k, (j = 42 ∨ j = 43 → k ≠ γ0 0 51 + i) → (j = 0 → k ≠ 51) → γ1 j k = γ j k := fun j k q1 q2 => by rw [s, if_neg (by omega), if_neg (by omega), if_neg (by omega)]
      refine wp_chk (by omega) (ih γ1 (i + 1) ⟨fun j k q1 q2 q3 q4 => by rw [s0 j k (by omega) (by omega)]; exact p1 j k q1 q2 q3 q4, ?_, ?_, fun t q1 q2 => ?_⟩ (by omega) (by omega) (by omega))
      · rw [s0 0 50 (by omega) (by omega), s0 0 52 (by omega) (by omega), s0 0 53 (by omega) (by omega), s0 0 54 (by omega) (by omega), s, if_neg (by omega), if_pos ⟨rfl, rfl⟩]
        exact ⟨c0, by omega, c2, c3, c4⟩
      · rw [s0 35 _ (by omega) (by omega), s0 36 _ (by omega) (by omega), s0 37 _ (by omega) (by omega), s0 38 _ (by omega) (by omega), s0 39 _ (by omega) (by omega), s0 40 _ (by omega) (by omega)]
        exact p3
      · by_cases q3 : t = i
        · rw [q3, s, if_neg (by omega), if_neg (by omega), if_pos ⟨rfl, rfl⟩, s, if_pos ⟨rfl, rfl⟩]
          exact ⟨rfl, rfl⟩
        · rw [s0 42 _ (by omega) (by omega), s0 43 _ (by omega) (by omega)]
          exact p4 t q1 (by omega)
theorem PuV.pm {γ0 γ : St} {n out call : Int} (hn : NdS γ0 n) (hR : PuR γ0 n) (hA : γ0 0 51 + nvN γ0 n ≤ 6000) (h : PuV γ0 n out call (nvN γ0 n) γ) : PuM γ0 n out call (psN γ0 n) (psN γ0 n - psN γ0 n).toNat γ := by
  have sz := hn.sz
  have nv : nvN γ0 n = γ0 4 (n + 1) - γ0 4 n := rfl
  have ⟨p1, ⟨c0, c1, c2, c3, c4⟩, p3, p4⟩ := h
  have ⟨r0, r1, r2, r3, r4⟩ := hR
  have z : sumC γ0 (psN γ0 n) (psN γ0 n - psN γ0 n).toNat = 0 := by rw [show (psN γ0 n - psN γ0 n).toNat = 0 by omega]; rfl
  unfold PuM
  rw [z]
  refine ⟨p1, ⟨by omega, by omega, by omega, by omega, by omega⟩, by omega, by omega, by omega, by omega, by omega, p3, p4, fun y q1 q2 => by omega, fun i q1 q2 => by omega, fun v q1 q2 => ?_⟩
  have e := p4 (v - γ0 0 51) (by omega) (by omega)
  rw [show γ0 0 51 + (v - γ0 0 51) = v by omega] at e
  unfold IsV
  rw [e.1, e.2, p3.2.2.2.1, p3.1, p1.ft.nv]
  omega
theorem w_putInM {γ : St} {n out call : Int} {E : Nat → St → Int → Int → Int → Option Res} (s : SN γ (γ 0 18)) (n0 : 0 ≤ n ∧ n < γ 0 18) (n1 : γ 0 18 ≤ 59) (hR : PuR γ n) (hE : ∀ g, 0 ≤ g → g < n → PuS E g) : wp (f_M_putIn E γ n out call) (PuO γ n out call) := by
  have := FU_v
  have hn := s n n0.1 n0.2
  have sz := hn.sz
  have wt := hn.wt
  have nv : nvN γ n = γ 4 (n + 1) - γ 4 n := rfl
  have ⟨r0, r1, r2, r3, r4⟩ := hR
  unfold f_M_putIn
  refine wp_chk (by omega) (wp_ap fun g1 e1 => wp_sub (wp_chk (by omega) (wp_ap fun g2 e2 => wp_chk (by omega) (wp_ap fun g3 e3 => wp_chk (by omega) (wp_ap fun g4 e4 => ?_)))))
  have a4 : ∀ k, k ≠ 50 → g4 0 k = γ 0 k := fun k q => by rw [e4, stA, if_neg (by omega), e3, stA, if_neg (by omega), e2, stA, if_neg (by omega), e1, stA, if_neg (by omega)]
  rw [a4 51 (by omega)]
  refine wp_chk (by omega) (wp_ap fun g5 e5 => ?_)
  have a5 : ∀ k, k ≠ 50 → g5 0 k = γ 0 k := fun k q => by rw [e5, stA, if_neg (by omega)]; exact a4 k q
  rw [a5 52 (by omega)]
  refine wp_chk (by omega) (wp_ap fun g6 e6 => ?_)
  have a6 : ∀ k, k ≠ 50 → g6 0 k = γ 0 k := fun k q => by rw [e6, stA, if_neg (by omega)]; exact a5 k q
  rw [a6 54 (by omega)]
  refine wp_chk (by omega) (wp_ap fun g7 e7 => ?_)
  have s7 : ∀ j k, g7 j k = if j = 40 ∧ k = γ 0 50 then γ 0 54 else if j = 39 ∧ k = γ 0 50 then γ 0 52 else if j = 38 ∧ k = γ 0 50 then γ 0 51 else if j = 37 ∧ k = γ 0 50 then call else if j = 36 ∧ k = γ 0 50 then out else if j = 35 ∧ k = γ 0 50 then n else if j = 0 ∧ k = 50 then γ 0 50 + 1 else γ j k := fun j k => by rw [e7, stA, e6, stA, e5, stA, e4, stA, e3, stA, e2, stA, e1, stA]
  have t7 : ∀ j k, (j < 35 ∨ 40 < j) → (j = 0 → k ≠ 50) → g7 j k = γ j k := fun j k q1 q2 => by rw [s7]; (repeat rw [if_neg (by omega)])
  rw [t7 0 52 (by omega) (by omega), t7 9 n (by omega) (by omega)]
  refine wp_chk (by omega) (wp_chk (by omega) (wp_ap fun g8 e8 => ?_))
  have t8 : ∀ j k, (j = 0 → k ≠ 52) → g8 j k = g7 j k := fun j k q => by rw [e8, stA, if_neg (by omega)]
  rw [t8 0 54 (by omega), t7 0 54 (by omega) (by omega), t8 8 n (by omega), t7 8 n (by omega) (by omega)]
  refine wp_chk (by omega) (wp_chk (by omega) (wp_ap fun g9 e9 => ?_))
  have t9 : ∀ j k, (j = 0 → k ≠ 52 ∧ k ≠ 54) → g9 j k = g7 j k := fun j k q => by rw [e9, stA, if_neg (by omega)]; exact t8 j k (by omega)
  have u9 : ∀ j k, (j < 35 ∨ 40 < j) → (j = 0 → k ≠ 50 ∧ k ≠ 52 ∧ k ≠ 54) → g9 j k = γ j k := fun j k q1 q2 => by rw [t9 j k (by omega)]; exact t7 j k q1 (by omega)
  rw [u9 0 51 (by omega) (by omega), u9 4 _ (by omega) (by omega), u9 4 _ (by omega) (by omega)]
  have fp : FP γ g9 := fun j k q1 q2 q3 q4 => by
    rw [t9 j k (by omega), s7]
    (repeat rw [if_neg (by omega)])
  refine wp_chk (by omega) (wp_chk (by omega) (wp_chk (by omega) (wp_chk (by omega) (wp_chk (by omega) (wp_ite (fun q => ?_) (fun q => wp_some (PuO.er fp.ft)))))))
  refine wp_chk (by omega) (wp_sub ?_)
  have pv : PuV γ n out call 0 g9 := by
    refine ⟨fp, ⟨?_, ?_, ?_, ?_, ?_⟩, ⟨?_, ?_, ?_, ?_, ?_, ?_⟩, fun t q1 q2 => by omega⟩
    · rw [t9 0 50 (by omega), s7]; (repeat rw [if_neg (by omega)]); rw [if_pos ⟨rfl, rfl⟩]
    · rw [u9 0 51 (by omega) (by omega)]; omega
    · rw [e9, stA, if_neg (by omega), e8, stA, if_pos ⟨rfl, rfl⟩]
    · exact u9 0 53 (by omega) (by omega)
    · rw [e9, stA, if_pos ⟨rfl, rfl⟩]
    · rw [t9 35 _ (by omega), s7, if_neg (by omega), if_neg (by omega), if_neg (by omega), if_neg (by omega), if_neg (by omega), if_pos ⟨rfl, rfl⟩]
    · rw [t9 36 _ (by omega), s7, if_neg (by omega), if_neg (by omega), if_neg (by omega), if_neg (by omega), if_pos ⟨rfl, rfl⟩]
    · rw [t9 37 _ (by omega), s7, if_neg (by omega), if_neg (by omega), if_neg (by omega), if_pos ⟨rfl, rfl⟩]
    · rw [t9 38 _ (by omega), s7, if_neg (by omega), if_neg (by omega), if_pos ⟨rfl, rfl⟩]
    · rw [t9 39 _ (by omega), s7, if_neg (by omega), if_pos ⟨rfl, rfl⟩]
    · rw [t9 40 _ (by omega), s7, if_pos ⟨rfl, rfl⟩]
  have w := w_putIn_L147 (E := E) (x202 := f_M_putIn_b202 E) (Q := PuO γ n out call) hn (by omega) r1.1 (by omega) (fun γ' h' => ?_) FU g9 0 pv (by omega) (by omega) (by omega)
  · rw [show γ 4 n + 0 = γ 4 n by omega] at w
    exact w
  · unfold f_M_putIn_b202
    rw [h'.1.ft 7 n (by omega) (by omega)]
    exact wp_chk (by omega) (wp_sub (w_putIn_L210 s hn n0 n1 hR hE FU γ' _ (psN γ n) (h'.pm hn hR (by omega)) (Int.le_refl _) (by omega) (fun _ => rfl) (fun q => by omega) (by omega)))
/-- putIn, with fuel for the nodes below n -/
theorem MP_w : ∀ (m : Nat) (n : Int), 0 ≤ n → n < m → ∀ γ out call, SN γ (γ 0 18) → n < γ 0 18 → γ 0 18 ≤ 59 → PuR γ n → wp (MP m 0 γ n out call) (PuO γ n out call)
  | 0, n, h0, h1, γ, out, call, _, _, _, _ => by exfalso; omega
  | m + 1, n, h0, h1, γ, out, call, s, h2, h3, r => w_putInM s ⟨h0, h2⟩ h3 r (fun g q1 q2 γ' o c s' q3 q4 r' => MP_w m g q1 (by omega) γ' o c s' q3 q4 r')
