/-! the class's linker: calls, definitions, the loop -/
theorem w_call_L115 {γ0 : St} {c : Int} (hc : 0 ≤ c ∧ c < 59) {x2 x3 V : Int} (h2 : 0 ≤ x2 ∧ 0 ≤ x3 ∧ x3 + x2 + γ0 27 c ≤ V ∧ V ≤ 6000) : ∀ (n : Nat) (γ : St) (i : Int), γ 27 c = γ0 27 c → 0 ≤ i → i ≤ γ0 27 c → γ0 27 c ≤ 99 → (0 ≤ γ 9 10 ∧ γ 9 10 + (γ0 27 c - i) ≤ 9000) → γ0 27 c - i < n → wp (f_Lk_takeCall_L115 n γ c x2 x3 i) (fun z => z.2 9 10 = γ 9 10 + (γ0 27 c - i) ∧ (∀ j k, (j ≠ 9 ∨ k ≠ 10) → (j ≠ 68 ∨ k < γ 9 10) → z.2 j k = γ j k) ∧ ∀ k, γ 9 10 ≤ k → k < z.2 9 10 → 0 ≤ z.2 68 k ∧ z.2 68 k < V) := by
  intro n
  induction n with
  | zero => intro γ i h1 h3 h4 h5 h6 h7; exfalso; omega
  | succ n ih =>
    intro γ i h1 h3 h4 h5 h6 h7
    unfold f_Lk_takeCall_L115
    rw [h1]
    refine wp_chk (by omega) (wp_ite (fun c1 => wp_some ⟨by show γ 9 10 = _; omega, fun _ _ _ _ => rfl, fun k q1 q2 => by have q2 : k < γ 9 10 := q2; omega⟩) (fun c1 => ?_))
    refine wp_chk (by omega) (wp_chk (by omega) (wp_bs (lpush_eq (by omega)) (wp_chk (by omega) ?_)))
    generalize hh : setA (setA γ 68 (γ 9 10) (x3 + x2 + i)) 9 10 (γ 9 10 + 1) = γ2
    have u : ∀ j k, γ2 j k = if j = 9 ∧ k = 10 then γ 9 10 + 1 else if j = 68 ∧ k = γ 9 10 then x3 + x2 + i else γ j k := fun j k => by rw [← hh, stA, stA]
    have u10 : γ2 9 10 = γ 9 10 + 1 := by rw [u]; simp
    have u68 : γ2 68 (γ 9 10) = x3 + x2 + i := by rw [u]; simp
    refine wp_mono (ih γ2 (i + 1) (by rw [u]; simp; exact h1) (by omega) (by omega) h5 (by omega) (by omega)) (fun z hz => ⟨by have := hz.1; omega, fun j k q1 q2 => ?_, fun k q1 q2 => ?_⟩)
    · rw [hz.2.1 j k q1 (by omega), u, if_neg (by omega), if_neg (by omega)]
    · by_cases q : k = γ 9 10
      · rw [hz.2.1 68 k (by omega) (by omega), q, u68]; omega
      · exact hz.2.2 k (by omega) q2
theorem w_call_L74 {c x2 x3 : Int} {Q : Int × St → Prop} (h2 : 0 ≤ x2 ∧ x2 ≤ 99 ∧ 0 ≤ x3 ∧ x3 + x2 ≤ 6000) : ∀ (n : Nat) (γ : St) (i : Int), 0 ≤ i → i ≤ x2 → (0 ≤ γ 9 10 ∧ γ 9 10 + x2 ≤ 9000) → x2 - i < n → (∀ γ', (∀ j k, (j ≠ 55 ∨ k < x3 + i ∨ x3 + x2 ≤ k) → γ' j k = γ j k) → (∀ k, x3 + i ≤ k → k < x3 + x2 → γ' 55 k = γ 68 (γ 9 10 + (k - x3))) → wp (f_Lk_takeCall_b112 γ' c x2 x3) Q) → wp (f_Lk_takeCall_L74 f_Lk_takeCall_b112 n γ c x2 x3 i) Q := by
  intro n
  induction n with
  | zero => intro γ i h3 h4 h5 h6 hQ; exfalso; omega
  | succ n ih =>
    intro γ i h3 h4 h5 h6 hQ
    unfold f_Lk_takeCall_L74
    refine wp_ite (fun c1 => hQ γ (fun _ _ _ => rfl) (fun k q1 q2 => by omega)) (fun c1 => ?_)
    refine wp_chk (by omega) (wp_chk (by omega) (wp_chk (by omega) (wp_chk (by omega) (wp_sub (wp_chk (by omega) ?_)))))
    have u : ∀ j k, (j ≠ 55 ∨ k ≠ x3 + i) → setA γ 55 (x3 + i) (γ 68 (γ 9 10 + i)) j k = γ j k := fun j k q => by rw [stA, if_neg (by omega)]
    have u55 : setA γ 55 (x3 + i) (γ 68 (γ 9 10 + i)) 55 (x3 + i) = γ 68 (γ 9 10 + i) := by rw [stA, if_pos ⟨rfl, rfl⟩]
    generalize setA γ 55 (x3 + i) (γ 68 (γ 9 10 + i)) = γ2 at *
    have u10 := u 9 10 (by omega)
    refine ih γ2 (i + 1) (by omega) (by omega) (by omega) (by omega) (fun γ' g1 g2 => hQ γ' (fun j k q => ?_) (fun k q1 q2 => ?_))
    · rw [g1 j k (by omega), u j k (by omega)]
    · by_cases q : k = x3 + i
      · rw [g1 55 k (by omega), q, u55, show γ 9 10 + (x3 + i - x3) = γ 9 10 + i by omega]
      · rw [g2 k (by omega) q2, u10, u 68 _ (by omega)]
set_option maxHeartbeats 2000000 in
theorem w_takeCall {γ0 γ γ1 : St} {m f : Int} (hx : LkX γ0 m) (h : LkI γ0 m γ) (hf : f = γ 9 8 - 1) (h0 : 0 ≤ f) (hq : γ 66 f < enF γ0 γ f) (hp : γ 67 f < γ0 44 (γ 66 f)) (hk : γ0 38 (γ 67 f) = 43) (h1 : PrS γ γ1 f) : wp (f_Lk_takeCall γ1 f (γ 67 f)) (fun z => LkQ γ0 m γ z.2) := by
  have tp := h.tp hx hf h0 hq
  have tp1 := tp.1 hp
  have ⟨b1, b2, b3, b4, b5, b6, b7⟩ := h.2.2.1
  have hV := hx.2.2.1
  have hm := hx.1
  have nn := h.nn hx
  have ⟨w1, w2, hn, w3, w4⟩ := h.top hx hf h0 hq
  have ⟨g1, g2, g3, g4, g5, g6, g7⟩ := h.2.1 f h0 (by omega)
  have g5 := g5 hq
  have pt := w1.2.2.2.2.2 (γ 67 f) g5.1 hp
  have pc := pt.2.1 hk
  have w11 := w1.1
  have cd := w2.1 (γ 67 f) g5.1 hp
  have cdk := cd.1 hk
  have pnn := hx.pn hn.1 hn.2
  have pnc := hx.pn (n := γ0 39 (γ 67 f)) pc.1 (by omega)
  have c44 := hx.2.2.2.1
  have c410 := hx.2.2.2.2.1
  have e : ∀ j k, (j ≠ 67 ∨ k ≠ f) → γ1 j k = γ j k := fun j k q => by rw [h1, if_neg (by omega)]
  have hF1 : FrLk γ0 γ1 := fun j k q => by rw [e j k (by omega)]; exact h.1 j k q
  have st := h.2.2.2.1
  have sl := h.2.2.2.2.1
  have ce := h.2.2.2.2.2
  -- the called node's variables fit
  have fit : γ 9 11 + γ0 28 (γ0 39 (γ 67 f)) ≤ γ0 32 m := by
    have sw := sm_ge (f := wF γ0 γ) (a := 0) (b := γ 9 8) (i := f) h0 (by omega) (fun k q1 q2 => (nn k q1 q2).2.2)
    have hnn := hx.nn hn.1 hn.2
    have lo := hx.lo hn.1 hn.2 g4.1 (by unfold enF at hq; exact hq)
    have wv : cvF γ0 (γ 67 f) ≤ wF γ0 γ f := by
      unfold wF
      exact sm_ge (Int.le_refl _) (by omega) (fun i q1 q2 => (hnn i (by omega) (by unfold enF at q2; exact q2)).2)
    have k2 : cvF γ0 (γ 67 f) = γ0 32 (γ0 39 (γ 67 f)) := by unfold cvF; rw [if_pos hk]
    have wc := (hx.2.1 (γ0 39 (γ 67 f)) pc.1 (by omega)).1
    have szc := wc.2.2.2.2.2.2
    have x2 := szc.2.2 (by omega)
    have nc := hx.nn (n := γ0 39 (γ 67 f)) pc.1 (by omega)
    have := sm_nn (f := cvF γ0) (fun i q1 q2 => (nc i q1 q2).2)
    omega
  unfold f_Lk_takeCall
  rw [hF1 39 _ (by omega), hF1 41 _ (by omega)]
  refine wp_chk (by omega) (wp_sub (wp_chk (by omega) (wp_sub (wp_sub (wp_chk (by omega) ?_)))))
  rw [hF1 26 _ (by omega), e 9 11 (by omega)]
  refine wp_bnd (w_putIn hx (by rw [e 64 f (by omega)]; omega) (by rw [e 65 f (by omega)]; omega) (by omega) (by omega)) (fun oc γ2 y => ?_)
  obtain ⟨y0, y1, y2⟩ := y
  have y0 : γ2 = γ1 := y0
  have y1 : 0 ≤ oc := y1
  have y2 : oc = γ1 65 f ∨ 0 ≤ γ0 41 (γ 67 f) ∧ oc = 1 + 2 * γ1 64 f + γ0 41 (γ 67 f) := y2
  rw [e 65 f (by omega), e 64 f (by omega)] at y2
  subst y0
  have e66 := e 66 f (by omega)
  have e98 := e 9 8 (by omega)
  have e11 := e 9 11 (by omega)
  have e10 := e 9 10 (by omega)
  rw [e66]
  refine wp_chk (by omega) (wp_chk (by have eP : enF γ0 γ f = γ0 29 (γ 63 f) + γ0 30 (γ 63 f) := rfl; omega) ?_)
  refine wp_bnd (w_openNode hx hF1 (c := γ0 39 (γ 67 f)) (oc := oc) (by omega) (by omega) (by omega) (by omega)) (fun r γ3 y => ?_)
  obtain ⟨o1, o2, o3, o4, o5, o6⟩ := y
  have o1 : FrLk γ0 γ3 := o1
  have o2 : γ3 9 8 = γ 9 8 + 1 := by rw [← e98]; exact o2
  have o3 : γ3 9 11 = γ 9 11 + γ0 28 (γ0 39 (γ 67 f)) := by rw [← e11]; exact o3
  have o4 : γ3 63 (γ 9 8) = γ0 39 (γ 67 f) ∧ γ3 64 (γ 9 8) = γ 9 11 ∧ γ3 65 (γ 9 8) = oc ∧ γ3 66 (γ 9 8) = γ0 29 (γ0 39 (γ 67 f)) ∧ γ3 67 (γ 9 8) = γ0 43 (γ0 29 (γ0 39 (γ 67 f))) := by rw [← e98, ← e11]; exact o4
  have o5 : ∀ j k, (j ≠ 9 ∨ k ≠ 8 ∧ k ≠ 11) → (j < 54 ∨ 60 < j ∨ k < γ 9 11 ∨ γ 9 11 + γ0 28 (γ0 39 (γ 67 f)) ≤ k) → (j < 63 ∨ 67 < j ∨ k ≠ γ 9 8) → γ3 j k = γ2 j k := by rw [← e98, ← e11]; exact o5
  have o6 : ∀ k, γ 9 11 ≤ k → k < γ 9 11 + γ0 28 (γ0 39 (γ 67 f)) → OkS (γ0 32 m) γ3 k := by rw [← e11]; exact o6
  have p10 : γ3 9 10 = γ 9 10 := by rw [o5 9 10 (by omega) (by omega) (by omega)]; exact e10
  rw [p10]
  refine wp_chk (by omega) (wp_sub ?_)
  refine w_call_L74 (by omega) FU _ 0 (by omega) (by omega) (by rw [stA, if_pos ⟨rfl, rfl⟩]; omega) (by have := FU_v; omega) (fun γ4 i1 i2 => ?_)
  have v3 : ∀ j k, (j ≠ 9 ∨ k ≠ 10) → setA γ3 9 10 (γ 9 10 - γ0 26 (γ0 39 (γ 67 f))) j k = γ3 j k := fun j k q => by rw [stA, if_neg (by omega)]
  have v310 : setA γ3 9 10 (γ 9 10 - γ0 26 (γ0 39 (γ 67 f))) 9 10 = γ 9 10 - γ0 26 (γ0 39 (γ 67 f)) := by rw [stA, if_pos ⟨rfl, rfl⟩]
  rw [v310] at i2
  have j10 : γ4 9 10 = γ 9 10 - γ0 26 (γ0 39 (γ 67 f)) := by rw [i1 9 10 (by omega)]; exact v310
  unfold f_Lk_takeCall_b112
  refine wp_mono (w_call_L115 (γ0 := γ0) (c := γ0 39 (γ 67 f)) (V := γ0 32 m) (by omega) (by omega) FU γ4 0 (by rw [i1 27 _ (by omega), v3 27 _ (by omega)]; exact o1 27 _ (by omega)) (by omega) (by omega) (by omega) (by omega) (by have := FU_v; omega)) (fun z hz => ?_)
  obtain ⟨k1, k2, k3⟩ := hz
  generalize z.2 = γ5 at *
  -- the whole change
  have ch : ∀ j k, (j ≠ 9 ∨ k ≠ 8 ∧ k ≠ 10 ∧ k ≠ 11) → (j < 54 ∨ 60 < j ∨ k < γ 9 11 ∨ γ 9 11 + γ0 28 (γ0 39 (γ 67 f)) ≤ k) → (j < 63 ∨ 67 < j ∨ k ≠ γ 9 8) → (j ≠ 67 ∨ k ≠ f) → (j ≠ 68 ∨ k < γ 9 10 - γ0 26 (γ0 39 (γ 67 f))) → γ5 j k = γ j k := fun j k q1 q2 q3 q4 q5 => by
    rw [k2 j k (by omega) (by omega), i1 j k (by omega), v3 j k (by omega), o5 j k (by omega) q2 q3, e j k q4]
  have mid : ∀ j k, (j ≠ 9 ∨ k ≠ 10) → j ≠ 68 → j ≠ 55 → γ5 j k = γ3 j k := fun j k q1 q2 q3 => by
    rw [k2 j k (by omega) (by omega), i1 j k (by omega), v3 j k (by omega)]
  have z85 : γ5 8 5 = γ 8 5 := ch 8 5 (by omega) (by omega) (by omega) (by omega) (by omega)
  have z811 : γ5 8 11 = γ 8 11 := ch 8 11 (by omega) (by omega) (by omega) (by omega) (by omega)
  have z98 : γ5 9 8 = γ 9 8 + 1 := by rw [mid 9 8 (by omega) (by omega) (by omega)]; exact o2
  have z911 : γ5 9 11 = γ 9 11 + γ0 28 (γ0 39 (γ 67 f)) := by rw [mid 9 11 (by omega) (by omega) (by omega)]; exact o3
  have z910 : γ5 9 10 = γ 9 10 - γ0 26 (γ0 39 (γ 67 f)) + γ0 27 (γ0 39 (γ 67 f)) := by omega
  have g := h.call (γ' := γ5) (oc := oc) hx hf h0 hq hp hk (fun j k q => by
      rw [mid j k (by omega) (by omega) (by omega)]; exact o1 j k q) (fun j k q1 q2 q3 q4 => ch j k (by omega) (by omega) (by omega) (by omega) (by omega)) (by
      rw [mid 67 f (by omega) (by omega) (by omega), o5 67 f (by omega) (by omega) (by omega), h1, if_pos ⟨rfl, rfl⟩]) ⟨by rw [mid 63 _ (by omega) (by omega) (by omega)]; exact o4.1, by rw [mid 64 _ (by omega) (by omega) (by omega)]; exact o4.2.1, by rw [mid 65 _ (by omega) (by omega) (by omega)]; exact o4.2.2.1, by rw [mid 66 _ (by omega) (by omega) (by omega)]; exact o4.2.2.2.1, by rw [mid 67 _ (by omega) (by omega) (by omega)]; exact o4.2.2.2.2⟩ (by omega) z98 z911 (ch 9 12 (by omega) (by omega) (by omega) (by omega) (by omega)) (ch 8 8 (by omega) (by omega) (by omega) (by omega) (by omega)) z910 z85 z811 ?_
  · exact ⟨g.1, by rw [g.2, z98]; omega⟩
  · refine h.2.2.2.up (by omega) (by omega) (fun i q1 q2 => ?_) (fun s q => ?_) (fun i q1 q2 => Or.inl ⟨by omega, ch 61 i (by omega) (by omega) (by omega) (by omega) (by omega), ch 62 i (by omega) (by omega) (by omega) (by omega) (by omega)⟩)
    · by_cases y : i < γ 9 10 - γ0 26 (γ0 39 (γ 67 f))
      · exact Or.inl ⟨by omega, ch 68 i (by omega) (by omega) (by omega) (by omega) (by omega)⟩
      · have := k3 i (by omega) q2
        exact Or.inr (by omega)
    · by_cases y : γ 9 11 ≤ s ∧ s < γ 9 11 + γ0 28 (γ0 39 (γ 67 f))
      · have o := o6 s y.1 y.2
        unfold OkS at o
        have m54 := mid 54 s (by omega) (by omega) (by omega)
        have m56 := mid 56 s (by omega) (by omega) (by omega)
        have m57 := mid 57 s (by omega) (by omega) (by omega)
        have m59 := mid 59 s (by omega) (by omega) (by omega)
        have m55 : -1 ≤ γ5 55 s ∧ γ5 55 s < γ 8 5 := by
          rw [k2 55 s (by omega) (by omega)]
          by_cases z : s < γ 9 11 + γ0 26 (γ0 39 (γ 67 f))
          · rw [i2 s (by omega) (by omega), v3 68 _ (by omega), o5 68 _ (by omega) (by omega) (by omega), e 68 _ (by omega)]
            have := st (γ 9 10 - γ0 26 (γ0 39 (γ 67 f)) + (s - γ 9 11)) (by omega) (by omega)
            omega
          · rw [i1 55 s (by omega), v3 55 s (by omega)]; omega
        exact Or.inr ⟨by omega, by omega, by omega, fun _ => by omega, fun q => by omega, fun q => by omega, fun q => by omega, fun q => by omega⟩
      · exact Or.inl ⟨by omega, fun j y1 y2 => ch j s (by omega) (by omega) (by omega) (by omega) (by omega)⟩
