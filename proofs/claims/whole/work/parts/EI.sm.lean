/-! equality: the linker against putIn -/
/-- an equation ends -/
theorem lq_def {V : Int} {γe δe γ δ γ' : St} {σe σ : Int → Int → Int} {κe κ : Int → Int} {n c k p : Int} (R : LqR V γe δe σe κe n c γ δ σ κ k p) (hV : V < γ 8 5 ∧ γ 9 11 ≤ V ∧ 0 ≤ V) (hE : γe 9 11 = δe 0 51 + γe 28 n ∧ 0 ≤ δe 0 51 ∧ 0 ≤ δe 0 50) (df : DfX γ γ' (γe 9 8 - 1) k) (st : γ 9 10 = γe 9 10 + γ 46 k) (sv : ∀ t, 0 ≤ t → t < γ 46 k → γ 68 (γe 9 10 + t) = if γ 38 (δe 17 k) = 43 then outV δ (δe 0 50) (δe 17 k) t else σ (δe 0 50) (δe 17 k)) (hl : ∀ t, 0 ≤ t → t < γ 46 k → γe 26 n ≤ γ 47 (γ 45 k + t) ∧ γ 47 (γ 45 k + t) < γe 28 n) (hne : ∀ k', δe 7 n ≤ k' → k' < k → ∀ t' t, 0 ≤ t' → t' < γ 46 k' → 0 ≤ t → t < γ 46 k → γ 47 (γ 45 k' + t') ≠ γ 47 (γ 45 k + t)) (hk : δe 7 n ≤ k) (ft : FT δe δ) (e38 : δ 38 (δe 0 50) = δe 0 51) (hy : ∀ y, δe 0 50 < y → y < δ 0 50 → LqY γ δ y) : LqR V γe δe σe κe n c γ' δ σ κ (k + 1) p ∧ γ' 9 10 = γe 9 10 := by
  obtain ⟨P, ⟨r1, r2, r3, r4, r5, r6⟩, lf, lst, ⟨c11, c53, c12⟩, ⟨gh, kx⟩, pts, vrs, eqs, sub⟩ := R
  obtain ⟨d1, d2, d3, d4, d5⟩ := df
  rw [r3] at d4 d5
  have P' : LqPr V (δe 0 51 + γe 26 n) (δe 0 51 + γe 28 n) γ γ' := by
    refine ⟨fun j i q => d1 j i (by omega) (by omega) (by omega), fun j s q1 q2 q3 q4 => ?_, fun j i q1 q2 => d1 j i (by omega) (by omega) (by omega), by rw [d1 9 11 (by omega) (by omega) (by omega)]; omega, by rw [d1 8 5 (by omega) (by omega) (by omega)]; omega, by rw [d1 8 11 (by omega) (by omega) (by omega)]; omega, d1 9 12 (by omega) (by omega) (by omega)⟩
    by_cases q5 : j = 55
    · subst q5
      exact d4 s (fun t w1 w2 => by have := hl t w1 w2; have := q4 rfl; omega)
    · exact d1 j s q5 (by omega) (by omega)
  have hb := P.2.2.2.1
  refine ⟨⟨P.tr P' (fun s _ q => q), ⟨by rw [d1 9 8 (by omega) (by omega) (by omega)]; exact r1, by rw [d1 63 _ (by omega) (by omega) (by omega)]; exact r2, by rw [d1 64 _ (by omega) (by omega) (by omega)]; exact r3, by rw [d1 65 _ (by omega) (by omega) (by omega)]; exact r4, d3, by rw [d1 67 _ (by omega) (by omega) (by omega)]; exact r6⟩, fun j g q1 q2 q3 => by rw [d1 j g (by omega) (by omega) (by omega)]; exact lf j g q1 q2 q3, fun i q => by rw [d1 68 i (by omega) (by omega) (by omega)]; exact lst i q, ⟨by rw [d1 9 11 (by omega) (by omega) (by omega)]; exact c11, by rw [d1 8 11 (by omega) (by omega) (by omega)]; exact c53, by rw [d1 9 12 (by omega) (by omega) (by omega)]; exact c12⟩, ⟨gh, kx⟩, fun e q1 q2 => (pts e q1 q2).up P' (by omega) rfl rfl rfl (fun _ => rfl) rfl (fun _ _ _ _ => rfl) (fun _ => rfl), fun i q1 q2 => (vrs i q1 q2).up P' (by omega), fun k' q1 q2 t w1 w2 => ?_, fun y q1 q2 => ?_⟩, by rw [d2]; omega⟩
  · rw [d1 46 _ (by omega) (by omega) (by omega)] at w2
    rw [d1 47 _ (by omega) (by omega) (by omega), d1 45 _ (by omega) (by omega) (by omega), d1 38 _ (by omega) (by omega) (by omega), e38]
    by_cases q3 : k' = k
    · subst q3
      rw [d5 t w1 w2, show γ 9 10 - γ 46 k' + t = γe 9 10 + t by omega, sv t w1 w2, ft 17 k' (by omega) (by omega)]
    · rw [d4 _ (fun t' v1 v2 => by have := hne k' q1 (by omega) t t' w1 w2 v1 v2; omega)]
      have := eqs k' q1 (by omega) t w1 w2
      rw [e38] at this
      exact this
  · obtain ⟨u1, u2, u3, u4⟩ := sub y q1 q2
    obtain ⟨y1, y2, y3⟩ := hy y q1 q2
    exact ⟨u1.up P' (by omega) (fun _ _ _ _ => rfl) rfl rfl (fun _ _ _ _ _ => rfl) rfl rfl (by omega) y3, u2.up P' (fun _ _ _ _ => rfl) (fun _ _ _ => rfl) rfl rfl ⟨rfl, rfl⟩ (fun _ _ _ _ => rfl) (by omega), u3, u4⟩
theorem clW_st {c k : Int} (h : kdM c = k) (hk : 0 ≤ k) : clW c = stw k := by
  have cs := kd_c h hk
  clear h
  unfold clW stw
  by_cases q1 : c = 37
  · rw [if_pos q1, if_neg (by omega), if_pos (by omega)]
  · rw [if_neg q1]
    by_cases q2 : c = 35 ∨ c = 18 ∨ c = 36
    · rw [if_pos q2, if_pos (by omega)]
    · rw [if_neg q2, if_neg (by omega), if_neg (by omega)]
theorem pq_b290 {α : Type} {o : Option α} {E : Nat → St → Int → Int → Int → Option Res} {k232 : St → Int → Int → Int → Int → Option Res} {x363 : St → Int → Int → Int → Option Res} {K : Int → St → Option Res} {Q : α → Res → Prop} {δ : St} {n x k e : Int} (h : ∀ δ', (∀ j i, (j ≠ 0 ∨ i ≠ 53) → δ' j i = δ j i) → δ' 0 53 = δ 0 53 + stw (δ 20 e) → pq o (bndT (k232 δ' n x k (e + 1)) K) Q) : pq o (bndT (f_M_putIn_b290 E k232 x363 δ n x k e) K) Q := by
  have b335 : ∀ δ1, (∀ j i, (j ≠ 0 ∨ i ≠ 53) → δ1 j i = δ j i) → δ1 0 53 + (if δ 20 e = 6 then 2 else 0) = δ 0 53 + stw (δ 20 e) → pq o (bndT (f_M_putIn_b335 E k232 x363 δ1 n x k e) K) Q := fun δ1 f1 f2 => by
    unfold f_M_putIn_b335 f_M_putIn_b357
    rw [f1 20 e (by omega)]
    simp only [bT_C, bT_I, bT_A]
    refine pq_cr (fun _ => pq_ir (fun q => pq_cr (fun _ => h δ1 f1 ?_)) (fun q => pq_cr (fun _ => pq_ar (pq_cr (fun _ => h _ (fun j i r => by rw [stA, if_neg (by omega)]; exact f1 j i r) ?_)))))
    · rw [if_neg q] at f2; omega
    · rw [if_pos (by omega)] at f2
      rw [stA, if_pos ⟨rfl, rfl⟩]; omega
  have b325 : (δ 20 e = 24 ∨ δ 20 e = 5 ∨ δ 20 e = 25) → pq o (bndT (f_M_putIn_b325 E k232 x363 δ n x k e) K) Q := fun q => by
    unfold f_M_putIn_b325
    simp only [bT_C, bT_A]
    refine pq_cr (fun _ => pq_ar (b335 _ (fun j i r => by rw [stA, if_neg (by omega)]) ?_))
    rw [stA, if_pos ⟨rfl, rfl⟩, if_neg (by omega), stw_24 q]; omega
  unfold f_M_putIn_b290
  simp only [bT_C, bT_I]
  refine pq_cr (fun _ => pq_ir (fun q => b325 (by omega)) (fun q => pq_cr (fun _ => pq_ir (fun q2 => b325 (by omega)) (fun q2 => pq_cr (fun _ => pq_ir (fun q3 => b335 δ (fun _ _ _ => rfl) ?_) (fun q3 => b325 (by omega)))))))
  have e : stw (δ 20 e) = if δ 20 e = 6 then 2 else 0 := by
    unfold stw
    rw [if_neg (fun r => by rcases r with r | r | r; exact q r; exact q2 r; exact q3 r)]
  rw [e]
