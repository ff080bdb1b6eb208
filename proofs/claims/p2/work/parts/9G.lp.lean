/-! the class's linker: the loop -/
theorem w_take_lk {γ0 γ γ1 : St} {m f : Int} (hx : LkX γ0 m) (h : LkI γ0 m γ) (hf : f = γ 9 8 - 1) (h0 : 0 ≤ f) (hq : γ 66 f < enF γ0 γ f) (hp : γ 67 f < γ0 44 (γ 66 f)) (h1 : PrS γ γ1 f) : wp (f_Lk_take γ1 f (γ 67 f)) (fun z => LkQ γ0 m γ z.2) := by
  have tp := h.tp hx hf h0 hq
  have tp1 := tp.1 hp
  have ⟨b1, b2, b3, b4, b5, b6, b7⟩ := h.2.2.1
  have hV := hx.2.2.1
  have hm := hx.1
  have ⟨w1, w2, hn, w3, w4⟩ := h.top hx hf h0 hq
  have ⟨g1, g2, g3, g4, g5, g6, g7⟩ := h.2.1 f h0 (by omega)
  have g5 := g5 hq
  have pt := w1.2.2.2.2.2 (γ 67 f) g5.1 hp
  have w11 := w1.1
  have c44 := hx.2.2.2.1
  have pnn := hx.pn hn.1 hn.2
  have e : ∀ j k, (j ≠ 67 ∨ k ≠ f) → γ1 j k = γ j k := fun j k q => by rw [h1, if_neg (by omega)]
  have e67 : γ1 67 f = γ 67 f + 1 := by rw [h1, if_pos ⟨rfl, rfl⟩]
  have hF1 : ∀ j k, (j < 8 ∨ 10 ≤ j ∧ j < 54 ∨ 68 < j) → γ1 j k = γ0 j k := fun j k q => by rw [e j k (by omega)]; exact h.1 j k q
  have e10 := e 9 10 (by omega)
  have e85 := e 8 5 (by omega)
  unfold f_Lk_take
  rw [hF1 38 _ (by omega), hF1 39 _ (by omega)]
  refine wp_chk (by omega) (wp_sub ?_)
  -- a number
  have num : γ0 40 (γ 67 f) = 0 → γ0 38 (γ 67 f) ≠ 43 → wp (bndN (f_Sl_add γ1 3 (γ0 39 (γ 67 f))) fun r18 γ19 => bndN (f_Lk_push γ19 r18) fun _ γ21 => some ((0 : Int), γ21)) (fun z => LkQ γ0 m γ z.2) := by
    intro s0 k43
    refine wp_bs (sadd_eq (by omega)) ?_
    rw [e85]
    generalize hh : setA (setS γ1 (γ 8 5) 3 (γ0 39 (γ 67 f))) 8 5 (γ 8 5 + 1) = γ3
    have u0 : ∀ j k, γ3 j k = if j = 8 ∧ k = 5 then γ 8 5 + 1 else if j = 57 ∧ k = γ 8 5 then -1 else if j = 56 ∧ k = γ 8 5 then -1 else if j = 55 ∧ k = γ 8 5 then -1 else if j = 58 ∧ k = γ 8 5 then γ0 39 (γ 67 f) else if j = 54 ∧ k = γ 8 5 then 3 else γ1 j k := fun j k => by rw [← hh, stA, setS_v]
    have u10 : γ3 9 10 = γ 9 10 := by rw [u0]; simp; exact e10
    refine wp_bs (lpush_eq (by omega)) (wp_some ?_)
    rw [u10]
    generalize hh2 : setA (setA γ3 68 (γ 9 10) (γ 8 5)) 9 10 (γ 9 10 + 1) = γf
    have ff : ∀ j k, γf j k = if j = 9 ∧ k = 10 then γ 9 10 + 1 else if j = 68 ∧ k = γ 9 10 then γ 8 5 else γ3 j k := fun j k => by rw [← hh2, stA, stA]
    have fo : ∀ j k, (j ≠ 9 ∨ k ≠ 10) → (j ≠ 68 ∨ k ≠ γ 9 10) → γf j k = γ3 j k := fun j k q1 q2 => by rw [ff, if_neg (by omega), if_neg (by omega)]
    have c85 : γf 8 5 = γ 8 5 + 1 := by rw [fo 8 5 (by omega) (by omega), u0]; simp
    have c811 : γf 8 11 = γ 8 11 := by rw [fo 8 11 (by omega) (by omega), u0]; simp; exact e 8 11 (by omega)
    refine one_fin (s := γ 8 5) (T := γ 9 10) (C := γ 8 11) hx h hf h0 hq hp k43 rfl (by omega) rfl (fun j k q1 q2 q3 q4 q5 q6 => ?_) ?_ ?_ (Or.inr ⟨c85, ?_⟩) (by show γ 8 11 ≤ γf 8 11 ∧ γf 8 11 ≤ γ 8 11 + 2; omega) ?_ (fun i q1 q2 => ?_)
    · show γf j k = γ j k
      rw [fo j k q1 q5, u0, if_neg (by omega), if_neg (by omega), if_neg (by omega), if_neg (by omega), if_neg (by omega), if_neg (by omega)]; exact e j k q6
    · show γf 67 f = _
      rw [fo 67 f (by omega) (by omega), u0]; simp; exact e67
    · show γf 9 10 = _; rw [ff]; simp
    · show SlI _ γf (γ 8 5)
      have c54 : γf 54 (γ 8 5) = 3 := by rw [fo 54 _ (by omega) (by omega), u0]; simp
      have c55 : γf 55 (γ 8 5) = -1 := by rw [fo 55 _ (by omega) (by omega), u0]; simp
      have c56 : γf 56 (γ 8 5) = -1 := by rw [fo 56 _ (by omega) (by omega), u0]; simp
      have c57 : γf 57 (γ 8 5) = -1 := by rw [fo 57 _ (by omega) (by omega), u0]; simp
      exact ⟨by omega, by omega, by omega, fun q => by omega, fun q => c54, fun q => by omega, fun q => by omega, fun q => by omega⟩
    · show 0 ≤ γf 68 (γ 9 10) ∧ γf 68 (γ 9 10) < γf 8 5
      have : γf 68 (γ 9 10) = γ 8 5 := by rw [ff]; simp
      omega
    · have q2 : i < γf 8 11 := q2
      omega
  refine wp_ite (fun c => ?_) (fun c2 => wp_ite (fun c => ?_) (fun c3 => wp_ite (fun c => ?_) (fun c27 => wp_ite (fun c => ?_) (fun c40 => wp_ite (fun c => ?_) (fun c41 => wp_ite (fun c => ?_) (fun c43 => ?_))))))
  · have pv := pt.2.2.1 c
    have s0 : γ0 40 (γ 67 f) = 0 := by have := pt.1; unfold sdK at this; omega
    rw [e 64 f (by omega)]
    refine wp_chk (by omega) (wp_chk (by omega) (wp_chk (by omega) (wp_bs (lpush_eq (by omega)) (wp_some ?_))))
    rw [e10]
    generalize hh2 : setA (setA γ1 68 (γ 9 10) (γ 64 f + γ0 39 (γ 67 f))) 9 10 (γ 9 10 + 1) = γf
    have ff : ∀ j k, γf j k = if j = 9 ∧ k = 10 then γ 9 10 + 1 else if j = 68 ∧ k = γ 9 10 then γ 64 f + γ0 39 (γ 67 f) else γ1 j k := fun j k => by rw [← hh2, stA, stA]
    have fo : ∀ j k, (j ≠ 9 ∨ k ≠ 10) → (j ≠ 68 ∨ k ≠ γ 9 10) → γf j k = γ1 j k := fun j k q1 q2 => by rw [ff, if_neg (by omega), if_neg (by omega)]
    have c85 : γf 8 5 = γ 8 5 := by rw [fo 8 5 (by omega) (by omega)]; exact e85
    have c811 : γf 8 11 = γ 8 11 := by rw [fo 8 11 (by omega) (by omega)]; exact e 8 11 (by omega)
    refine one_fin (s := γ 8 5) (T := γ 9 10) (C := γ 8 11) hx h hf h0 hq hp (by omega) rfl (by omega) rfl (fun j k q1 q2 q3 q4 q5 q6 => ?_) ?_ ?_ (Or.inl c85) (by show γ 8 11 ≤ γf 8 11 ∧ γf 8 11 ≤ γ 8 11 + 2; omega) ?_ (fun i q1 q2 => ?_)
    · show γf j k = γ j k
      rw [fo j k q1 q5]; exact e j k q6
    · show γf 67 f = _
      rw [fo 67 f (by omega) (by omega)]; exact e67
    · show γf 9 10 = _; rw [ff]; simp
    · show 0 ≤ γf 68 (γ 9 10) ∧ γf 68 (γ 9 10) < γf 8 5
      have : γf 68 (γ 9 10) = γ 64 f + γ0 39 (γ 67 f) := by rw [ff]; simp
      omega
    · have q2 : i < γf 8 11 := q2
      omega
  · exact wp_chk (by omega) (num (by have := pt.1; unfold sdK at this; omega) (by omega))
  · have s1 : γ0 40 (γ 67 f) = 1 := by have := pt.1; unfold sdK at this; omega
    refine wp_some ?_
    have st := h.2.2.2.1 (γ 9 10 - 1) (by omega) (by omega)
    refine one_fin (s := γ 8 5) (T := γ 9 10 - 1) (C := γ 8 11) hx h hf h0 hq hp (by omega) rfl (by omega) rfl (fun j k q1 q2 q3 q4 q5 q6 => e j k q6) e67 (by show γ1 9 10 = _; omega) (Or.inl e85) (by show γ 8 11 ≤ γ1 8 11 ∧ γ1 8 11 ≤ γ 8 11 + 2; have := e 8 11 (by omega); omega) ?_ (fun i q1 q2 => ?_)
    · show 0 ≤ γ1 68 (γ 9 10 - 1) ∧ γ1 68 (γ 9 10 - 1) < γ1 8 5
      rw [e 68 _ (by omega), e85]; exact st
    · have q2 : i < γ1 8 11 := q2
      have := e 8 11 (by omega)
      omega
  · exact wp_chk (by omega) (num (by have := pt.1; unfold sdK at this; omega) (by omega))
  · exact wp_chk (by omega) (num (by have := pt.1; unfold sdK at this; omega) (by omega))
  · exact wp_bnd (w_takeCall hx h hf h0 hq hp c h1) (fun r γ2 q => wp_some q)
  · exact wp_bnd (w_takeOperator hx h hf h0 hq hp ⟨c43, c2, c3, c27, c40, c41⟩ h1) (fun r γ2 q => wp_some q)
theorem w_define_L23 {γ0 : St} {f q nl : Int} {V : Int} (hf : 0 ≤ f ∧ f < 59) (hq : 0 ≤ q ∧ q < 16385) (h45 : 0 ≤ γ0 45 q ∧ γ0 45 q + nl ≤ 10240) : ∀ (n : Nat) (γ : St) (i : Int), γ 45 q = γ0 45 q → (∀ k, γ0 45 q ≤ k → k < γ0 45 q + nl → γ 47 k = γ0 47 k ∧ 0 ≤ γ 64 f + γ0 47 k ∧ γ 64 f + γ0 47 k < V) → V ≤ 6000 → 0 ≤ i → i ≤ nl → (0 ≤ γ 9 10 ∧ γ 9 10 + nl ≤ 9000) → nl - i < n → wp (f_Lk_define_L23 n γ f q nl i) (fun z => (∀ j k, j ≠ 55 → z.2 j k = γ j k) ∧ ∀ k, z.2 55 k = γ 55 k ∨ 0 ≤ k ∧ k < V ∧ ∃ t, 0 ≤ t ∧ t < nl ∧ z.2 55 k = γ 68 (γ 9 10 + t)) := by
  intro n
  induction n with
  | zero => intro γ i h1 h2 hV h3 h4 h5 h6; exfalso; omega
  | succ n ih =>
    intro γ i h1 h2 hV h3 h4 h5 h6
    unfold f_Lk_define_L23
    refine wp_ite (fun c => wp_some ⟨fun _ _ _ => rfl, fun k => Or.inl rfl⟩) (fun c => ?_)
    have y := h2 (γ0 45 q + i) (by omega) (by omega)
    rw [h1, y.1]
    refine wp_chk (by omega) (wp_chk (by omega) (wp_chk (by omega) (wp_chk (by omega) (wp_chk (by omega) (wp_chk (by omega) (wp_chk (by omega) (wp_chk (by omega) (wp_sub (wp_chk (by omega) ?_)))))))))
    have u : ∀ j k, (j ≠ 55 ∨ k ≠ γ 64 f + γ0 47 (γ0 45 q + i)) → setA γ 55 (γ 64 f + γ0 47 (γ0 45 q + i)) (γ 68 (γ 9 10 + i)) j k = γ j k := fun j k r => by rw [stA, if_neg (by omega)]
    have u55 : setA γ 55 (γ 64 f + γ0 47 (γ0 45 q + i)) (γ 68 (γ 9 10 + i)) 55 (γ 64 f + γ0 47 (γ0 45 q + i)) = γ 68 (γ 9 10 + i) := by rw [stA, if_pos ⟨rfl, rfl⟩]
    generalize setA γ 55 (γ 64 f + γ0 47 (γ0 45 q + i)) (γ 68 (γ 9 10 + i)) = γ2 at *
    have u10 := u 9 10 (by omega)
    refine wp_mono (ih γ2 (i + 1) (by rw [u 45 _ (by omega)]; exact h1) (fun k r1 r2 => by rw [u 47 _ (by omega), u 64 _ (by omega)]; exact h2 k r1 r2) hV (by omega) (by omega) (by omega) (by omega)) (fun z hz => ⟨fun j k r => by rw [hz.1 j k r, u j k (by omega)], fun k => ?_⟩)
    rcases hz.2 k with r | r
    · by_cases r2 : k = γ 64 f + γ0 47 (γ0 45 q + i)
      · exact Or.inr ⟨by omega, by omega, i, h3, by omega, by rw [r, r2, u55]⟩
      · exact Or.inl (by rw [r, u 55 k (by omega)])
    · obtain ⟨r1, r2, t, r3, r4, r5⟩ := r
      exact Or.inr ⟨r1, r2, t, r3, r4, by rw [r5, u10, u 68 _ (by omega)]⟩
set_option maxHeartbeats 1000000 in
theorem w_goOn {γ0 γ : St} {m : Int} (hx : LkX γ0 m) (h : LkI γ0 m γ) (h0 : 0 < γ 9 8) : wp (f_Lk_goOn γ (γ 9 8 - 1)) (fun z => LkQ γ0 m γ z.2) := by
  have ⟨b1, b2, b3, b4, b5, b6, b7⟩ := h.2.2.1
  have hm := hx.1
  have hV := hx.2.2.1
  generalize hf : γ 9 8 - 1 = f
  have ⟨g1, g2, g3, g4, g5, g6, g7⟩ := h.2.1 f (by omega) (by omega)
  have hn : 0 ≤ γ 63 f ∧ γ 63 f ≤ m := by omega
  have pnn := hx.pn hn.1 hn.2
  have eP : enF γ0 γ f = γ0 29 (γ 63 f) + γ0 30 (γ 63 f) := rfl
  unfold f_Lk_goOn
  refine wp_chk (by omega) (wp_sub (wp_chk (by omega) (wp_sub ?_)))
  rw [h.1 29 _ (by omega), h.1 30 _ (by omega)]
  refine wp_chk (by omega) (wp_chk (by omega) (wp_chk (by omega) (wp_ite (fun c => ?_) (fun c => ?_))))
  · have hq : γ 66 f < enF γ0 γ f := by omega
    have ⟨w1, w2, _, w3, w4⟩ := h.top hx hf.symm (by omega) hq
    have tp := h.tp hx hf.symm (by omega) hq
    have g5 := g5 hq
    have w11 := w1.1
    have w14 := w1.2.2.2.1
    have c44 := hx.2.2.2.1
    have c412 := hx.2.2.2.2.2
    rw [h.1 44 _ (by omega)]
    refine wp_chk (by omega) (wp_chk (by omega) (wp_ite (fun c2 => ?_) (fun c2 => ?_)))
    · have hp : γ 67 f = γ0 44 (γ 66 f) := by omega
      have t2 := tp.2.1 hp
      unfold f_Lk_define
      rw [h.1 46 _ (by omega)]
      refine wp_bnd (P := fun z => (∀ j k, j ≠ 55 → (j ≠ 9 ∨ k ≠ 10) → z.2 j k = γ j k) ∧ z.2 9 10 = γ 9 10 - γ0 46 (γ 66 f) ∧ ∀ k, z.2 55 k = γ 55 k ∨ 0 ≤ k ∧ k < γ 9 11 ∧ 0 ≤ z.2 55 k ∧ z.2 55 k < γ 8 5) ?_ (fun r γ2 y => ?_)
      · refine wp_chk (by omega) (wp_sub (wp_chk (by omega) (wp_sub ?_)))
        have u : ∀ j k, (j ≠ 9 ∨ k ≠ 10) → setA γ 9 10 (γ 9 10 - γ0 46 (γ 66 f)) j k = γ j k := fun j k r => by rw [stA, if_neg (by omega)]
        have u10 : setA γ 9 10 (γ 9 10 - γ0 46 (γ 66 f)) 9 10 = γ 9 10 - γ0 46 (γ 66 f) := by rw [stA, if_pos ⟨rfl, rfl⟩]
        generalize setA γ 9 10 (γ 9 10 - γ0 46 (γ 66 f)) = γ1 at *
        refine wp_mono (w_define_L23 (γ0 := γ0) (V := γ 9 11) (by omega) (by omega) (by omega) FU γ1 0 (by rw [u 45 _ (by omega)]; exact h.1 45 _ (by omega)) (fun k r1 r2 => ?_) (by omega) (by omega) (by omega) (by omega) (by have := FU_v; omega)) (fun z hz => ⟨fun j k r1 r2 => by rw [hz.1 j k r1, u j k r2], by rw [hz.1 9 10 (by omega)]; exact u10, fun k => ?_⟩)
        · have l := w1.2.2.2.2.1 k r1 r2
          rw [u 47 k (by omega), u 64 f (by omega), h.1 47 k (by omega)]
          exact ⟨rfl, by omega, by omega⟩
        · rcases hz.2 k with r | r
          · exact Or.inl (by rw [r, u 55 k (by omega)])
          · obtain ⟨r1, r2, t, r3, r4, r5⟩ := r
            have s := h.2.2.2.1 (γ 9 10 - γ0 46 (γ 66 f) + t) (by omega) (by omega)
            refine Or.inr ⟨r1, r2, ?_⟩
            rw [r5, u10, u 68 _ (by omega)]
            exact s
      · obtain ⟨y1, y2, y3⟩ := y
        have y1 : ∀ j k, j ≠ 55 → (j ≠ 9 ∨ k ≠ 10) → γ2 j k = γ j k := y1
        have y2 : γ2 9 10 = γ 9 10 - γ0 46 (γ 66 f) := y2
        have y3 : ∀ k, γ2 55 k = γ 55 k ∨ 0 ≤ k ∧ k < γ 9 11 ∧ 0 ≤ γ2 55 k ∧ γ2 55 k < γ 8 5 := y3
        rw [y1 66 f (by omega) (by omega)]
        refine wp_chk (by omega) (wp_chk (by omega) (wp_chk (by omega) (wp_sub (wp_some ?_))))
        have v : ∀ j k, (j ≠ 66 ∨ k ≠ f) → setA γ2 66 f (γ 66 f + 1) j k = γ2 j k := fun j k r => by rw [stA, if_neg (by omega)]
        have v66 : setA γ2 66 f (γ 66 f + 1) 66 f = γ 66 f + 1 := by rw [stA, if_pos ⟨rfl, rfl⟩]
        generalize setA γ2 66 f (γ 66 f + 1) = γ3 at *
        have vv : ∀ j k, j ≠ 55 → (j ≠ 9 ∨ k ≠ 10) → (j ≠ 66 ∨ k ≠ f) → γ3 j k = γ j k := fun j k r1 r2 r3 => by rw [v j k r3, y1 j k r1 r2]
        have z98 := vv 9 8 (by omega) (by omega) (by omega)
        have z911 := vv 9 11 (by omega) (by omega) (by omega)
        have z85 := vv 8 5 (by omega) (by omega) (by omega)
        have z811 := vv 8 11 (by omega) (by omega) (by omega)
        have z910 : γ3 9 10 = γ 9 10 - γ0 46 (γ 66 f) := by rw [v 9 10 (by omega)]; exact y2
        have g := h.def (γ' := γ3) hx hf.symm (by omega) hq hp (fun j k q => by rw [vv j k (by omega) (by omega) (by omega)]; exact h.1 j k q) (fun j k q1 q2 q3 => vv j k (by omega) (by omega) (by omega)) v66 z98 z911 (vv 9 12 (by omega) (by omega) (by omega)) (vv 8 8 (by omega) (by omega) (by omega)) z910 z85 z811 ?_
        · exact ⟨g.1, by show 2 * sm (rF γ0 γ3) 0 (γ3 9 8) + γ3 9 8 + 1 ≤ _; rw [g.2, z98]; omega⟩
        · refine h.2.2.2.up (by omega) (by omega) (fun i q1 q2 => Or.inl ⟨by omega, vv 68 i (by omega) (by omega) (by omega)⟩) (fun s q => ?_) (fun i q1 q2 => Or.inl ⟨by omega, vv 61 i (by omega) (by omega) (by omega), vv 62 i (by omega) (by omega) (by omega)⟩)
          have s0 : 0 ≤ s ∧ s < γ 9 11 ∨ γ0 32 m ≤ s ∧ s < γ 8 5 := by omega
          rcases y3 s with r | r
          · refine Or.inl ⟨s0, fun j y1 y2 => ?_⟩
            by_cases z : j = 55
            · subst z; rw [v 55 s (by omega)]; exact r
            · exact vv j s z (by omega) (by omega)
          · have o := h.2.2.2.2.1 s s0
            have ⟨o1, o2, o3, o4, o5, o6, o7, o8⟩ := o
            have m54 := vv 54 s (by omega) (by omega) (by omega)
            have m56 := vv 56 s (by omega) (by omega) (by omega)
            have m57 := vv 57 s (by omega) (by omega) (by omega)
            have m58 := vv 58 s (by omega) (by omega) (by omega)
            have m59 := vv 59 s (by omega) (by omega) (by omega)
            have m55 := v 55 s (by omega)
            refine Or.inr ⟨by omega, by omega, by omega, fun q => ?_, fun q => ?_, fun q => ?_, fun q => ?_, fun q => by omega⟩
            · have := o4 q; omega
            · have := o5 q; omega
            · have := o6 (by omega); omega
            · have := o7 (by omega); omega
    · have hp : γ 67 f < γ0 44 (γ 66 f) := by omega
      refine wp_chk (by omega) (wp_chk (by omega) (wp_chk (by omega) (wp_sub (wp_chk (by omega) ?_))))
      have v67 : setA γ 67 f (γ 67 f + 1) 67 f = γ 67 f + 1 := by rw [stA, if_pos ⟨rfl, rfl⟩]
      rw [v67, show γ 67 f + 1 - 1 = γ 67 f by omega]
      exact wp_chk (by omega) (wp_bnd (w_take_lk hx h hf.symm (by omega) hq hp (fun j k => by rw [stA])) (fun r γ2 q => wp_some q))
  · have g := h.cls hf.symm (by omega) (by omega)
    rw [show γ 9 8 - 1 = f by omega]
    refine wp_chk (by omega) (wp_sub (wp_some ⟨g.1, ?_⟩))
    have e98 : setA γ 9 8 f 9 8 = f := by rw [stA, if_pos ⟨rfl, rfl⟩]
    show 2 * sm (rF γ0 (setA γ 9 8 f)) 0 (setA γ 9 8 f 9 8) + setA γ 9 8 f 9 8 + 1 ≤ _
    rw [e98, g.2]
    omega
theorem w_link_L63 {γ0 : St} {m : Int} (hx : LkX γ0 m) : ∀ (n : Nat) (γ : St) (i : Int), LkI γ0 m γ → 0 ≤ i → i + 2 * sm (rF γ0 γ) 0 (γ 9 8) + γ 9 8 ≤ 3 * γ0 31 m + 1 → 3 * γ0 31 m + 1 - i < n → wp (f_Lk_link_L63 n γ (γ0 31 m) i) (fun z => LkI γ0 m z.2 ∧ z.2 9 8 = 0) := by
  have hV := hx.2.2.1
  intro n
  induction n with
  | zero =>
    intro γ i h h1 h2 h3
    have nr := sm_nn (f := rF γ0 γ) (a := 0) (b := γ 9 8) (fun k q1 q2 => (h.nn hx k q1 q2).2.1)
    have := h.2.2.1.1
    exfalso
    omega
  | succ n ih =>
    intro γ i h h1 h2 h3
    have nr := sm_nn (f := rF γ0 γ) (a := 0) (b := γ 9 8) (fun k q1 q2 => (h.nn hx k q1 q2).2.1)
    have b1 := h.2.2.1.1
    unfold f_Lk_link_L63
    refine wp_ite (fun c => wp_some ⟨h, by show γ 9 8 = 0; omega⟩) (fun c => wp_chk (by omega) (wp_ite (fun c2 => by omega) (fun c2 => ?_)))
    refine wp_chk (by have := hx.1; omega) (wp_bnd (w_goOn hx h (by omega)) (fun r γ2 q => wp_chk (by omega) ?_))
    have q2 : 2 * sm (rF γ0 γ2) 0 (γ2 9 8) + γ2 9 8 + 1 ≤ 2 * sm (rF γ0 γ) 0 (γ 9 8) + γ 9 8 := q.2
    exact ih γ2 (i + 1) q.1 (by omega) (by omega) (by omega)
