/-! equality: the linker takes a part that is no call -/
def NwS (γ γ' : St) (f sd : Int) : Prop := (∀ j k, (j < 8 ∨ j = 8 ∧ k ≠ 5 ∧ k ≠ 11 ∨ j = 9 ∧ k ≠ 10 ∨ 10 ≤ j ∧ j < 54 ∨ 54 ≤ j ∧ j ≤ 58 ∧ k ≠ γ 8 5 ∨ 59 ≤ j ∧ j ≤ 60 ∨ (j = 61 ∨ j = 62) ∧ k < γ 8 11 ∨ 63 ≤ j ∧ j ≤ 66 ∨ j = 67 ∧ k ≠ f ∨ j = 68 ∧ k < γ 9 10 - sd ∨ 68 < j) → γ' j k = γ j k) ∧ γ' 67 f = γ 67 f + 1 ∧ γ' 9 10 = γ 9 10 - sd + 1 ∧ γ 8 5 ≤ γ' 8 5 ∧ γ' 8 11 = γ 8 11 + clW (γ 38 (γ 67 f))
def TkV (γ γ' : St) (f p T : Int) : Prop := (γ 38 p = 3 ∨ γ 38 p = 40 ∨ γ 38 p = 41 → γ' 68 T = γ 8 5 ∧ γ' 8 5 = γ 8 5 + 1 ∧ γ' 54 (γ 8 5) = 3 ∧ γ' 58 (γ 8 5) = γ 39 p ∧ γ' 55 (γ 8 5) = -1 ∧ γ' 56 (γ 8 5) = -1 ∧ γ' 57 (γ 8 5) = -1) ∧ (γ 38 p = 2 → γ' 68 T = γ 64 f + γ 39 p) ∧ (γ 38 p = 27 → ∀ k, γ' 68 k = γ 68 k) ∧ (opK (γ 38 p) → ∃ γ1, PrS γ γ1 f ∧ OpN γ1 γ' (γ 8 5) T (γ 8 11) (γ 38 p) (γ 40 p) (ccK (γ 64 f) (γ 65 f) (γ 41 p)))
theorem num_pc {γ γ1 : St} {f p : Int} (hp : p = γ 67 f) (h1 : PrS γ γ1 f) (h40 : γ 40 p = 0) (hk : γ 38 p = 3 ∨ γ 38 p = 40 ∨ γ 38 p = 41) : pc (bndN (f_Sl_add γ1 3 (γ1 39 p)) fun r18 γ19 => bndN (f_Lk_push γ19 r18) fun _ γ21 => some ((0 : Int), γ21)) (fun z => NwS γ z.2 f (γ 40 p) ∧ TkV γ z.2 f p (γ 9 10 - γ 40 p)) := by
  have e : ∀ j k, (j ≠ 67 ∨ k ≠ f) → γ1 j k = γ j k := fun j k q => by rw [h1, if_neg (by omega)]
  rw [e 39 p (by omega), h40]
  refine pc_b sadd_pc (fun r γ2 w => ?_)
  rw [e 8 5 (by omega)] at w
  have er : r = γ 8 5 := by cases w; rfl
  have s2 : ∀ j i, γ2 j i = if j = 8 ∧ i = 5 then γ 8 5 + 1 else if j = 57 ∧ i = γ 8 5 then -1 else if j = 56 ∧ i = γ 8 5 then -1 else if j = 55 ∧ i = γ 8 5 then -1 else if j = 58 ∧ i = γ 8 5 then γ 39 p else if j = 54 ∧ i = γ 8 5 then 3 else γ1 j i := fun j i => by cases w; rw [stA, setS_v]
  clear w
  subst er
  have o2 : ∀ j i, (j ≠ 8 ∨ i ≠ 5) → (j < 54 ∨ 58 < j ∨ i ≠ γ 8 5) → (j ≠ 67 ∨ i ≠ f) → γ2 j i = γ j i := fun j i q1 q2 q3 => by rw [s2, if_neg (by omega), if_neg (by omega), if_neg (by omega), if_neg (by omega), if_neg (by omega), if_neg (by omega)]; exact e j i q3
  refine pc_b lpush_pc (fun r γ3 w => pc_s ?_)
  have s3 : ∀ j i, γ3 j i = if j = 9 ∧ i = 10 then γ 9 10 + 1 else if j = 68 ∧ i = γ 9 10 then γ 8 5 else γ2 j i := fun j i => by cases w; rw [o2 9 10 (by omega) (by omega) (by omega), stA, stA]
  clear w
  have o3 : ∀ j i, (j ≠ 9 ∨ i ≠ 10) → (j ≠ 68 ∨ i ≠ γ 9 10) → γ3 j i = γ2 j i := fun j i q1 q2 => by rw [s3, if_neg (by omega), if_neg (by omega)]
  have cl : clW (γ 38 (γ 67 f)) = 0 := by rw [← hp]; unfold clW; rw [if_neg (by omega), if_neg (by omega)]
  have a5 : γ3 8 5 = γ 8 5 + 1 := by rw [o3 8 5 (by omega) (by omega), s2, if_pos ⟨rfl, rfl⟩]
  refine ⟨⟨fun j i q => by show γ3 j i = _; rw [o3 j i (by omega) (by omega)]; exact o2 j i (by omega) (by omega) (by omega), ?_, by show γ3 9 10 = _; rw [s3, if_pos ⟨rfl, rfl⟩]; omega, by show γ 8 5 ≤ γ3 8 5; omega, ?_⟩, fun _ => ⟨?_, a5, ?_, ?_, ?_, ?_, ?_⟩, fun q => by omega, fun q => by omega, fun q => by unfold opK at q; omega⟩
  · show γ3 67 f = _
    rw [o3 67 f (by omega) (by omega), s2, if_neg (by omega), if_neg (by omega), if_neg (by omega), if_neg (by omega), if_neg (by omega), if_neg (by omega), h1, if_pos ⟨rfl, rfl⟩]
  · show γ3 8 11 = _
    rw [cl, o3 8 11 (by omega) (by omega), o2 8 11 (by omega) (by omega) (by omega)]; omega
  · show γ3 68 _ = _
    rw [show γ 9 10 - 0 = γ 9 10 by omega, s3, if_neg (by omega), if_pos ⟨rfl, rfl⟩]
  · show γ3 54 _ = _
    rw [o3 54 _ (by omega) (by omega), s2, if_neg (by omega), if_neg (by omega), if_neg (by omega), if_neg (by omega), if_neg (by omega), if_pos ⟨rfl, rfl⟩]
  · show γ3 58 _ = _
    rw [o3 58 _ (by omega) (by omega), s2, if_neg (by omega), if_neg (by omega), if_neg (by omega), if_neg (by omega), if_pos ⟨rfl, rfl⟩]
  · show γ3 55 _ = _
    rw [o3 55 _ (by omega) (by omega), s2, if_neg (by omega), if_neg (by omega), if_neg (by omega), if_pos ⟨rfl, rfl⟩]
  · show γ3 56 _ = _
    rw [o3 56 _ (by omega) (by omega), s2, if_neg (by omega), if_neg (by omega), if_pos ⟨rfl, rfl⟩]
  · show γ3 57 _ = _
    rw [o3 57 _ (by omega) (by omega), s2, if_neg (by omega), if_pos ⟨rfl, rfl⟩]
theorem take_pc {γ γ1 : St} {f p : Int} (hp : p = γ 67 f) (h1 : PrS γ γ1 f) (h40 : sdK (γ 38 p) (γ 40 p)) (h43 : γ 38 p ≠ 43) (hk : 0 ≤ ccK (γ 64 f) (γ 65 f) (γ 41 p)) : pc (f_Lk_take γ1 f p) (fun z => NwS γ z.2 f (γ 40 p) ∧ TkV γ z.2 f p (γ 9 10 - γ 40 p)) := by
  have e : ∀ j k, (j ≠ 67 ∨ k ≠ f) → γ1 j k = γ j k := fun j k q => by rw [h1, if_neg (by omega)]
  have s0 : γ 38 p = 2 ∨ γ 38 p = 3 ∨ γ 38 p = 40 ∨ γ 38 p = 41 → γ 40 p = 0 := fun q => by unfold sdK at h40; omega
  have s1 : γ 38 p = 27 → γ 40 p = 1 := fun q => by unfold sdK at h40; omega
  unfold f_Lk_take
  rw [e 38 p (by omega), e 64 f (by omega)]
  refine pc_c (fun _ => pc_a (pc_i (fun q => ?_) (fun q => pc_i (fun q2 => pc_c (fun _ => num_pc hp h1 (s0 (by omega)) (by omega))) (fun q2 => pc_i (fun q3 => pc_s ?_) (fun q3 => pc_i (fun q4 => pc_c (fun _ => num_pc hp h1 (s0 (by omega)) (by omega))) (fun q4 => pc_i (fun q5 => pc_c (fun _ => num_pc hp h1 (s0 (by omega)) (by omega))) (fun q5 => pc_i (fun q6 => absurd q6 h43) (fun q6 => ?_))))))))
  · have z := s0 (by omega)
    rw [e 39 p (by omega), z]
    refine pc_c (fun _ => pc_c (fun _ => pc_c (fun _ => pc_b lpush_pc (fun r γ3 w => pc_s ?_))))
    have s3 : ∀ j i, γ3 j i = if j = 9 ∧ i = 10 then γ 9 10 + 1 else if j = 68 ∧ i = γ 9 10 then γ 64 f + γ 39 p else γ1 j i := fun j i => by cases w; rw [e 9 10 (by omega), stA, stA]
    clear w
    have cl : clW (γ 38 (γ 67 f)) = 0 := by rw [← hp]; unfold clW; rw [if_neg (by omega), if_neg (by omega)]
    refine ⟨⟨fun j i r => by show γ3 j i = _; rw [s3, if_neg (by omega), if_neg (by omega)]; exact e j i (by omega), ?_, ?_, ?_, ?_⟩, fun r => by omega, fun _ => ?_, fun r => by omega, fun r => by unfold opK at r; omega⟩
    · show γ3 67 f = _
      rw [s3, if_neg (by omega), if_neg (by omega), h1, if_pos ⟨rfl, rfl⟩]
    · show γ3 9 10 = _
      rw [s3, if_pos ⟨rfl, rfl⟩]; omega
    · show _ ≤ γ3 8 5
      rw [s3, if_neg (by omega), if_neg (by omega), e 8 5 (by omega)]; omega
    · show γ3 8 11 = _
      rw [cl, s3, if_neg (by omega), if_neg (by omega), e 8 11 (by omega)]; omega
    · show γ3 68 _ = _
      rw [show γ 9 10 - 0 = γ 9 10 by omega, s3, if_neg (by omega), if_pos ⟨rfl, rfl⟩]
  · have z := s1 q3
    have cl : clW (γ 38 (γ 67 f)) = 0 := by rw [← hp]; unfold clW; rw [if_neg (by omega), if_neg (by omega)]
    refine ⟨⟨fun j i r => e j i (by omega), ?_, ?_, ?_, ?_⟩, fun r => by omega, fun r => by omega, fun _ k => e 68 k (by omega), fun r => by unfold opK at r; omega⟩
    · show γ1 67 f = _
      rw [h1, if_pos ⟨rfl, rfl⟩]
    · show γ1 9 10 = _
      rw [e 9 10 (by omega), z]; omega
    · show _ ≤ γ1 8 5
      rw [e 8 5 (by omega)]; omega
    · show γ1 8 11 = _
      rw [cl, e 8 11 (by omega)]; omega
  · have e1 : ccK (γ1 64 f) (γ1 65 f) (γ1 41 p) = ccK (γ 64 f) (γ 65 f) (γ 41 p) := by rw [e 64 f (by omega), e 65 f (by omega), e 41 p (by omega)]
    refine pc_b (top_pc (γ := γ1) (f := f) (p := p) (k := γ 38 p) (by rw [e1]; exact hk)) (fun r γ3 w => pc_s ?_)
    rw [e1, e 8 5 (by omega), e 8 11 (by omega), e 9 10 (by omega), e 40 p (by omega)] at w
    have w : OpN γ1 γ3 (γ 8 5) (γ 9 10 - γ 40 p) (γ 8 11) (γ 38 p) (γ 40 p) (ccK (γ 64 f) (γ 65 f) (γ 41 p)) := w
    have ⟨w1, ⟨w2, w3, w4, w5⟩, _⟩ := w
    refine ⟨⟨fun j i r => by show γ3 j i = _; rw [w1 j i (by omega) (by omega) (by omega) (by omega) (by omega)]; exact e j i (by omega), ?_, w2, by show _ ≤ γ3 8 5; omega, by rw [← hp]; exact w4⟩, fun r => by omega, fun r => by omega, fun r => by omega, fun _ => ⟨γ1, h1, w⟩⟩
    show γ3 67 f = _
    rw [w1 67 f (by omega) (by omega) (by omega) (by omega) (by omega), h1, if_pos ⟨rfl, rfl⟩]
theorem Arr.get {f g : Int → Int} : ∀ {ks : List Int} {b : Int}, Arr f g b ks → ∀ (j : Nat) k, ks[j]? = some k → f (b + j) = g k
  | [], _, _, j, k, q => by simp at q
  | y :: t, b, h, j, k, q => by
    cases j with
    | zero =>
      simp only [List.getElem?_cons_zero, Option.some.injEq] at q
      rw [← q, show b + ((0 : Nat) : Int) = b by omega]
      exact h.1
    | succ j =>
      rw [List.getElem?_cons_succ] at q
      have := Arr.get h.2 j k q
      rw [show b + ((j + 1 : Nat) : Int) = b + 1 + (j : Int) by omega]
      exact this
theorem sdF_arr {f g : Int → Int} {ks : List Int} {b : Int} (h : Arr f g b ks) (j : Nat) : sdF g ks j = if (ks.length : Int) ≤ j then -1 else f (b + j) := by
  unfold sdF
  cases q : ks[j]? with
  | none =>
    have := List.getElem?_eq_none_iff.1 q
    rw [if_pos (by omega)]
  | some k =>
    have l : j < ks.length := by
      rcases Nat.lt_or_ge j ks.length with r | r
      · exact r
      · rw [List.getElem?_eq_none r] at q; cases q
    rw [if_neg (by omega), h.get j k q]
