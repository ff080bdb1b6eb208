/-! the reference: what judge finds out of types -/
theorem loK_ty {K t1 t2 t3 v2 v : Int} (h : loK K t1 t2 t3 v2 = some v) : (K = 0 → v = 0) ∧ (K = 2 → v = v2) ∧ (K = 4 → t2 = v ∧ t3 = v) ∧ (K = 5 ∨ K = 6 → t1 = v ∧ t2 = v) ∧ (7 ≤ K → K ≤ 10 → t1 ≠ 0 ∧ t2 ≠ 0) ∧ (17 ≤ K → K ≤ 22 → v = 0) ∧ (K = 23 → t1 ≠ 0) ∧ (24 ≤ K → t1 = v) := by
  unfold loK at h
  refine ⟨fun q => ?_, fun q => ?_, fun q => ?_, fun q => ?_, fun q q' => ?_, fun q q' => ?_, fun q => ?_, fun q => ?_⟩
  · rw [if_pos q] at h; cases h; rfl
  · rw [if_neg (by omega), if_neg (by omega), if_pos q] at h; cases h; rfl
  · rw [if_neg (by omega), if_neg (by omega), if_neg (by omega), if_pos q] at h
    by_cases a : t1 = 0
    · rw [if_pos a] at h; cases h
    · rw [if_neg a] at h
      by_cases b : t2 ≠ t3
      · rw [if_pos b] at h; cases h
      · rw [if_neg b] at h; cases h; omega
  · rw [if_neg (by omega), if_neg (by omega), if_neg (by omega), if_neg (by omega), if_pos q] at h
    by_cases a : t1 ≠ t2
    · rw [if_pos a] at h; cases h
    · rw [if_neg a] at h; cases h; omega
  · rw [if_neg (by omega), if_neg (by omega), if_neg (by omega), if_neg (by omega), if_neg (by omega), if_pos ⟨q, q'⟩] at h
    by_cases a : t1 = 0
    · rw [if_pos a] at h; cases h
    · rw [if_neg a] at h
      by_cases b : t2 = 0
      · rw [if_pos b] at h; cases h
      · exact ⟨a, b⟩
  · rw [if_neg (by omega), if_neg (by omega), if_neg (by omega), if_neg (by omega), if_neg (by omega), if_neg (by omega), if_neg (by omega), if_neg (by omega)] at h
    by_cases z : 17 ≤ K ∧ K ≤ 21
    · rw [if_pos z] at h
      by_cases a : t1 ≠ 0
      · rw [if_pos a] at h; cases h
      · rw [if_neg a] at h
        by_cases b : t2 ≠ 0
        · rw [if_pos b] at h; cases h
        · rw [if_neg b] at h; cases h; rfl
    · rw [if_neg z, if_pos (by omega)] at h
      by_cases a : t1 ≠ 0
      · rw [if_pos a] at h; cases h
      · rw [if_neg a] at h; cases h; rfl
  · rw [if_neg (by omega), if_neg (by omega), if_neg (by omega), if_neg (by omega), if_neg (by omega), if_neg (by omega), if_neg (by omega), if_neg (by omega), if_neg (by omega), if_neg (by omega), if_pos q] at h
    by_cases a : t1 = 0
    · rw [if_pos a] at h; cases h
    · exact a
  · rw [if_neg (by omega), if_neg (by omega), if_neg (by omega), if_neg (by omega), if_neg (by omega), if_neg (by omega), if_neg (by omega), if_neg (by omega), if_neg (by omega), if_neg (by omega), if_neg (by omega)] at h
    cases h; rfl
/-- a call's types -/
theorem lc_L122 {δ : St} {e f : Int} : ∀ (rest : List Int) (n : Nat) (i x : Int), Ch (δ 23) x rest → pc (f_M_look_L122 f_M_look_b168 n δ e f i x) (fun z => ∀ r, z.1 = .inr r → z.2 = setA δ 28 e (δ 14 (δ 4 f + δ 5 f)) ∧ ∀ (j : Nat) y, rest[j]? = some y → δ 28 y = δ 14 (i + j)) := by
  intro rest
  induction rest with
  | nil =>
    intro n i x h
    have h : x = -1 := h
    cases n with
    | zero => exact pc_n
    | succ n =>
      unfold f_M_look_L122
      refine pc_i (fun _ => ?_) (fun q => by exfalso; omega)
      unfold f_M_look_b168
      exact pc_c (fun _ => pc_c (fun _ => pc_c (fun _ => pc_c (fun _ => pc_c (fun _ => pc_c (fun _ => pc_a (pc_s (fun _ _ => ⟨rfl, fun j y hj => by simp at hj⟩))))))))
  | cons y t ih =>
    intro n i x h
    have ex : x = y := h.1
    have y0 := h.2.1
    cases n with
    | zero => exact pc_n
    | succ n =>
      unfold f_M_look_L122 f_M_look_b153
      refine pc_i (fun q => by exfalso; omega) (fun _ => pc_c (fun _ => pc_c (fun _ => pc_c (fun _ => pc_i (fun q => ?_) (fun q => ?_)))))
      · show pc (some ((.inl (4, δ 0 42), δ) : Res)) _
        exact pc_s (fun r w => by cases w)
      · rw [ty_1 (by decide)]
        refine pc_c (fun _ => pc_a ?_)
        rw [ex]
        refine pc_m (ih n (i + 1) _ h.2.2) (fun z hz r hr => ⟨(hz r hr).1, fun j y' hj => ?_⟩)
        cases j with
        | zero =>
          simp only [List.getElem?_cons_zero, Option.some.injEq] at hj
          rw [← hj, show i + ((0 : Nat) : Int) = i by omega, ← ex]; omega
        | succ j =>
          rw [List.getElem?_cons_succ] at hj
          have := (hz r hr).2 j y' hj
          rw [this, show i + 1 + (j : Int) = i + ((j + 1 : Nat) : Int) by omega]
theorem lc_pc {δ : St} {e o : Int} {ms : List Int} (ch : Ch (δ 23) (δ 22 e) ms) (h3 : δ 20 e = 3) : pc (f_M_look δ e o) (fun z => ∀ r, z.1 = .inr r → z.2 = setA δ 28 e (δ 14 (δ 4 (δ 21 e) + δ 5 (δ 21 e))) ∧ ∀ (j : Nat) y, ms[j]? = some y → δ 28 y = δ 14 (δ 4 (δ 21 e) + j)) := by
  have b54 : ∀ b n, pc (f_M_look_b54 δ e o n (δ 22 e) b) (fun z => ∀ r, z.1 = .inr r → z.2 = setA δ 28 e (δ 14 (δ 4 (δ 21 e) + δ 5 (δ 21 e))) ∧ ∀ (j : Nat) y, ms[j]? = some y → δ 28 y = δ 14 (δ 4 (δ 21 e) + j)) := fun b n => by
    unfold f_M_look_b54 f_M_look_b96
    refine pc_c (fun _ => pc_i (fun q => absurd h3 q) (fun _ => pc_c (fun _ => pc_a (pc_c (fun _ => pc_i (fun _ => pc_s (fun r w => by cases w)) (fun _ => pc_c (fun _ => pc_i (fun _ => pc_c (fun _ => pc_a ?_)) (fun _ => pc_s (fun r w => by cases w)))))))))
    exact lc_L122 ms FU _ _ ch
  unfold f_M_look
  refine pc_c (fun _ => pc_a (loL10_pc FU ms 0 _ ?_ ch))
  unfold f_M_look_b30
  exact pc_c (fun _ => pc_a (pc_i (fun _ => pc_c (fun _ => b54 _ _)) (fun _ => b54 _ _)))
theorem TyQ.ag {D : St} {τ τ' : Int → Int} {v0 e : Int} {ms : List Int} (h : TyQ D τ v0 e ms) (ch : Ch (D 23) (D 22 e) ms) (ar : aryK (D 20 e) ms.length) (g : ∀ z, z = e ∨ z ∈ ms → τ' z = τ z) : TyQ D τ' v0 e ms := by
  obtain ⟨t0, t2, t3, t4, t5, t7, t17, t23, t24⟩ := h
  have ge := g e (Or.inl rfl)
  have ck := ch_kd ch
  have a : 1 ≤ ms.length → τ' (D 22 e) = τ (D 22 e) := fun q => g _ (Or.inr (List.mem_of_getElem? (ck.1 q)))
  have b : 2 ≤ ms.length → τ' (D 23 (D 22 e)) = τ (D 23 (D 22 e)) := fun q => g _ (Or.inr (List.mem_of_getElem? (ck.2.1 q)))
  have c : 3 ≤ ms.length → τ' (D 23 (D 23 (D 22 e))) = τ (D 23 (D 23 (D 22 e))) := fun q => g _ (Or.inr (List.mem_of_getElem? (ck.2.2 q)))
  have l2 : 5 ≤ D 20 e → D 20 e ≤ 21 → ms.length = 2 := fun a b => ar.2.2.2.1 ⟨a, b⟩
  have l1 : 22 ≤ D 20 e → ms.length = 1 := ar.2.2.2.2
  unfold TyQ
  rw [ge]
  refine ⟨t0, t2, fun q => ⟨(t3 q).1, fun i y hy => by rw [g y (Or.inr (List.mem_of_getElem? hy))]; exact (t3 q).2 i y hy⟩, fun q => ?_, fun q => ?_, fun q q' => ?_, t17, fun q => ?_, fun q => ?_⟩
  · have l3 := ar.2.2.1 q
    rw [b (by omega), c (by omega)]; exact t4 q
  · have := l2 (by omega) (by omega)
    rw [a (by omega), b (by omega)]; exact t5 q
  · have := l2 (by omega) (by omega)
    rw [a (by omega), b (by omega)]; exact t7 q q'
  · have := l1 (by omega)
    rw [a (by omega)]; exact t23 q
  · have := l1 (by omega)
    rw [a (by omega)]; exact t24 q
def TyW (γ : St) (v0 k : Int) : Prop := ∃ τ : Int → Int, (∀ e, γ 19 k ≤ e → e ≤ γ 17 k → ∃ ms, Ch (γ 23) (γ 22 e) ms ∧ (∀ y ∈ ms, γ 19 k ≤ y ∧ y < e) ∧ TyQ γ τ v0 e ms) ∧ ∀ i, γ 16 k ≤ i → i < γ 16 (k + 1) → γ 14 (v0 + γ 18 i) = if γ 20 (γ 17 k) = 3 then γ 14 (γ 4 (γ 21 (γ 17 k)) + γ 5 (γ 21 (γ 17 k)) + (i - γ 16 k)) else τ (γ 17 k)
theorem TyW.ro {γ γ' : St} {v0 k : Int} (h : TyW γ v0 k) (r : ∀ j : Nat, j = 4 ∨ j = 5 ∨ j = 14 ∨ 16 ≤ j ∧ j ≤ 23 → γ' j = γ j) : TyW γ' v0 k := by
  simp only [TyW, TyQ, r 4 (by omega), r 5 (by omega), r 14 (by omega), r 16 (by omega), r 17 (by omega), r 18 (by omega), r 19 (by omega), r 20 (by omega), r 21 (by omega), r 22 (by omega), r 23 (by omega)] at h ⊢
  exact h
section TJ
variable {δ0 : St} {k : Int}
theorem tj_L99 (j0 : JI δ0 k) {δ : St} {m : Int} (f : Fk (δ0 19 k) (δ0 17 k) δ0 δ) (hm : (m = 0 ∧ δ0 1 (δ0 15 k) ≠ 40) ∨ (m ≠ 0 ∧ δ0 1 (δ0 15 k) = 40)) (ty : ∀ y, δ0 19 k ≤ y → y ≤ δ0 17 k → ∃ ms, Ch (δ0 23) (δ0 22 y) ms ∧ (∀ z ∈ ms, δ0 19 k ≤ z ∧ z < y) ∧ TyQ δ0 (δ 28) (δ0 4 (δ0 0 18)) y ms) : ∀ (n : Nat) (i : Int), 0 ≤ i → (∀ i', 0 ≤ i' → i' < i → δ0 14 (δ0 4 (δ0 0 18) + δ0 18 (δ0 16 k + i')) = if m = 0 then δ 28 (δ0 17 k) else δ0 14 (δ0 4 (δ0 21 (δ0 17 k)) + δ0 5 (δ0 21 (δ0 17 k)) + i')) → pc (f_M_judge_L99 f_M_judge_b197 n δ k (δ0 17 k) (δ0 16 (k + 1) - δ0 16 k) m i) (fun z => ∀ r, z.1 = .inr r → TyW δ0 (δ0 4 (δ0 0 18)) k) := by
  have ⟨c1, c2, c3, c4, c5, c6, c7, c8⟩ := j0
  have g : ∀ j : Nat, j ≠ 0 → j ≠ 24 → j ≠ 28 → ∀ t, δ j t = δ0 j t := fun j q1 q2 q3 t => f j t (by omega) (by omega) q3
  have e18 : δ 0 18 = δ0 0 18 := f 0 18 (by omega) (by omega) (by omega)
  intro n
  induction n with
  | zero => intro i _ _; exact pc_n
  | succ n ih =>
    intro i i0 hl
    unfold f_M_judge_L99
    refine pc_i (fun q => ?_) (fun q => ?_)
    · refine fun _ _ _ _ => ⟨δ 28, ty, fun t t1 t2 => ?_⟩
      have h := hl (t - δ0 16 k) (by omega) (by omega)
      rw [show δ0 16 k + (t - δ0 16 k) = t by omega] at h
      rw [h]
      have er := c4
      rcases hm with ⟨hm, hp⟩ | ⟨hm, hp⟩
      · rw [if_pos hm]
        have one := er.2.2.2.2.2.2 hp
        by_cases q3 : δ0 20 (δ0 17 k) = 3
        · rw [if_pos q3]
          obtain ⟨ms, _, _, tq⟩ := ty (δ0 17 k) er.2.2.2.1.2.1 (Int.le_refl _)
          rw [(tq.2.2.1 q3).1, show t - δ0 16 k = 0 by omega, Int.add_zero]
        · rw [if_neg q3]
      · rw [if_neg hm, if_pos (er.2.2.2.2.2.1 hp)]
    · rw [e18, g 4 (by omega) (by omega) (by omega), g 16 (by omega) (by omega) (by omega), g 18 (by omega) (by omega) (by omega), g 14 (by omega) (by omega) (by omega), g 21 (by omega) (by omega) (by omega), g 4 (by omega) (by omega) (by omega), g 5 (by omega) (by omega) (by omega), g 14 (by omega) (by omega) (by omega)]
      have nx : ∀ a c, (a = c → c = (if m = 0 then δ 28 (δ0 17 k) else δ0 14 (δ0 4 (δ0 21 (δ0 17 k)) + δ0 5 (δ0 21 (δ0 17 k)) + i)) → True) → (a = (if m = 0 then δ 28 (δ0 17 k) else δ0 14 (δ0 4 (δ0 21 (δ0 17 k)) + δ0 5 (δ0 21 (δ0 17 k)) + i))) → c = δ0 14 (δ0 4 (δ0 0 18) + δ0 18 (δ0 16 k + i)) → pc (f_M_judge_b180 (f_M_judge_L99 f_M_judge_b197 n) f_M_judge_b197 δ k (δ0 17 k) (δ0 16 (k + 1) - δ0 16 k) m i a c) (fun z => ∀ r, z.1 = .inr r → TyW δ0 (δ0 4 (δ0 0 18)) k) := fun a c _ ha hc => by
        unfold f_M_judge_b180 f_M_judge_b188
        refine pc_i (fun q2 => ?_) (fun q2 => ?_)
        · show pc (some ((.inl (4, δ 0 42), δ) : Res)) _
          exact pc_s (fun r w => by cases w)
        · rw [ty_1 (by decide)]
          refine pc_c (fun _ => ih (i + 1) (by omega) (fun i' a1 a2 => ?_))
          by_cases z : i' = i
          · rw [z, ← hc, ← ha]; omega
          · exact hl i' a1 (by omega)
      refine pc_c (fun _ => pc_c (fun _ => pc_c (fun _ => pc_c (fun _ => pc_c (fun _ => pc_c (fun _ => pc_i (fun q2 => pc_c (fun _ => nx _ _ (fun _ _ => trivial) (by rw [if_pos q2]) rfl)) (fun q2 => pc_c (fun _ => pc_c (fun _ => pc_c (fun _ => pc_c (fun _ => pc_c (fun _ => pc_c (fun _ => pc_c (fun _ => nx _ _ (fun _ _ => trivial) (by rw [if_neg q2]) rfl))))))))))))))
theorem tj_L62 (j0 : JI δ0 k) {m : Int} (hm : (m = 0 ∧ δ0 1 (δ0 15 k) ≠ 40) ∨ (m ≠ 0 ∧ δ0 1 (δ0 15 k) = 40)) : ∀ (n : Nat) (δ : St) (e : Int), Fk (δ0 19 k) (δ0 17 k) δ0 δ → (∀ v, δ 28 v = 0 ∨ δ 28 v = 1) → δ0 19 k ≤ e → (∀ y, δ0 19 k ≤ y → y < e → ∃ ms, Ch (δ0 23) (δ0 22 y) ms ∧ (∀ z ∈ ms, δ0 19 k ≤ z ∧ z < y) ∧ TyQ δ0 (δ 28) (δ0 4 (δ0 0 18)) y ms) → pc (f_M_judge_L62 f_M_judge_b96 n δ k (δ0 17 k) (δ0 16 (k + 1) - δ0 16 k) m e) (fun z => ∀ r, z.1 = .inr r → TyW δ0 (δ0 4 (δ0 0 18)) k) := by
  have ⟨c1, c2, c3, c4, c5, c6, c7, c8⟩ := j0
  have r4 := c4.2.2.2.1
  intro n
  induction n with
  | zero => intro δ e _ _ _ _; exact pc_n
  | succ n ih =>
    intro δ e f b h1 h2
    have ⟨a1, a2, a3, a4, a5, a6, a7, a8⟩ := j0.fk f b
    have g : ∀ j : Nat, j ≠ 0 → j ≠ 24 → j ≠ 28 → ∀ t, δ j t = δ0 j t := fun j q1 q2 q3 t => f j t (by omega) (by omega) q3
    have e18 : δ 0 18 = δ0 0 18 := f 0 18 (by omega) (by omega) (by omega)
    unfold f_M_judge_L62
    refine pc_i (fun q => ?_) (fun q => ?_)
    · unfold f_M_judge_b96
      exact tj_L99 j0 f hm (fun y q1 q2 => h2 y q1 (by omega)) FU 0 (Int.le_refl _) (fun i' w1 w2 => by exfalso; omega)
    · obtain ⟨ms, d1, d2, d3, d4, d5, _⟩ := c4.2.2.2.2.1 e h1 (by omega)
      have gn := a4.2.2.2.2.1 e (by rw [g 19 (by omega) (by omega) (by omega)]; omega) (by rw [g 17 (by omega) (by omega) (by omega)]; omega)
      have mm := d2.mem
      have ck := ch_kd d1
      have nx : ∀ o, pc (f_M_judge_b87 (f_M_judge_L62 f_M_judge_b96 n) f_M_judge_b96 δ k (δ0 17 k) (δ0 16 (k + 1) - δ0 16 k) m e o e) (fun z => ∀ r, z.1 = .inr r → TyW δ0 (δ0 4 (δ0 0 18)) k) := fun o => by
        unfold f_M_judge_b87
        have w2 := (w_look2 (o := o) a1 (by rw [g 19 (by omega) (by omega) (by omega)]; omega) (by omega) gn b (fun x q1 q2 => by have := a3 x q1 q2; omega)).pc
        have chd : Ch (δ 23) (δ 22 e) ms := by rw [show δ 23 = δ0 23 from funext (g 23 (by omega) (by omega) (by omega)), g 22 (by omega) (by omega) (by omega)]; exact d1
        -- what look finds out
        have fin : ∀ v γ', γ' = setA δ 28 e v → (v = 0 ∨ v = 1) → TyQ δ0 (γ' 28) (δ0 4 (δ0 0 18)) e ms → pc (chk (i32 (e + 1)) (f_M_judge_L62 f_M_judge_b96 n γ' k (δ0 17 k) (δ0 16 (k + 1) - δ0 16 k) m (e + 1))) (fun z => ∀ r, z.1 = .inr r → TyW δ0 (δ0 4 (δ0 0 18)) k) := fun v γ' eg hv hq => by
          have s : ∀ j t, γ' j t = if j = 28 ∧ t = e then v else δ j t := fun j t => by rw [eg, stA]
          have f1 : Fk (δ0 19 k) (δ0 17 k) δ γ' := fun j t q1 q2 q3 => by rw [s, if_neg (by omega)]
          refine pc_c (fun _ => ih γ' (e + 1) (f.tr f1) (fun t => ?_) (by omega) (fun y q1 q2 => ?_))
          · rw [s]
            by_cases q3 : t = e
            · rw [if_pos ⟨rfl, q3⟩]; exact hv
            · rw [if_neg (by omega)]; exact b t
          · by_cases q3 : y = e
            · rw [q3]; exact ⟨ms, d1, fun z hz => by have := mm z hz; omega, hq⟩
            · obtain ⟨ms', p1, p2, p3⟩ := h2 y q1 (by omega)
              obtain ⟨ms2, u1, _, _, u4, _⟩ := c4.2.2.2.2.1 y q1 (by omega)
              rw [Ch.uniq u1 p1] at u4
              refine ⟨ms', p1, p2, p3.ag p1 u4 (fun z hz => ?_)⟩
              rw [s, if_neg (fun w => ?_)]
              rcases hz with hz | hz
              · omega
              · have := p2 z hz; omega
        by_cases q3 : δ0 20 e = 3
        · have lc := lc_pc (o := o) chd (by rw [g 20 (by omega) (by omega) (by omega)]; exact q3)
          refine pc_bT (P := fun z => ∀ r, z.1 = .inr r → z.2 = setA δ 28 e (δ 14 (δ 4 (δ 21 e) + δ 5 (δ 21 e))) ∧ ∀ (j : Nat) y, ms[j]? = some y → δ 28 y = δ 14 (δ 4 (δ 21 e) + j)) lc (fun er γ' z r w => by cases w) (fun r γ' z => ?_)
          obtain ⟨z1, z2⟩ := z r rfl
          rw [g 21 (by omega) (by omega) (by omega), g 4 (by omega) (by omega) (by omega), g 5 (by omega) (by omega) (by omega), g 14 (by omega) (by omega) (by omega)] at z1
          have z1 : γ' = setA δ 28 e (δ0 14 (δ0 4 (δ0 21 e) + δ0 5 (δ0 21 e))) := z1
          refine fin _ γ' z1 (c1.2.2.2.2.2.2 _) ⟨fun w => by omega, fun w => by omega, fun _ => ⟨by rw [z1, stA, if_pos ⟨rfl, rfl⟩], fun i y hy => ?_⟩, fun w => by omega, fun w => by omega, fun w w' => by omega, fun w w' => by omega, fun w => by omega, fun w => by omega⟩
          have my := mm y (List.mem_of_getElem? hy)
          have := z2 i y hy
          rw [g 21 (by omega) (by omega) (by omega), g 4 (by omega) (by omega) (by omega), g 14 (by omega) (by omega) (by omega)] at this
          rw [z1, stA, if_neg (by omega)]; exact this
        · have lo := look_pc (o := o) chd (by rw [g 20 (by omega) (by omega) (by omega)]; exact q3)
          refine pc_bT (P := fun z => (LoR e δ z ∧ ∀ r, z.1 = .inr r → LoC e o δ) ∧ LoF e δ (loK (δ 20 e) (δ 28 (δ 22 e)) (δ 28 (if 0 ≤ δ 22 e then δ 23 (δ 22 e) else -1)) (δ 28 (δ 23 (if 0 ≤ δ 22 e then δ 23 (δ 22 e) else -1))) (δ 14 (δ 4 (δ 0 18) + δ 21 e))) z) (fun y hy => ⟨w2 y hy, lo y hy⟩) (fun er γ' z r w => by cases w) (fun r γ' z => ?_)
          obtain ⟨z0, z1⟩ := z
          generalize hk : loK (δ 20 e) (δ 28 (δ 22 e)) (δ 28 (if 0 ≤ δ 22 e then δ 23 (δ 22 e) else -1)) (δ 28 (δ 23 (if 0 ≤ δ 22 e then δ 23 (δ 22 e) else -1))) (δ 14 (δ 4 (δ 0 18) + δ 21 e)) = L at z1
          match L, hk, z1 with
          | none, hk, z1 =>
            have z1 : ((.inr r, γ') : Res) = (.inl (4, δ 0 42), δ) := z1
            cases z1
          | some v, hk, z1 =>
            have z1 : ((.inr r, γ') : Res) = (.inr 0, setA δ 28 e v) := z1
            have eg : γ' = setA δ 28 e v := by cases z1; rfl
            have hv : v = 0 ∨ v = 1 := by
              rcases z0.1 with ⟨_, w⟩ | ⟨v', hv', w⟩
              · cases w
              · have e2 : γ' = setA δ 28 e v' := by cases w; rfl
                have a1 : γ' 28 e = v := by rw [eg, stA, if_pos ⟨rfl, rfl⟩]
                have a2 : γ' 28 e = v' := by rw [e2, stA, if_pos ⟨rfl, rfl⟩]
                rw [← a1, a2]; exact hv'
            have lt := loK_ty hk
            rw [e18, g 20 (by omega) (by omega) (by omega), g 21 (by omega) (by omega) (by omega), g 22 (by omega) (by omega) (by omega), g 4 (by omega) (by omega) (by omega), g 14 (by omega) (by omega) (by omega)] at lt
            have ve : γ' 28 e = v := by rw [eg, stA, if_pos ⟨rfl, rfl⟩]
            have vo : ∀ z, z ∈ ms → γ' 28 z = δ 28 z := fun z hz => by have := mm z hz; rw [eg, stA, if_neg (by omega)]
            have A : 1 ≤ ms.length → γ' 28 (δ0 22 e) = δ 28 (δ0 22 e) ∧ 0 ≤ δ0 22 e := fun w => ⟨vo _ (List.mem_of_getElem? (ck.1 w)), by have := mm _ (List.mem_of_getElem? (ck.1 w)); omega⟩
            have B : 2 ≤ ms.length → γ' 28 (δ0 23 (δ0 22 e)) = δ 28 (δ0 23 (δ0 22 e)) := fun w => vo _ (List.mem_of_getElem? (ck.2.1 w))
            have C : 3 ≤ ms.length → γ' 28 (δ0 23 (δ0 23 (δ0 22 e))) = δ 28 (δ0 23 (δ0 23 (δ0 22 e))) := fun w => vo _ (List.mem_of_getElem? (ck.2.2 w))
            have l2 : 5 ≤ δ0 20 e → δ0 20 e ≤ 21 → ms.length = 2 := fun a b => d4.2.2.2.1 ⟨a, b⟩
            have l1 : 22 ≤ δ0 20 e → ms.length = 1 := d4.2.2.2.2
            have bo := fun x => b x
            refine fin v γ' eg hv ⟨fun w => by rw [ve]; exact lt.1 w, fun w => by rw [ve]; exact lt.2.1 w, fun w => absurd w q3, fun w => ?_, fun w => ?_, fun w w' => ?_, fun w w' => by rw [ve]; exact lt.2.2.2.2.2.1 w w', fun w => ?_, fun w => ?_⟩
            · have l3 := d4.2.2.1 w
              have t := lt.2.2.1 w
              rw [if_pos (A (by omega)).2, g 23 (by omega) (by omega) (by omega), g 23 (by omega) (by omega) (by omega)] at t
              rw [ve, B (by omega), C (by omega)]; exact t
            · have l := l2 (by omega) (by omega)
              have t := lt.2.2.2.1 w
              rw [if_pos (A (by omega)).2, g 23 (by omega) (by omega) (by omega)] at t
              rw [ve, (A (by omega)).1, B (by omega)]; exact t
            · have l := l2 (by omega) (by omega)
              have t := lt.2.2.2.2.1 w w'
              rw [if_pos (A (by omega)).2, g 23 (by omega) (by omega) (by omega)] at t
              have b1 := bo (δ0 22 e)
              have b2 := bo (δ0 23 (δ0 22 e))
              rw [(A (by omega)).1, B (by omega)]; omega
            · have l := l1 (by omega)
              have t := lt.2.2.2.2.2.2.1 w
              have b1 := bo (δ0 22 e)
              rw [(A (by omega)).1]; omega
            · have l := l1 (by omega)
              rw [ve, (A (by omega)).1]; exact lt.2.2.2.2.2.2.2 w
      unfold f_M_judge_b86
      exact pc_i (fun _ => nx _) (fun _ => pc_i (fun _ => nx _) (fun _ => nx _))
theorem hj_ty : HJ TyW := by
  refine ⟨fun γ k ji => ?_, fun γ γ' v0 k h f => h.ro (fun j q => funext fun t => f.1 j t (by omega) (by omega) (by omega))⟩
  have ⟨c1, c2, c3, c4, c5, c6, c7, c8⟩ := ji
  have wj := (w_judge ji).pc
  have main : pc (f_M_judge γ k) (fun z => ∀ r, z.1 = .inr r → TyW γ (γ 4 (γ 0 18)) k) := by
    unfold f_M_judge
    refine pc_c (fun _ => pc_a ?_)
    have s : ∀ i t, setA γ 0 42 (γ 15 k) i t = if i = 0 ∧ t = 42 then γ 15 k else γ i t := fun i t => by rw [stA]
    generalize setA γ 0 42 (γ 15 k) = γ1 at *
    have s0 : ∀ i t, i ≠ 0 → γ1 i t = γ i t := fun i t q => by rw [s, if_neg (by omega)]
    have s42 : γ1 0 42 = γ 15 k := by rw [s, if_pos ⟨rfl, rfl⟩]
    have f : Fk (γ 19 k) (γ 17 k) γ γ1 := fun i t q1 q2 q3 => by rw [s, if_neg (by omega)]
    have b : ∀ v, γ1 28 v = 0 ∨ γ1 28 v = 1 := fun v => by rw [s0 28 v (by omega)]; exact c2 v
    rw [s0 17 k (by omega), s0 16 _ (by omega), s0 16 _ (by omega), s42, s0 1 _ (by omega)]
    have k52 : ∀ m : Int, (m = 0 ∧ γ 1 (γ 15 k) ≠ 40) ∨ (m ≠ 0 ∧ γ 1 (γ 15 k) = 40) → pc (f_M_judge_b52 γ1 k (γ 17 k) (γ 16 (k + 1) - γ 16 k) m) (fun z => ∀ r, z.1 = .inr r → TyW γ (γ 4 (γ 0 18)) k) := fun m hm => by
      unfold f_M_judge_b52
      refine pc_c (fun _ => pc_a ?_)
      rw [s0 19 k (by omega)]
      exact tj_L62 ji hm FU γ1 _ f b (Int.le_refl _) (fun y w1 w2 => by exfalso; omega)
    exact pc_c (fun _ => pc_a (pc_c (fun _ => pc_c (fun _ => pc_c (fun _ => pc_c (fun _ => pc_a (pc_c (fun _ => pc_i (fun q => k52 0 (Or.inl ⟨rfl, q⟩)) (fun q => k52 1 (Or.inr ⟨by decide, by omega⟩))))))))))
  intro y hy r hr
  have fk := (wj y hy).1
  exact (main y hy r hr).ro (fun j q => funext fun t => fk j t (by omega) (by omega) (by omega))
end TJ
