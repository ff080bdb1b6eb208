/-! the reference's run: what a part is worth -/
def Bl (n : Int) : Prop := n = 0 ∨ n = 1
def jnF (k a b : Int) : Int := if k = 7 then (if a = 0 then 1 else if b ≠ 1 then 0 else 1) else if k = 8 then ior a b else if k = 9 then ixor a b else if k = 10 then iand a b else if k = 11 then (if a ≠ b then 0 else 1) else if k = 12 then (if a = b then 0 else 1) else if k = 13 then (if b ≤ a then 0 else 1) else if k = 14 then (if b < a then 0 else 1) else if k = 15 then (if a ≤ b then 0 else 1) else if k = 16 then (if a < b then 0 else 1) else if k = 17 then wr (a + b) else if k = 18 then wr (a - b) else if k = 19 then wr (a * b) else if k = 20 then (if b ≠ 0 then idiv a b else 0) else (if b ≠ 0 then irem a b else 0)
theorem tr_pc0 {γ : St} : pc (bndN (f_M_truth γ 0) fun r γ' => some (r, γ')) (fun z => z = (0, γ)) := by
  unfold f_M_truth
  rw [if_pos rfl]
  exact pc_b (P := fun z => z = (0, γ)) (pc_s rfl) (fun r γ' w => by cases w; exact pc_s rfl)
theorem tr_pc1 {γ : St} : pc (bndN (f_M_truth γ 1) fun r γ' => some (r, γ')) (fun z => z = (1, γ)) := by
  unfold f_M_truth
  rw [if_neg (by decide)]
  exact pc_b (P := fun z => z = (1, γ)) (pc_s rfl) (fun r γ' w => by cases w; exact pc_s rfl)
theorem jn_pc {γ : St} {k a b : Int} : pc (f_M_joined γ k a b) (fun z => z = (jnF k a b, γ)) := by
  unfold f_M_joined jnF
  refine pc_i (fun q => ?_) (fun q => ?_)
  · rw [if_pos q]
    refine pc_i (fun c => ?_) (fun c => pc_i (fun c2 => ?_) (fun c2 => ?_))
    · rw [if_pos c]; exact tr_pc1
    · rw [if_neg c, if_pos c2]; exact tr_pc0
    · rw [if_neg c, if_neg c2]; exact tr_pc1
  rw [if_neg q]
  refine pc_i (fun q => ?_) (fun q => ?_)
  · rw [if_pos q]; exact pc_s rfl
  rw [if_neg q]
  refine pc_i (fun q => ?_) (fun q => ?_)
  · rw [if_pos q]; exact pc_s rfl
  rw [if_neg q]
  refine pc_i (fun q => ?_) (fun q => ?_)
  · rw [if_pos q]; exact pc_s rfl
  rw [if_neg q]
  refine pc_i (fun q => ?_) (fun q => ?_)
  · rw [if_pos q]
    refine pc_i (fun c => ?_) (fun c => ?_)
    · rw [if_pos c]; exact tr_pc0
    · rw [if_neg c]; exact tr_pc1
  rw [if_neg q]
  refine pc_i (fun q => ?_) (fun q => ?_)
  · rw [if_pos q]
    refine pc_i (fun c => ?_) (fun c => ?_)
    · rw [if_pos c]; exact tr_pc0
    · rw [if_neg c]; exact tr_pc1
  rw [if_neg q]
  refine pc_i (fun q => ?_) (fun q => ?_)
  · rw [if_pos q]
    refine pc_i (fun c => ?_) (fun c => ?_)
    · rw [if_pos c]; exact tr_pc0
    · rw [if_neg c]; exact tr_pc1
  rw [if_neg q]
  refine pc_i (fun q => ?_) (fun q => ?_)
  · rw [if_pos q]
    refine pc_i (fun c => ?_) (fun c => ?_)
    · rw [if_pos c]; exact tr_pc0
    · rw [if_neg c]; exact tr_pc1
  rw [if_neg q]
  refine pc_i (fun q => ?_) (fun q => ?_)
  · rw [if_pos q]
    refine pc_i (fun c => ?_) (fun c => ?_)
    · rw [if_pos c]; exact tr_pc0
    · rw [if_neg c]; exact tr_pc1
  rw [if_neg q]
  refine pc_i (fun q => ?_) (fun q => ?_)
  · rw [if_pos q]
    refine pc_i (fun c => ?_) (fun c => ?_)
    · rw [if_pos c]; exact tr_pc0
    · rw [if_neg c]; exact tr_pc1
  rw [if_neg q]
  refine pc_i (fun q => ?_) (fun q => ?_)
  · rw [if_pos q]; exact pc_s rfl
  rw [if_neg q]
  refine pc_i (fun q => ?_) (fun q => ?_)
  · rw [if_pos q]; exact pc_s rfl
  rw [if_neg q]
  refine pc_i (fun q => ?_) (fun q => ?_)
  · rw [if_pos q]; exact pc_s rfl
  rw [if_neg q]
  refine pc_i (fun q => ?_) (fun q => ?_)
  · rw [if_pos q]
    refine pc_i (fun c => pc_c (fun _ => ?_)) (fun c => ?_)
    · rw [if_pos c]; exact pc_s rfl
    · rw [if_neg c]; exact pc_s rfl
  rw [if_neg q]
  refine pc_i (fun c => pc_c (fun _ => ?_)) (fun c => ?_)
  · rw [if_pos c]; exact pc_s rfl
  · rw [if_neg c]; exact pc_s rfl
def wkV (δ : St) (x e : Int) : Int := if δ 20 e = 0 then δ 21 e else if δ 20 e = 1 then δ 21 e else if δ 20 e = 2 then δ 51 (δ 38 x + δ 21 e) else if δ 20 e = 3 then δ 51 (outV δ x e 0) else if δ 20 e = 4 then (if δ 54 (δ 22 e) ≠ 1 then δ 54 (δ 23 (δ 23 (δ 22 e))) else δ 54 (δ 23 (δ 22 e))) else if δ 20 e = 5 then (if δ 52 (δ 39 x + δ 25 e) ≠ 1 then δ 54 (δ 22 e) else δ 54 (δ 23 (δ 22 e))) else if δ 20 e = 6 then (if δ 52 (δ 39 x + δ 25 e + 1) ≠ 1 then δ 54 (δ 22 e) else δ 52 (δ 39 x + δ 25 e)) else if δ 20 e = 22 then wr (-(δ 54 (δ 22 e))) else if δ 20 e = 23 then wr (1 - δ 54 (δ 22 e)) else if δ 20 e = 24 then δ 52 (δ 39 x + δ 25 e) else if δ 20 e = 25 then (if prM δ x (δ 29 (δ 22 e)) = 0 then δ 52 (δ 39 x + δ 25 e) else δ 54 (δ 22 e)) else if δ 20 e = 26 then δ 54 (δ 22 e) else jnF (δ 20 e) (δ 54 (δ 22 e)) (δ 54 (δ 23 (δ 22 e)))
theorem wk_pc {δ : St} {x e : Int} (h : LkM δ) (h0 : 0 ≤ x) (h1 : x < δ 0 50) (e0 : psN δ (δ 35 x) ≤ e) (e1 : e < peN δ (δ 35 x)) : pc (f_M_work δ x e) (fun z => z.2 = setA δ 54 e (wkV δ x e)) := by
  have nd := h.nd h0 h1
  have sz := nd.sz
  have kd := nd.kd e0 e1
  have a := h.2.2.2.2.2.2.2.2.1 x h0 h1
  have b21 : ∀ x4, (4 ≤ δ 20 e → x4 = δ 23 (δ 22 e)) → pc (f_M_work_b21 δ x e (δ 22 e) x4) (fun z => z.2 = setA δ 54 e (wkV δ x e)) := fun x4 h4 => by
    unfold f_M_work_b21 wkV
    refine pc_c (fun _ => pc_c (fun _ => pc_c (fun _ => pc_a (pc_c (fun _ => ?_)))))
    refine pc_i (fun q => ?_) (fun q0 => ?_)
    · rw [if_pos q]; exact pc_c (fun _ => pc_c (fun _ => pc_a (pc_s rfl)))
    rw [if_neg q0]
    refine pc_i (fun q => ?_) (fun q1 => ?_)
    · rw [if_pos q]; exact pc_c (fun _ => pc_c (fun _ => pc_a (pc_s rfl)))
    rw [if_neg q1]
    refine pc_i (fun q => ?_) (fun q2 => ?_)
    · rw [if_pos q]; exact pc_c (fun _ => pc_c (fun _ => pc_c (fun _ => pc_c (fun _ => pc_c (fun _ => pc_a (pc_s rfl))))))
    rw [if_neg q2]
    refine pc_i (fun q => ?_) (fun q3 => ?_)
    · obtain ⟨ks, _, _, _, _, w, _⟩ := nd.pt e0 e1
      have w3 := w.2.2.1 q
      have sg := (h.1 _ w3.1 (by have := a.1.1; omega)).sz
      have o := output_eq h h0 h1 e0 e1 q (i := 0) (by omega)
      rw [if_pos q, bndN_eq o.1]
      exact pc_c (fun _ => pc_c (fun _ => pc_a (pc_s rfl)))
    rw [if_neg q3]
    have x4e := h4 (by omega)
    have k1 := kd.2.1 (by omega)
    rw [x4e]
    refine pc_i (fun q => ?_) (fun q4 => ?_)
    · rw [if_pos q]
      refine pc_c (fun _ => pc_i (fun c => ?_) (fun c => ?_))
      · rw [if_pos c]; exact pc_c (fun _ => pc_c (fun _ => pc_c (fun _ => pc_a (pc_s rfl))))
      · rw [if_neg c]; exact pc_c (fun _ => pc_c (fun _ => pc_a (pc_s rfl)))
    rw [if_neg q4]
    refine pc_i (fun q => ?_) (fun q5 => ?_)
    · rw [if_pos q]
      refine pc_c (fun _ => pc_i (fun c => ?_) (fun c => ?_))
      · rw [if_pos c]; exact pc_c (fun _ => pc_c (fun _ => pc_a (pc_s rfl)))
      · rw [if_neg c]; exact pc_c (fun _ => pc_c (fun _ => pc_a (pc_s rfl)))
    rw [if_neg q5]
    refine pc_i (fun q => ?_) (fun q6 => ?_)
    · rw [if_pos q]
      refine pc_c (fun _ => pc_c (fun _ => pc_i (fun c => ?_) (fun c => ?_)))
      · rw [if_pos c]; exact pc_c (fun _ => pc_c (fun _ => pc_a (pc_s rfl)))
      · rw [if_neg c]; exact pc_c (fun _ => pc_c (fun _ => pc_a (pc_s rfl)))
    rw [if_neg q6]
    refine pc_i (fun q => ?_) (fun q22 => ?_)
    · rw [if_pos q]; exact pc_c (fun _ => pc_c (fun _ => pc_a (pc_s rfl)))
    rw [if_neg q22]
    refine pc_i (fun q => ?_) (fun q23 => ?_)
    · rw [if_pos q]; exact pc_c (fun _ => pc_c (fun _ => pc_a (pc_s rfl)))
    rw [if_neg q23]
    refine pc_i (fun q => ?_) (fun q24 => ?_)
    · rw [if_pos q]; exact pc_c (fun _ => pc_c (fun _ => pc_a (pc_s rfl)))
    rw [if_neg q24]
    refine pc_i (fun q => ?_) (fun q25 => ?_)
    · rw [if_pos q]
      obtain ⟨_, _, _, _, _, _, fl, _⟩ := nd.pt (e := δ 22 e) k1.1 (by omega)
      rw [bndN_eq (present_eq h h0 h1 fl)]
      refine pc_c (fun _ => pc_i (fun c => ?_) (fun c => ?_))
      · rw [if_pos c]; exact pc_c (fun _ => pc_c (fun _ => pc_a (pc_s rfl)))
      · rw [if_neg c]; exact pc_c (fun _ => pc_c (fun _ => pc_a (pc_s rfl)))
    rw [if_neg q25]
    refine pc_i (fun q => ?_) (fun q26 => ?_)
    · rw [if_pos q]; exact pc_c (fun _ => pc_c (fun _ => pc_a (pc_s rfl)))
    rw [if_neg q26]
    refine pc_c (fun _ => pc_c (fun _ => pc_c (fun _ => pc_b jn_pc (fun r γ' w => ?_))))
    cases w
    exact pc_c (fun _ => pc_a (pc_s rfl))
  unfold f_M_work
  refine pc_c (fun _ => pc_a (pc_i (fun q => pc_c (fun _ => b21 _ (fun _ => rfl))) (fun q => b21 _ (fun q4 => by have := kd.2.1 q4; omega))))
theorem ch_kd {b : Int → Int} : ∀ {ms : List Int} {x : Int}, Ch b x ms → (1 ≤ ms.length → ms[0]? = some x) ∧ (2 ≤ ms.length → ms[1]? = some (b x)) ∧ (3 ≤ ms.length → ms[2]? = some (b (b x)))
  | [], x, h => ⟨fun q => by simp at q, fun q => by simp at q, fun q => by simp at q⟩
  | [y], x, h => by
    have e : x = y := h.1
    exact ⟨fun _ => by rw [e]; rfl, fun q => by simp at q, fun q => by simp at q⟩
  | [y, z], x, h => by
    have e : x = y := h.1
    have e2 : b y = z := h.2.2.1
    exact ⟨fun _ => by rw [e]; rfl, fun _ => by rw [e, e2]; rfl, fun q => by simp at q⟩
  | y :: z :: t :: r, x, h => by
    have e : x = y := h.1
    have e2 : b y = z := h.2.2.1
    have e3 : b z = t := h.2.2.2.2.1
    exact ⟨fun _ => by rw [e]; rfl, fun _ => by rw [e, e2]; rfl, fun _ => by rw [e, e2, e3]; rfl⟩
/-- what a part means: u the variables, w the parts of the instances, M what is remembered -/
def WkE (D : St) (u : Int → Int) (w : Int → Int → Int) (M : Int → Int) (x e : Int) : Prop := (D 20 e = 0 ∨ D 20 e = 1 → w x e = D 21 e) ∧ (D 20 e = 2 → w x e = u (D 38 x + D 21 e)) ∧ (D 20 e = 3 → w x e = u (outV D x e 0)) ∧ (D 20 e = 4 → w x e = if w x (D 22 e) ≠ 1 then w x (D 23 (D 23 (D 22 e))) else w x (D 23 (D 22 e))) ∧ (D 20 e = 5 → w x e = if M (D 39 x + D 25 e) ≠ 1 then w x (D 22 e) else w x (D 23 (D 22 e))) ∧ (D 20 e = 6 → w x e = if M (D 39 x + D 25 e + 1) ≠ 1 then w x (D 22 e) else M (D 39 x + D 25 e)) ∧ (D 20 e = 22 → w x e = wr (-(w x (D 22 e)))) ∧ (D 20 e = 23 → w x e = wr (1 - w x (D 22 e))) ∧ (D 20 e = 24 → w x e = M (D 39 x + D 25 e)) ∧ (D 20 e = 25 → w x e = if u (D 38 x + D 29 (D 22 e) / 2) ≠ D 29 (D 22 e) % 2 then M (D 39 x + D 25 e) else w x (D 22 e)) ∧ (D 20 e = 26 → w x e = w x (D 22 e)) ∧ (D 20 e = 7 → w x e = ior (wr (1 - w x (D 22 e))) (w x (D 23 (D 22 e)))) ∧ (8 ≤ D 20 e → D 20 e ≤ 21 → w x e = jnF (D 20 e) (w x (D 22 e)) (w x (D 23 (D 22 e))))
/-- types of the parts -/
def TyQ (D : St) (τ : Int → Int) (v0 e : Int) (ms : List Int) : Prop := (D 20 e = 0 → τ e = 0) ∧ (D 20 e = 2 → τ e = D 14 (v0 + D 21 e)) ∧ (D 20 e = 3 → τ e = D 14 (D 4 (D 21 e) + D 5 (D 21 e)) ∧ ∀ (i : Nat) y, ms[i]? = some y → τ y = D 14 (D 4 (D 21 e) + i)) ∧ (D 20 e = 4 → τ (D 23 (D 22 e)) = τ e ∧ τ (D 23 (D 23 (D 22 e))) = τ e) ∧ (D 20 e = 5 ∨ D 20 e = 6 → τ (D 22 e) = τ e ∧ τ (D 23 (D 22 e)) = τ e) ∧ (7 ≤ D 20 e → D 20 e ≤ 10 → τ (D 22 e) = 1 ∧ τ (D 23 (D 22 e)) = 1) ∧ (17 ≤ D 20 e → D 20 e ≤ 22 → τ e = 0) ∧ (D 20 e = 23 → τ (D 22 e) = 1) ∧ (24 ≤ D 20 e → τ (D 22 e) = τ e)
theorem jn_7 {a b : Int} (ha : Bl a) (hb : Bl b) : jnF 7 a b = ior (wr (1 - a)) b ∧ Bl (jnF 7 a b) := by
  rcases ha with ha | ha <;> rcases hb with hb | hb <;> subst ha <;> subst hb <;> refine ⟨by decide, ?_⟩ <;> unfold Bl <;> decide
theorem jn_b {k a b : Int} (h1 : 8 ≤ k) (h2 : k ≤ 16) (hab : k ≤ 10 → Bl a ∧ Bl b) : Bl (jnF k a b) := by
  have z : ∀ (c : Prop) [Decidable c], Bl (if c then (0 : Int) else 1) := fun c _ => by
    by_cases q : c
    · rw [if_pos q]; exact Or.inl rfl
    · rw [if_neg q]; exact Or.inr rfl
  have t : k = 8 ∨ k = 9 ∨ k = 10 ∨ k = 11 ∨ k = 12 ∨ k = 13 ∨ k = 14 ∨ k = 15 ∨ k = 16 := by omega
  rcases t with t | t | t | t | t | t | t | t | t
  · obtain ⟨ha, hb⟩ := hab (by omega)
    clear hab
    subst t
    rcases ha with ha | ha <;> rcases hb with hb | hb <;> subst ha <;> subst hb <;> unfold Bl <;> decide
  · obtain ⟨ha, hb⟩ := hab (by omega)
    clear hab
    subst t
    rcases ha with ha | ha <;> rcases hb with hb | hb <;> subst ha <;> subst hb <;> unfold Bl <;> decide
  · obtain ⟨ha, hb⟩ := hab (by omega)
    clear hab
    subst t
    rcases ha with ha | ha <;> rcases hb with hb | hb <;> subst ha <;> subst hb <;> unfold Bl <;> decide
  · subst t; exact z _
  · subst t; exact z _
  · subst t; exact z _
  · subst t; exact z _
  · subst t; exact z _
  · subst t; exact z _
set_option maxHeartbeats 1000000 in
theorem wk_ok {D δ : St} {u M τ : Int → Int} {w : Int → Int → Int} {x e v0 : Int} {ms : List Int} (rk : ∀ j k, 2 ≤ j → j ≤ 43 → δ j k = D j k) (hM : ∀ k, δ 52 k = M k) (k26 : 0 ≤ D 20 e ∧ D 20 e ≤ 26) (ch : Ch (D 23) (D 22 e) ms) (ar : aryK (D 20 e) ms.length) (hw : WkE D u w M x e) (ty : TyQ D τ v0 e ms) (tr : D 20 e = 1 → Bl (D 21 e)) (mb : τ e = 1 → D 20 e = 6 ∨ D 20 e = 24 ∨ D 20 e = 25 → Bl (M (D 39 x + D 25 e))) (hv : D 20 e = 2 → δ 51 (D 38 x + D 21 e) = u (D 38 x + D 21 e) ∧ (τ e = 1 → Bl (u (D 38 x + D 21 e)))) (ho : D 20 e = 3 → δ 51 (outV D x e 0) = u (outV D x e 0) ∧ (τ e = 1 → Bl (u (outV D x e 0)))) (hk : ∀ (j : Nat) y, ms[j]? = some y → ¬ (D 20 e = 24 ∨ D 20 e = 3 ∨ D 20 e = 6 ∧ (j : Int) = 1) → D 20 e ≠ 25 → δ 54 y = w x y ∧ (τ y = 1 → Bl (w x y))) (h25 : D 20 e = 25 → (prM δ x (D 29 (D 22 e)) ≠ 0 ↔ u (D 38 x + D 29 (D 22 e) / 2) = D 29 (D 22 e) % 2) ∧ (prM δ x (D 29 (D 22 e)) ≠ 0 → δ 54 (D 22 e) = w x (D 22 e) ∧ (τ (D 22 e) = 1 → Bl (w x (D 22 e))))) : wkV δ x e = w x e ∧ (τ e = 1 → Bl (w x e)) := by
  obtain ⟨w0, w2, w3, w4, w5, w6, w22, w23, w24, w25, w26, w7, w8⟩ := hw
  obtain ⟨t0, t2, t3, t4, t5, t7, t17, t23, t24⟩ := ty
  obtain ⟨c0, c1, c2⟩ := ch_kd ch
  have r20 := rk 20 e (by omega) (by omega)
  have ou : outV δ x e 0 = outV D x e 0 := by unfold outV; rw [rk 21 e (by omega) (by omega), rk 25 e (by omega) (by omega), rk 40 x (by omega) (by omega), rk 41 _ (by omega) (by omega), rk 38 _ (by omega) (by omega), rk 5 _ (by omega) (by omega)]
  unfold wkV
  rw [ou, r20, rk 21 e (by omega) (by omega), rk 22 e (by omega) (by omega), rk 23 _ (by omega) (by omega), rk 23 _ (by omega) (by omega), rk 25 e (by omega) (by omega), rk 29 _ (by omega) (by omega), rk 38 x (by omega) (by omega), rk 39 x (by omega) (by omega), hM, hM]
  generalize hK : D 20 e = K at *
  by_cases q : K = 0
  · rw [if_pos q]; exact ⟨(w0 (Or.inl q)).symm, fun z => by have := t0 q; omega⟩
  rw [if_neg q]
  by_cases q1 : K = 1
  · rw [if_pos q1]; exact ⟨(w0 (Or.inr q1)).symm, fun z => by rw [w0 (Or.inr q1)]; exact tr q1⟩
  rw [if_neg q1]
  by_cases q2 : K = 2
  · rw [if_pos q2, w2 q2]; exact hv q2
  rw [if_neg q2]
  by_cases q3 : K = 3
  · rw [if_pos q3, w3 q3]; exact ho q3
  rw [if_neg q3]
  have l1 : 1 ≤ ms.length := by
    by_cases z : K = 4
    · rw [ar.2.2.1 z]; omega
    · by_cases z2 : K ≤ 21
      · rw [ar.2.2.2.1 (by omega)]; omega
      · rw [ar.2.2.2.2 (by omega)]; omega
  have m0 := c0 l1
  have kA := fun n1 n2 => hk 0 _ m0 n1 n2
  by_cases q4 : K = 4
  · have l3 := ar.2.2.1 q4
    have a := kA (by omega) (by omega)
    have b := hk 1 _ (c1 (by omega)) (by omega) (by omega)
    have c := hk 2 _ (c2 (by omega)) (by omega) (by omega)
    have tt := t4 q4
    rw [if_pos q4, w4 q4, a.1, b.1, c.1]
    refine ⟨rfl, fun z => ?_⟩
    by_cases y : w x (D 22 e) ≠ 1
    · rw [if_pos y]; exact c.2 (by omega)
    · rw [if_neg y]; exact b.2 (by omega)
  rw [if_neg q4]
  by_cases q5 : K = 5
  · have l3 := ar.2.2.2.1 (by omega)
    have a := kA (by omega) (by omega)
    have b := hk 1 _ (c1 (by omega)) (by omega) (by omega)
    have tt := t5 (Or.inl q5)
    rw [if_pos q5, w5 q5, a.1, b.1]
    refine ⟨rfl, fun z => ?_⟩
    by_cases y : M (D 39 x + D 25 e) ≠ 1
    · rw [if_pos y]; exact a.2 (by omega)
    · rw [if_neg y]; exact b.2 (by omega)
  rw [if_neg q5]
  by_cases q6 : K = 6
  · have a := kA (by omega) (by omega)
    have tt := t5 (Or.inr q6)
    rw [if_pos q6, w6 q6, a.1]
    refine ⟨rfl, fun z => ?_⟩
    by_cases y : M (D 39 x + D 25 e + 1) ≠ 1
    · rw [if_pos y]; exact a.2 (by omega)
    · rw [if_neg y]; exact mb z (Or.inl q6)
  rw [if_neg q6]
  by_cases q22 : K = 22
  · have a := kA (by omega) (by omega)
    rw [if_pos q22, w22 q22, a.1]
    exact ⟨rfl, fun z => by have := t17 (by omega) (by omega); omega⟩
  rw [if_neg q22]
  by_cases q23 : K = 23
  · have a := kA (by omega) (by omega)
    rw [if_pos q23, w23 q23, a.1]
    refine ⟨rfl, fun _ => ?_⟩
    rcases a.2 (t23 q23) with y | y <;> rw [y] <;> unfold Bl <;> decide
  rw [if_neg q23]
  by_cases q24 : K = 24
  · rw [if_pos q24, w24 q24]
    exact ⟨rfl, fun z => mb z (Or.inr (Or.inl q24))⟩
  rw [if_neg q24]
  by_cases q25 : K = 25
  · have a := h25 q25
    have tt := t24 (by omega)
    rw [if_pos q25, w25 q25]
    by_cases y : prM δ x (D 29 (D 22 e)) = 0
    · rw [if_pos y, if_pos (fun z => a.1.2 z y)]
      exact ⟨rfl, fun z => mb z (Or.inr (Or.inr q25))⟩
    · have b := a.2 y
      rw [if_neg y, if_neg (fun z => z (a.1.1 y)), b.1]
      exact ⟨rfl, fun z => b.2 (by omega)⟩
  rw [if_neg q25]
  by_cases q26 : K = 26
  · have a := kA (by omega) (by omega)
    have tt := t24 (by omega)
    rw [if_pos q26, w26 q26, a.1]
    exact ⟨rfl, fun z => a.2 (by omega)⟩
  rw [if_neg q26]
  have l3 := ar.2.2.2.1 (by omega)
  have a := kA (by omega) (by omega)
  have b := hk 1 _ (c1 (by omega)) (by omega) (by omega)
  rw [a.1, b.1]
  by_cases q7 : K = 7
  · have tt := t7 (by omega) (by omega)
    have j := jn_7 (a.2 tt.1) (b.2 tt.2)
    rw [q7, w7 q7, j.1]
    exact ⟨rfl, fun _ => by rw [← j.1]; exact j.2⟩
  · rw [w8 (by omega) (by omega)]
    refine ⟨rfl, fun z => ?_⟩
    by_cases y : K ≤ 16
    · exact jn_b (by omega) y (fun y2 => ⟨a.2 (t7 (by omega) (by omega)).1, b.2 (t7 (by omega) (by omega)).2⟩)
    · have := t17 (by omega) (by omega); omega
