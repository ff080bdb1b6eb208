/-! the reference's checks: look at a part that is no call -/
def LoR (e : Int) (γ : St) (z : Res) : Prop := (∃ k, z = (.inl (k, γ 0 42), γ)) ∨ ∃ v, (v = 0 ∨ v = 1) ∧ z = (.inr 0, setA γ 28 e v)
theorem wp_type {γ : St} {x : Int} {k : Int → St → Option Res} {Q : Res → Prop} (t : Q (.inl (4, γ 0 42), γ)) (y : wp (k 0 γ) Q) : wp (bndT (f_M_type γ x) k) Q := by
  unfold f_M_type
  by_cases q : x ≠ 0
  · rw [if_pos q]; exact y
  · rw [if_neg q]; exact t
section LO
variable {γ : St} {e a x : Int} (he : 0 ≤ e ∧ e < 66000) (ha : 0 ≤ a ∧ a < 66000) (hb : ∀ v, γ 28 v = 0 ∨ γ 28 v = 1)
theorem lo_v {v : Int} (he : 0 ≤ e ∧ e < 66000) (hv : v = 0 ∨ v = 1) : wp (chk (inb e 66000) (ap (setA γ 28 e v) fun γ' => some ((Sum.inr 0 : (Int × Int) ⊕ Int), γ'))) (LoR e γ) := wp_chk he (wp_sub (wp_some (Or.inr ⟨v, hv, rfl⟩)))
theorem lo_400 (he : 0 ≤ e ∧ e < 66000) (ha : 0 ≤ a ∧ a < 66000) (hb : ∀ v, γ 28 v = 0 ∨ γ 28 v = 1) : wp (f_M_look_b400 γ e a x) (LoR e γ) := by
  unfold f_M_look_b400
  exact wp_type (Or.inl ⟨4, rfl⟩) (wp_chk ha (wp_chk (hb a) (lo_v he (hb a))))
theorem lo_442 (he : 0 ≤ e ∧ e < 66000) (ha : 0 ≤ a ∧ a < 66000) (hb : ∀ v, γ 28 v = 0 ∨ γ 28 v = 1) : wp (f_M_look_b442 γ e a x) (LoR e γ) := by
  unfold f_M_look_b442
  exact wp_type (Or.inl ⟨4, rfl⟩) (wp_chk ha (wp_chk (hb a) (lo_v he (hb a))))
theorem lo_487 (he : 0 ≤ e ∧ e < 66000) : wp (f_M_look_b487 γ e x) (LoR e γ) := by
  unfold f_M_look_b487
  exact wp_type (Or.inl ⟨4, rfl⟩) (lo_v he (Or.inr rfl))
theorem lo_523 (he : 0 ≤ e ∧ e < 66000) : wp (f_M_look_b523 γ e x) (LoR e γ) := by
  unfold f_M_look_b523
  exact wp_type (Or.inl ⟨4, rfl⟩) (lo_v he (Or.inr rfl))
theorem lo_562 (he : 0 ≤ e ∧ e < 66000) : wp (f_M_look_b562 γ e x) (LoR e γ) := by
  unfold f_M_look_b562
  exact wp_type (Or.inl ⟨4, rfl⟩) (lo_v he (Or.inr rfl))
theorem lo_601 (he : 0 ≤ e ∧ e < 66000) : wp (f_M_look_b601 γ e x) (LoR e γ) := by
  unfold f_M_look_b601
  exact wp_type (Or.inl ⟨4, rfl⟩) (lo_v he (Or.inl rfl))
theorem lo_630 (he : 0 ≤ e ∧ e < 66000) : wp (f_M_look_b630 γ e x) (LoR e γ) := by
  unfold f_M_look_b630
  exact wp_type (Or.inl ⟨4, rfl⟩) (lo_v he (Or.inl rfl))
end LO
set_option maxHeartbeats 1000000 in
theorem w_look_b54 {γ : St} {e o n a b : Int} (he : 0 ≤ e ∧ e < 66000) (hb : ∀ v, γ 28 v = 0 ∨ γ 28 v = 1) (h14 : ∀ v, γ 14 v = 0 ∨ γ 14 v = 1) (hs : 0 ≤ γ 20 e ∧ γ 20 e ≤ 26) (h2 : γ 20 e = 2 → (0 ≤ γ 0 18 ∧ γ 0 18 < 61) ∧ 0 ≤ γ 4 (γ 0 18) + γ 21 e ∧ γ 4 (γ 0 18) + γ 21 e < 6000) (h3 : γ 20 e ≠ 3) (hA : 4 ≤ γ 20 e → 0 ≤ a ∧ a < 66000) (hB : 4 ≤ γ 20 e → γ 20 e ≤ 21 → 0 ≤ b ∧ b < 66000) (hC : γ 20 e = 4 → 0 ≤ γ 23 b ∧ γ 23 b < 66000) : wp (f_M_look_b54 γ e o n a b) (LoR e γ) := by
  unfold f_M_look_b54 f_M_look_b399 f_M_look_b486 f_M_look_b561 f_M_look_b600
  refine wp_chk he ?_
  rw [if_pos h3]
  refine wp_chk he ?_
  refine wp_ite (fun q => lo_v he (Or.inl rfl)) (fun q0 => ?_)
  refine wp_ite (fun q => lo_v he (Or.inr rfl)) (fun q1 => ?_)
  refine wp_ite (fun q => ?_) (fun q2 => ?_)
  · have h := h2 q
    exact wp_chk h.1 (wp_chk he (wp_chk (by omega) (wp_chk h.2 (wp_chk (h14 _) (lo_v he (h14 _))))))
  have ha := hA (by omega)
  refine wp_ite (fun q => ?_) (fun q4 => ?_)
  · have hb' := hB (by omega) (by omega)
    exact wp_chk ha (wp_ite (fun _ => lo_400 he hb' hb) (fun _ => wp_chk hb' (wp_chk hb' (wp_chk (hC q) (wp_ite (fun _ => lo_400 he hb' hb) (fun _ => lo_400 he hb' hb))))))
  refine wp_ite (fun q => wp_chk ha (wp_chk (hB (by omega) (by omega)) (wp_ite (fun _ => lo_442 he ha hb) (fun _ => lo_442 he ha hb)))) (fun q5 => ?_)
  refine wp_ite (fun q => wp_chk ha (wp_chk (hB (by omega) (by omega)) (wp_ite (fun _ => lo_442 he ha hb) (fun _ => lo_442 he ha hb)))) (fun q6 => ?_)
  refine wp_ite (fun q => wp_chk ha (wp_ite (fun _ => lo_487 he) (fun _ => wp_chk (hB (by omega) (by omega)) (wp_ite (fun _ => lo_487 he) (fun _ => lo_487 he))))) (fun q7 => ?_)
  refine wp_ite (fun q => wp_chk ha (wp_ite (fun _ => lo_487 he) (fun _ => wp_chk (hB (by omega) (by omega)) (wp_ite (fun _ => lo_487 he) (fun _ => lo_487 he))))) (fun q8 => ?_)
  refine wp_ite (fun q => wp_chk ha (wp_ite (fun _ => lo_487 he) (fun _ => wp_chk (hB (by omega) (by omega)) (wp_ite (fun _ => lo_487 he) (fun _ => lo_487 he))))) (fun q9 => ?_)
  refine wp_ite (fun q => wp_chk ha (wp_ite (fun _ => lo_487 he) (fun _ => wp_chk (hB (by omega) (by omega)) (wp_ite (fun _ => lo_487 he) (fun _ => lo_487 he))))) (fun q10 => ?_)
  refine wp_ite (fun q => wp_chk ha (wp_chk (hB (by omega) (by omega)) (wp_ite (fun _ => lo_523 he) (fun _ => lo_523 he)))) (fun q11 => ?_)
  refine wp_ite (fun q => wp_chk ha (wp_chk (hB (by omega) (by omega)) (wp_ite (fun _ => lo_523 he) (fun _ => lo_523 he)))) (fun q12 => ?_)
  refine wp_ite (fun q => wp_chk ha (wp_ite (fun _ => lo_562 he) (fun _ => wp_chk (hB (by omega) (by omega)) (wp_ite (fun _ => lo_562 he) (fun _ => lo_562 he))))) (fun q13 => ?_)
  refine wp_ite (fun q => wp_chk ha (wp_ite (fun _ => lo_562 he) (fun _ => wp_chk (hB (by omega) (by omega)) (wp_ite (fun _ => lo_562 he) (fun _ => lo_562 he))))) (fun q14 => ?_)
  refine wp_ite (fun q => wp_chk ha (wp_ite (fun _ => lo_562 he) (fun _ => wp_chk (hB (by omega) (by omega)) (wp_ite (fun _ => lo_562 he) (fun _ => lo_562 he))))) (fun q15 => ?_)
  refine wp_ite (fun q => wp_chk ha (wp_ite (fun _ => lo_562 he) (fun _ => wp_chk (hB (by omega) (by omega)) (wp_ite (fun _ => lo_562 he) (fun _ => lo_562 he))))) (fun q16 => ?_)
  refine wp_ite (fun q => wp_chk ha (wp_ite (fun _ => lo_601 he) (fun _ => wp_chk (hB (by omega) (by omega)) (wp_ite (fun _ => lo_601 he) (fun _ => lo_601 he))))) (fun q17 => ?_)
  refine wp_ite (fun q => wp_chk ha (wp_ite (fun _ => lo_601 he) (fun _ => wp_chk (hB (by omega) (by omega)) (wp_ite (fun _ => lo_601 he) (fun _ => lo_601 he))))) (fun q18 => ?_)
  refine wp_ite (fun q => wp_chk ha (wp_ite (fun _ => lo_601 he) (fun _ => wp_chk (hB (by omega) (by omega)) (wp_ite (fun _ => lo_601 he) (fun _ => lo_601 he))))) (fun q19 => ?_)
  refine wp_ite (fun q => wp_chk ha (wp_ite (fun _ => lo_601 he) (fun _ => wp_chk (hB (by omega) (by omega)) (wp_ite (fun _ => lo_601 he) (fun _ => lo_601 he))))) (fun q20 => ?_)
  refine wp_ite (fun q => wp_chk ha (wp_ite (fun _ => lo_601 he) (fun _ => wp_chk (hB (by omega) (by omega)) (wp_ite (fun _ => lo_601 he) (fun _ => lo_601 he))))) (fun q21 => ?_)
  refine wp_ite (fun q => wp_chk ha (wp_ite (fun _ => lo_630 he) (fun _ => lo_630 he))) (fun q22 => ?_)
  refine wp_ite (fun q => wp_chk ha (wp_type (Or.inl ⟨4, rfl⟩) (lo_v he (Or.inr rfl)))) (fun q23 => ?_)
  exact wp_chk ha (wp_chk (hb a) (lo_v he (hb a)))
