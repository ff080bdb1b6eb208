/-! the law is kept: feed -/
theorem pure_go {L : Nat} {xs : Nat → Int32} (hL : L ≤ 3072) : ∀ (n : Nat) (γ δ : St) (w i c : Int), ClsI c γ → MoI c δ → γ 0 10 = δ 0 1 → i = 6 * c → (L : Int) - i < 6 * n → 0 < n → wp (f_law xs L n γ δ w i) (fun z => z = 1) := by
  intro n
  induction n with
  | zero => intro γ δ w i c h1 h2 h3 h4 h5 h6; exact absurd h6 (by omega)
  | succ n ih =>
    intro γ δ w i c h1 h2 h3 h4 h5 h6
    have c0 := h1.1
    unfold f_law
    refine wp_chk (by omega) (wp_ite (fun _ => wp_some rfl) (fun q => ?_))
    have hc : c < 512 := by omega
    have nx : ∀ γ' δ' w', ClsI (c + 1) γ' → MoI (c + 1) δ' → γ' 0 10 = δ' 0 1 → wp (chk (i32 (i + 6)) (f_law xs L n γ' δ' w' (i + 6))) (fun z => z = 1) := fun γ' δ' w' k1 k2 k3 => wp_chk (by omega) (ih γ' δ' w' (i + 6) (c + 1) k1 k2 k3 (by omega) (by omega) (by omega))
    have nc : ∀ {γ' : St} {r w' : Int} {z : Int × St}, CsO c γ r γ' w' → McO c δ z → wp (chk (i32 (i + 6)) (f_law xs L n γ' z.2 w' (i + 6))) (fun z => z = 1) := fun a b => nx _ _ _ a.1 b.1 (by rw [a.2, b.2]; exact h3)
    refine wp_chk (by omega) (wp_ite (fun _ => ?_) (fun _ => ?_))
    · refine wp_chk (by omega) (wp_chk (by omega) (wp_chk (by omega) (wp_chk (by omega) (wp_chk (by omega) (wp_chk (by omega) (wp_chk (by omega) (wp_chk (by omega) (wp_chk (by omega) (wp_chk (by omega) (wp_bw (l_feed h1 hc) (fun r γ' w' a => ?_)))))))))))
      refine wp_chk (by omega) (wp_chk (by omega) (wp_chk (by omega) (wp_chk (by omega) (wp_chk (by omega) (wp_chk (by omega) (wp_chk (by omega) (wp_chk (by omega) (wp_chk (by omega) (wp_chk (by omega) (wp_bnd (m_feed h2 hc) (fun b δ' m => ?_)))))))))))
      obtain ⟨a1, a2, a3, a4⟩ := a
      have m1 : MoI (c + 1) δ' := m.1
      have m2 : b = δ 0 1 + 20 := m.2.1
      have m3 : δ' 0 1 = δ 0 1 + 20 := m.2.2.1
      have m4 : δ' 0 2 = 0 := m.2.2.2
      refine wp_bs (show f_M_thrown δ' = some (δ' 0 2, δ') from rfl) ?_
      rw [if_pos (show δ' 0 2 = r by omega), if_neg (show ¬ r ≠ 0 by omega), if_pos (show iL w' = iL b by rw [a4, m2, h3])]
      exact nx γ' δ' w' a1 m1 (by omega)
    refine wp_ite (fun _ => ?_) (fun _ => ?_)
    · refine wp_chk (by omega) (wp_chk (by omega) ?_)
      rcases l_end (a0 := sv xs (i + 1)) (w := w) h1 hc with ⟨q1, q2, k⟩ | ⟨q1, k⟩
      · rcases m_end (a0 := sv xs (i + 1)) h2 hc with ⟨q3, q4, m⟩ | ⟨q3, m⟩
        · refine wp_bw k (fun r γ' w' a => wp_chk (by omega) (wp_chk (by omega) (wp_bnd m (fun b δ' m => ?_))))
          obtain ⟨a1, a2, a3, a4⟩ := a
          have m1 : MoI (c + 1) δ' := m.1
          have m2 : b = sv xs (i + 1) := m.2.1
          have m3 : δ' 0 1 = sv xs (i + 1) := m.2.2.1
          have m4 : δ' 0 2 = 0 := m.2.2.2
          exact nx γ' δ' w' a1 m1 (by omega)
        · exfalso; omega
      · rcases m_end (a0 := sv xs (i + 1)) h2 hc with ⟨q3, q4, m⟩ | ⟨q3, m⟩
        · exfalso; omega
        · refine wp_bw k (fun r γ' w' a => wp_chk (by omega) (wp_chk (by omega) (wp_bnd m (fun b δ' m => ?_))))
          obtain ⟨a1, a2, a3⟩ := a
          have m1 : MoI (c + 1) δ' := m.1
          have m3 : δ' 0 1 = δ 0 1 := m.2.1
          have m4 : δ' 0 2 = 1 := m.2.2
          exact nx γ' δ' w' a1 m1 (by omega)
    refine wp_ite (fun _ => ?_) (fun _ => ?_)
    · exact wp_bnd (k_read h1 hc) (fun r γ' a => wp_bnd (m_read h2 hc) (fun b δ' m => nx γ' δ' w a.1 m.1 (a.2.trans m.2.symm)))
    refine wp_ite (fun _ => ?_) (fun _ => ?_)
    · exact wp_chk (by omega) (wp_chk (by omega) (wp_bnd (k_fault h1 hc) (fun r γ' a => wp_chk (by omega) (wp_chk (by omega) (wp_bnd (m_fault h2 hc) (fun b δ' m => nx γ' δ' w a.1 m.1 (by rw [show γ' = γ from a.2.1, h3]; exact m.2.symm)))))))
    refine wp_ite (fun _ => ?_) (fun _ => ?_)
    · exact wp_chk (by omega) (wp_chk (by omega) (wp_chk (by omega) (wp_chk (by omega) (wp_bw (l_input h1 hc) (fun r γ' w' a => wp_chk (by omega) (wp_chk (by omega) (wp_chk (by omega) (wp_chk (by omega) (wp_bnd (m_input h2 hc) (fun b δ' m => nc a m))))))))))
    refine wp_ite (fun _ => ?_) (fun _ => ?_)
    · exact wp_chk (by omega) (wp_chk (by omega) (wp_bw (l_tick h1 hc) (fun r γ' w' a => wp_chk (by omega) (wp_chk (by omega) (wp_bnd (m_tick h2 hc) (fun b δ' m => nc a m))))))
    refine wp_ite (fun _ => ?_) (fun _ => ?_)
    · exact wp_chk (by omega) (wp_chk (by omega) (wp_bw (l_value h1 hc) (fun r γ' w' a => wp_chk (by omega) (wp_chk (by omega) (wp_bnd (m_value h2 hc) (fun b δ' m => nc a m))))))
    refine wp_ite (fun _ => ?_) (fun _ => ?_)
    · exact wp_chk (by omega) (wp_chk (by omega) (wp_chk (by omega) (wp_chk (by omega) (wp_bw (l_about h1 hc) (fun r γ' w' a => wp_chk (by omega) (wp_chk (by omega) (wp_chk (by omega) (wp_chk (by omega) (wp_bnd (m_about h2 hc) (fun b δ' m => nc a m))))))))))
    refine wp_ite (fun _ => ?_) (fun _ => ?_)
    · exact wp_chk (by omega) (wp_chk (by omega) (wp_chk (by omega) (wp_chk (by omega) (wp_bw (l_causes h1 hc) (fun r γ' w' a => wp_chk (by omega) (wp_chk (by omega) (wp_chk (by omega) (wp_chk (by omega) (wp_bnd (m_causes h2 hc) (fun b δ' m => nc a m))))))))))
    refine wp_ite (fun _ => ?_) (fun _ => ?_)
    · exact wp_bw (l_restart h1 hc) (fun r γ' w' a => wp_bnd (m_restart h2 hc) (fun b δ' m => nc a m))
    refine wp_ite (fun _ => ?_) (fun _ => ?_)
    · exact wp_bw (l_keep h1 hc) (fun r γ' w' a => wp_bnd (m_keep h2 hc) (fun b δ' m => nc a m))
    refine wp_ite (fun _ => ?_) (fun _ => ?_)
    · exact wp_bw (l_back h1 hc) (fun r γ' w' a => wp_bnd (m_back h2 hc) (fun b δ' m => nc a m))
    refine wp_ite (fun _ => ?_) (fun _ => ?_)
    · exact wp_chk (by omega) (wp_chk (by omega) (wp_bnd (k_count h1 hc) (fun r γ' a => wp_chk (by omega) (wp_chk (by omega) (wp_bnd (m_count h2 hc) (fun b δ' m => nx γ' δ' w a.1 m.1 (by rw [show γ' = γ from a.2, h3]; exact m.2.symm)))))))
    · exact nx γ δ w (h1.up hc) (h2.up hc) h3
theorem pure (L : Nat) (xs : Nat → Int32) (hL : L ≤ 3072) : f_law xs L 600 γ0 δ0 0 0 = some 1 := by
  have e1 : γ0 0 10 = 0 := rfl
  have e2 : δ0 0 1 = 0 := rfl
  exact some_wp (pure_go hL 600 γ0 δ0 0 0 0 cls0 mo0 (by omega) (by omega) (by omega) (by omega))
theorem i_vc : Claimed_1_1 ∧ Claimed_1_2 := whole_of_law pure
