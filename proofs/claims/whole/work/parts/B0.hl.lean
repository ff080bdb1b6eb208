/-! the law's helpers: what they answer -/
def wW (o : Option (Int × St × Int)) (Q : Int → St → Int → Prop) : Prop := ∃ r γ w, o = some (r, γ, w) ∧ Q r γ w
theorem wp_bw {o : Option (Int × St × Int)} {k : Int → St → Int → Option Int} {Q : Int → St → Int → Prop} {R : Int → Prop} (h : wW o Q) (kk : ∀ r γ w, Q r γ w → wp (k r γ w) R) : wp (bndW o k) R := by
  obtain ⟨r, γ, w, e, q⟩ := h
  rw [e]
  exact kk r γ w q
theorem Mx.w {f : Option (Int × St)} {g : Option (Nat × St)} {γ : St} {Q : Int × St → Prop} {E : Nat → Prop} {ke : Int → St → Option (Int × St × Int)} {he : Nat → Option (Int × St × Int)} {R : Int → St → Int → Prop} (m : Mx f g γ Q E) (h1 : ∀ r γ', Q (r, γ') → wW (ke r γ') R) (h2 : ∀ e, E e → wW (he e) R) : wW (hcl f g ke he) R := by
  rcases m with m | ⟨e1, e, e2, q⟩
  · match f, m with
    | some z, m => exact h1 z.1 z.2 m
  · rw [e1, e2]; exact h2 e q
/-- the class goes on, its tape as long as before -/
def CsO (c : Int) (γ : St) (_ : Int) (γ' : St) (_ : Int) : Prop := ClsI (c + 1) γ' ∧ γ' 0 10 = γ 0 10
section HL
variable {c : Int} {γ : St} {w a0 a1 a2 a3 a4 : Int}
theorem l_feed (h : ClsI c γ) (hc : c < 512) : wW (e_L_feed γ w a0 a1 a2 a3 a4) (fun r γ' w' => ClsI (c + 1) γ' ∧ r = 0 ∧ γ' 0 10 = γ 0 10 + 20 ∧ w' = γ 0 10 + 20) := by
  have k := k_feed (a0 := a0) (a1 := a1) (a2 := a2) (a3 := a3) (a4 := a4) h hc
  exact Mx.w (γ := γ) (E := fun _ => False) (Or.inl k) (fun r γ' q => ⟨0, γ', r, rfl, q.1, rfl, q.2.2, q.2.1⟩) (fun e q => q.elim)
theorem l_end (h : ClsI c γ) (hc : c < 512) : (0 ≤ a0 ∧ a0 ≤ γ 0 10 ∧ wW (e_L_end γ w a0) (fun r γ' w' => ClsI (c + 1) γ' ∧ r = 0 ∧ γ' 0 10 = a0 ∧ w' = a0)) ∨ ((a0 < 0 ∨ γ 0 10 < a0) ∧ wW (e_L_end γ w a0) (fun r γ' _ => ClsI (c + 1) γ' ∧ r = 1 ∧ γ' 0 10 = γ 0 10)) := by
  rcases k_end (a0 := a0) h hc with ⟨q1, q2, k⟩ | ⟨q1, e1, e2⟩
  · exact Or.inl ⟨q1, q2, Mx.w (γ := γ) (E := fun _ => False) (Or.inl k) (fun r γ' q => ⟨0, γ', r, rfl, q.1, rfl, q.2.2, q.2.1⟩) (fun e q => q.elim)⟩
  · refine Or.inr ⟨q1, 1, γ, w, ?_, h.up hc, rfl, rfl⟩
    unfold e_L_end
    rw [e1, e2]
    rfl
theorem l_input (h : ClsI c γ) (hc : c < 512) : wW (e_L_input γ w a0 a1) (CsO c γ) := Mx.w (k_input h hc) (fun r γ' q => ⟨0, γ', r, rfl, q⟩) (fun e q => by
  rcases q with q | q <;> subst q
  · exact ⟨1, γ, w, rfl, h.up hc, rfl⟩
  · exact ⟨2, γ, w, rfl, h.up hc, rfl⟩)
theorem l_tick (h : ClsI c γ) (hc : c < 512) : wW (e_L_tick γ w a0) (CsO c γ) := Mx.w (k_tick h hc) (fun r γ' q => ⟨0, γ', r, rfl, q⟩) (fun e q => by
  rcases q with q | q <;> subst q
  · exact ⟨1, γ, w, rfl, h.up hc, rfl⟩
  · exact ⟨2, γ, w, rfl, h.up hc, rfl⟩)
theorem l_value (h : ClsI c γ) (hc : c < 512) : wW (e_L_value γ w a0) (CsO c γ) := Mx.w (k_value h hc) (fun r γ' q => ⟨0, γ', r, rfl, q.1, by rw [show γ' = γ from q.2.1]⟩) (fun e q => by
  rcases q with q | q <;> subst q
  · exact ⟨1, γ, w, rfl, h.up hc, rfl⟩
  · exact ⟨2, γ, w, rfl, h.up hc, rfl⟩)
theorem l_about (h : ClsI c γ) (hc : c < 512) : wW (e_L_about γ w a0 a1) (CsO c γ) := Mx.w (k_about h hc) (fun r γ' q => ⟨0, γ', r, rfl, q.1, by rw [show γ' = γ from q.2]⟩) (fun e q => by
  rcases q with q | q <;> subst q
  · exact ⟨1, γ, w, rfl, h.up hc, rfl⟩
  · exact ⟨2, γ, w, rfl, h.up hc, rfl⟩)
theorem l_causes (h : ClsI c γ) (hc : c < 512) : wW (e_L_causes γ w a0 a1) (CsO c γ) := Mx.w (k_causes h hc) (fun r γ' q => by
  have q2 : r = 0 ∨ r = 1 := q.2.1
  rcases q2 with e | e <;> subst e
  · exact ⟨0, γ', 0, rfl, q.1, q.2.2⟩
  · exact ⟨0, γ', 1, rfl, q.1, q.2.2⟩) (fun e q => by
  subst q
  exact ⟨1, γ, w, rfl, h.up hc, rfl⟩)
theorem l_restart (h : ClsI c γ) (hc : c < 512) : wW (e_L_restart γ w) (CsO c γ) := Mx.w (k_restart h hc) (fun r γ' q => ⟨0, γ', r, rfl, q.1, q.2.2⟩) (fun e q => by
  subst q
  exact ⟨1, γ, w, rfl, h.up hc, rfl⟩)
theorem l_keep (h : ClsI c γ) (hc : c < 512) : wW (e_L_keep γ w) (CsO c γ) := Mx.w (k_keep h hc) (fun r γ' q => ⟨0, γ', w, rfl, q⟩) (fun e q => by
  subst q
  exact ⟨1, γ, w, rfl, h.up hc, rfl⟩)
theorem l_back (h : ClsI c γ) (hc : c < 512) : wW (e_L_back γ w) (CsO c γ) := Mx.w (k_back h hc) (fun r γ' q => ⟨0, γ', r, rfl, q.1, q.2.2⟩) (fun e q => by
  subst q
  exact ⟨1, γ, w, rfl, h.up hc, rfl⟩)
end HL
