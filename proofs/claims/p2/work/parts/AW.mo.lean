/-! the reference: what holds between its calls; all calls but read -/
def BoZ (γ : St) : Prop := (∀ u, γ 46 u = 0 ∨ γ 46 u = 1) ∧ (∀ u, γ 49 u = 0 ∨ γ 49 u = 1) ∧ (∀ u, γ 55 u = 0 ∨ γ 55 u = 1) ∧ ∀ u, γ 58 u = 0 ∨ γ 58 u = 1
/-- there is a program -/
def HsI (γ : St) : Prop := γ 0 49 = γ 0 18 - 1 ∧ LkM γ ∧ (∀ i, 0 ≤ i → i < γ 0 51 → 0 ≤ γ 48 i ∧ γ 48 i < γ 0 51) ∧ CgI γ
def MoI (c : Int) (γ : St) : Prop := (0 ≤ c ∧ c ≤ 512) ∧ (0 ≤ γ 0 1 ∧ γ 0 1 ≤ 20 * c) ∧ (∀ k, γ 1 k ≤ 127) ∧ Bo γ ∧ BoZ γ ∧ (0 ≤ γ 0 72 ∧ γ 0 72 ≤ 1000 * c ∧ 0 ≤ γ 0 82 ∧ γ 0 82 ≤ 1000 * c) ∧ (0 ≤ γ 0 55 ∧ γ 0 55 ≤ 30000) ∧ (γ 0 49 = -1 ∧ γ 0 83 = 0 ∨ HsI γ)
theorem HsI.fr {γ γ' : St} (h : HsI γ) (f : ∀ j k, (j = 0 → 18 ≤ k ∧ k ≤ 54 ∨ k = 67) → (j ≤ 45 ∧ j ≠ 1 ∨ j = 48) → γ' j k = γ j k) : HsI γ' := by
  have ⟨h1, h2, h3, h4⟩ := h
  refine ⟨by rw [f 0 49 (by omega) (by omega), f 0 18 (by omega) (by omega)]; exact h1, h2.fl (fun j k q1 q2 => f j k (by omega) (by omega)), fun i q1 q2 => ?_, h4.fr (f 0 51 (by omega) (by omega)) (f 0 67 (by omega) (by omega)) (fun k => f 44 k (by omega) (by omega)) (fun k => f 45 k (by omega) (by omega))⟩
  rw [f 48 i (by omega) (by omega), f 0 51 (by omega) (by omega)]
  exact h3 i q1 (by rw [f 0 51 (by omega) (by omega)] at q2; exact q2)
/-- a call that leaves the program as it is -/
theorem MoI.fr {c : Int} {γ γ' : St} (h : MoI c γ) (hc : c < 512) (e1 : 0 ≤ γ' 0 1 ∧ γ' 0 1 ≤ 20 * (c + 1)) (b1 : ∀ k, γ' 1 k ≤ 127) (bz : BoZ γ') (e72 : 0 ≤ γ' 0 72 ∧ γ' 0 72 ≤ 1000 * (c + 1) ∧ 0 ≤ γ' 0 82 ∧ γ' 0 82 ≤ 1000 * (c + 1)) (e83 : γ 0 49 = -1 → γ' 0 83 = γ 0 83) (f : ∀ j k, (j = 0 → 18 ≤ k ∧ k ≤ 55 ∨ k = 67) → (j ≤ 45 ∧ j ≠ 1 ∨ j = 48) → γ' j k = γ j k) : MoI (c + 1) γ' := by
  have ⟨h1, h2, h3, h4, h5, h6, h7, h8⟩ := h
  refine ⟨by omega, e1, b1, h4.fr (fun k => f 14 k (by omega) (by omega)) (fun k => f 28 k (by omega) (by omega)) (fun k => f 25 k (by omega) (by omega)), bz, e72, by rw [f 0 55 (by omega) (by omega)]; exact h7, ?_⟩
  rcases h8 with q | q
  · exact Or.inl ⟨by rw [f 0 49 (by omega) (by omega)]; exact q.1, by rw [e83 q.1]; exact q.2⟩
  · exact Or.inr (q.fr (fun j k q1 q2 => f j k (by omega) q2))
/-- the same but for what was thrown -/
def Sm (γ γ' : St) : Prop := ∀ j k, (j = 0 → k ≠ 2) → γ' j k = γ j k
theorem Sm.set {γ : St} {w : Int} : Sm γ (setA γ 0 2 w) := fun j k q => by rw [stA, if_neg (by omega)]
theorem Sm.tr {γ γ' γ'' : St} (h : Sm γ γ') (g : Sm γ' γ'') : Sm γ γ'' := fun j k q => (g j k q).trans (h j k q)
theorem BoZ.fr {γ γ' : St} (h : BoZ γ) (f : ∀ j k, (j = 46 ∨ j = 49 ∨ j = 55 ∨ j = 58) → γ' j k = γ j k) : BoZ γ' := ⟨fun u => by rw [f 46 u (by omega)]; exact h.1 u, fun u => by rw [f 49 u (by omega)]; exact h.2.1 u, fun u => by rw [f 55 u (by omega)]; exact h.2.2.1 u, fun u => by rw [f 58 u (by omega)]; exact h.2.2.2 u⟩
theorem MoI.sm {c : Int} {γ γ' : St} (h : MoI c γ) (s : Sm γ γ') : MoI c γ' := by
  have ⟨h1, h2, h3, h4, h5, h6, h7, h8⟩ := h
  refine ⟨h1, by rw [s 0 1 (by omega)]; exact h2, fun k => by rw [s 1 k (by omega)]; exact h3 k, h4.fr (fun k => s 14 k (by omega)) (fun k => s 28 k (by omega)) (fun k => s 25 k (by omega)), h5.fr (fun j k _ => s j k (by omega)), by rw [s 0 72 (by omega), s 0 82 (by omega)]; exact h6, by rw [s 0 55 (by omega)]; exact h7, ?_⟩
  rcases h8 with q | q
  · exact Or.inl ⟨by rw [s 0 49 (by omega)]; exact q.1, by rw [s 0 83 (by omega)]; exact q.2⟩
  · exact Or.inr (q.fr (fun j k q1 q2 => s j k (by omega)))
theorem MoI.up {c : Int} {γ : St} (h : MoI c γ) (hc : c < 512) : MoI (c + 1) γ := by
  have ⟨h1, h2, h3, h4, h5, h6, h7, h8⟩ := h
  exact ⟨by omega, by omega, h3, h4, h5, by omega, h7, h8⟩
theorem rf_0 {γ : St} {a : Int} : f_M_refuse γ a 0 = some (0, γ) := by unfold f_M_refuse; rw [if_pos rfl, chk_t (by omega)]
theorem rf_1 {γ : St} {a : Int} : f_M_refuse γ a 1 = some (1, setA γ 0 2 a) := by unfold f_M_refuse; rw [if_neg (by decide)]; show chk _ _ = _; rw [chk_t (by omega)]
/-- what a call leaves: all in order, the tape's length as it was -/
def McO (c : Int) (γ : St) (z : Int × St) : Prop := MoI (c + 1) z.2 ∧ z.2 0 1 = γ 0 1
theorem McO.mk {c r : Int} {γ γ' : St} (a : MoI (c + 1) γ') (b : γ' 0 1 = γ 0 1) : McO c γ (r, γ') := ⟨a, b⟩
theorem McO.sm {c r : Int} {γ γ' : St} (h : MoI c γ) (hc : c < 512) (s : Sm γ γ') : McO c γ (r, γ') := ⟨(h.sm s).up hc, s 0 1 (by omega)⟩
theorem irem4 : ∀ n : Fin 20, 0 ≤ irem (n.val : Int) 4 ∧ irem (n.val : Int) 4 ≤ 3 := by decide +kernel
theorem irem_4 {x : Int} (h0 : 0 ≤ x) (h1 : x < 20) : 0 ≤ irem x 4 ∧ irem x 4 ≤ 3 := by
  have t := irem4 ⟨x.toNat, by omega⟩
  have e : ((x.toNat : Nat) : Int) = x := by omega
  rw [show (((⟨x.toNat, by omega⟩ : Fin 20).val : Nat) : Int) = x from e] at t
  exact t
theorem i2b_le (x : Int) : i2b x ≤ 127 := by
  unfold i2b
  rw [Int8.toInt_toInt32]
  exact Int8.toInt_le _
theorem m_feed_L33 {γ0 : St} {a0 a1 a2 a3 a4 : Int} (h1 : 0 ≤ γ0 0 1 ∧ γ0 0 1 ≤ 60000) (b1 : ∀ k, γ0 1 k ≤ 127) : ∀ (n : Nat) (γ : St) (k : Int), 0 ≤ k → k ≤ 20 → γ 0 1 = γ0 0 1 + k → (∀ k, γ 1 k ≤ 127) → (∀ j i, j ≠ 1 → (j = 0 → i ≠ 1) → γ j i = γ0 j i) → 20 - k < n → wp (f_M_feed_L33 n γ a0 a1 a2 a3 a4 k) (fun z => z.1 = γ0 0 1 + 20 ∧ z.2 0 1 = γ0 0 1 + 20 ∧ (∀ k, z.2 1 k ≤ 127) ∧ ∀ j i, j ≠ 1 → (j = 0 → i ≠ 1) → z.2 j i = γ0 j i) := by
  intro n
  induction n with
  | zero => intro γ k q1 q2 q3 q4 q5 q6; exfalso; omega
  | succ n ih =>
    intro γ k q1 q2 q3 q4 q5 q6
    have nx : k < 20 → ∀ w, wp (f_M_feed_b86 (f_M_feed_L33 n) γ a0 a1 a2 a3 a4 k w) (fun z => z.1 = γ0 0 1 + 20 ∧ z.2 0 1 = γ0 0 1 + 20 ∧ (∀ k, z.2 1 k ≤ 127) ∧ ∀ j i, j ≠ 1 → (j = 0 → i ≠ 1) → z.2 j i = γ0 j i) := fun lt w => by
      have r := irem_4 q1 lt
      unfold f_M_feed_b86
      refine wp_chk (by omega) (wp_sub (wp_chk (by decide) (wp_chk (by omega) (wp_chk (by omega) (wp_chk (by omega) (wp_sub (wp_chk (by omega) ?_)))))))
      have s : ∀ j i, setA (setA γ 0 1 (γ 0 1 + 1)) 1 (γ 0 1) (i2b (iushr w (24 - 8 * irem k 4))) j i = if j = 1 ∧ i = γ 0 1 then i2b (iushr w (24 - 8 * irem k 4)) else if j = 0 ∧ i = 1 then γ 0 1 + 1 else γ j i := fun j i => by rw [stA, stA]
      generalize setA (setA γ 0 1 (γ 0 1 + 1)) 1 (γ 0 1) (i2b (iushr w (24 - 8 * irem k 4))) = γ1 at *
      refine ih γ1 (k + 1) (by omega) (by omega) (by rw [s, if_neg (by omega), if_pos ⟨rfl, rfl⟩]; omega) (fun i => ?_) (fun j i r1 r2 => by rw [s, if_neg (by omega), if_neg (by omega)]; exact q5 j i r1 r2) (by omega)
      rw [s]
      by_cases q7 : i = γ 0 1
      · rw [if_pos ⟨rfl, q7⟩]; exact i2b_le _
      · rw [if_neg (by omega), if_neg (by omega)]; exact q4 i
    unfold f_M_feed_L33
    refine wp_ite (fun q => wp_some ⟨?_, ?_, q4, q5⟩) (fun q => ?_)
    · show γ 0 1 = _; omega
    · show γ 0 1 = _; omega
    · exact wp_ite (fun _ => wp_ite (fun _ => wp_ite (fun _ => wp_ite (fun _ => nx (by omega) _) (fun _ => nx (by omega) _)) (fun _ => nx (by omega) _)) (fun _ => nx (by omega) _)) (fun _ => nx (by omega) _)
theorem m_feed {c : Int} {γ : St} {a0 a1 a2 a3 a4 : Int} (h : MoI c γ) (hc : c < 512) : wp (f_M_feed γ a0 a1 a2 a3 a4) (fun z => MoI (c + 1) z.2 ∧ z.1 = γ 0 1 + 20 ∧ z.2 0 1 = γ 0 1 + 20 ∧ z.2 0 2 = 0) := by
  have := FU_v
  have ⟨h1, h2, h3, h4, h5, h6, h7, h8⟩ := h
  unfold f_M_feed
  refine wp_sub ?_
  have s : Sm γ (setA γ 0 2 0) := Sm.set
  have s2 : setA γ 0 2 0 0 2 = 0 := by rw [stA, if_pos ⟨rfl, rfl⟩]
  generalize setA γ 0 2 0 = γ1 at *
  have e1 := s 0 1 (by omega)
  rw [e1, if_pos (by omega)]
  unfold f_M_feed_b22
  rw [bndN_eq rf_0, if_pos rfl]
  refine wp_mono (m_feed_L33 (γ0 := γ1) (by omega) (fun k => by rw [s 1 k (by omega)]; exact h3 k) FU γ1 0 (by omega) (by omega) (by omega) (fun k => by rw [s 1 k (by omega)]; exact h3 k) (fun _ _ _ _ => rfl) (by omega)) (fun z hz => ?_)
  have ⟨z1, z2, z3, z4⟩ := hz
  have g : ∀ j k, j ≠ 1 → (j = 0 → k ≠ 1 ∧ k ≠ 2) → z.2 j k = γ j k := fun j k q1 q2 => by rw [z4 j k q1 (by omega)]; exact s j k (by omega)
  refine ⟨h.fr hc (by omega) z3 (h5.fr (fun j k q => g j k (by omega) (by omega))) (by rw [g 0 72 (by omega) (by omega), g 0 82 (by omega) (by omega)]; omega) (fun _ => g 0 83 (by omega) (by omega)) (fun j k q1 q2 => g j k (by omega) (by omega)), by omega, by omega, by rw [z4 0 2 (by omega) (by omega)]; exact s2⟩
theorem m_end {c : Int} {γ : St} {a0 : Int} (h : MoI c γ) (hc : c < 512) : (0 ≤ a0 ∧ a0 ≤ γ 0 1 ∧ wp (f_M_end γ a0) (fun z => MoI (c + 1) z.2 ∧ z.1 = a0 ∧ z.2 0 1 = a0 ∧ z.2 0 2 = 0)) ∨ ((a0 < 0 ∨ γ 0 1 < a0) ∧ wp (f_M_end γ a0) (fun z => MoI (c + 1) z.2 ∧ z.2 0 1 = γ 0 1 ∧ z.2 0 2 = 1)) := by
  have ⟨h1, h2, h3, h4, h5, h6, h7, h8⟩ := h
  have bad : ∀ γ1, Sm γ γ1 → wp (f_M_end_b24 γ1 a0 1 1) (fun z => MoI (c + 1) z.2 ∧ z.2 0 1 = γ 0 1 ∧ z.2 0 2 = 1) := fun γ1 s => by
    unfold f_M_end_b24
    rw [bndN_eq rf_1, if_neg (by decide)]
    have t := s.tr (Sm.set (w := 1))
    exact wp_some ⟨(h.sm t).up hc, t 0 1 (by omega), by show setA γ1 0 2 1 0 2 = 1; rw [stA, if_pos ⟨rfl, rfl⟩]⟩
  by_cases q : 0 ≤ a0 ∧ a0 ≤ γ 0 1
  · refine Or.inl ⟨q.1, q.2, ?_⟩
    unfold f_M_end
    refine wp_sub ?_
    have s : Sm γ (setA γ 0 2 0) := Sm.set
    have s2 : setA γ 0 2 0 0 2 = 0 := by rw [stA, if_pos ⟨rfl, rfl⟩]
    generalize setA γ 0 2 0 = γ1 at *
    rw [if_neg (by omega), s 0 1 (by omega), if_pos q.2]
    unfold f_M_end_b24
    rw [bndN_eq rf_0, if_pos rfl]
    refine wp_sub (wp_some ?_)
    have g : ∀ j k, (j = 0 → k ≠ 1 ∧ k ≠ 2) → setA γ1 0 1 a0 j k = γ j k := fun j k r => by rw [stA, if_neg (by omega)]; exact s j k (by omega)
    have g1 : setA γ1 0 1 a0 0 1 = a0 := by rw [stA, if_pos ⟨rfl, rfl⟩]
    refine ⟨h.fr hc ?_ (fun k => ?_) (h5.fr (fun j k r => g j k (by omega))) ?_ (fun _ => g 0 83 (by omega)) (fun j k r1 r2 => g j k (by omega)), rfl, g1, ?_⟩
    · show 0 ≤ setA γ1 0 1 a0 0 1 ∧ setA γ1 0 1 a0 0 1 ≤ _; omega
    · show setA γ1 0 1 a0 1 k ≤ 127; rw [g 1 k (by omega)]; exact h3 k
    · show 0 ≤ setA γ1 0 1 a0 0 72 ∧ setA γ1 0 1 a0 0 72 ≤ _ ∧ 0 ≤ setA γ1 0 1 a0 0 82 ∧ setA γ1 0 1 a0 0 82 ≤ _; rw [g 0 72 (by omega), g 0 82 (by omega)]; omega
    · show setA γ1 0 1 a0 0 2 = 0; rw [stA, if_neg (by omega)]; exact s2
  · refine Or.inr ⟨by omega, ?_⟩
    unfold f_M_end
    refine wp_sub ?_
    have s : Sm γ (setA γ 0 2 0) := Sm.set
    generalize setA γ 0 2 0 = γ1 at *
    rw [s 0 1 (by omega)]
    exact wp_ite (fun _ => bad γ1 s) (fun _ => wp_ite (fun r => absurd r (by omega)) (fun _ => bad γ1 s))
theorem m_fault {c : Int} {γ : St} {a0 : Int} (h : MoI c γ) (hc : c < 512) : wp (f_M_fault γ a0) (McO c γ) := by
  unfold f_M_fault
  refine wp_sub ?_
  exact wp_ite (fun _ => wp_ite (fun _ => wp_some (McO.sm h hc Sm.set)) (fun _ => wp_some (McO.sm h hc Sm.set))) (fun _ => wp_some (McO.sm h hc Sm.set))
/-- the number of the main node's variables -/
def mvM (γ : St) : Int := if 0 ≤ γ 0 49 then γ 4 (γ 0 49 + 1) - γ 4 (γ 0 49) else 0
theorem HsI.nd {γ : St} (h : HsI γ) : NdS γ (γ 0 49) ∧ (0 ≤ γ 0 49 ∧ γ 0 49 ≤ 58) ∧ mvM γ ≤ γ 0 51 ∧ γ 0 51 ≤ 6000 := by
  have ⟨h1, h2, h3, h4⟩ := h
  have m18 := h2.2.1
  have m0 := h2.2.2.2.2.2.2.2.1
  have x := (h2.2.2.2.2.2.2.2.2.1 0 (by omega) (by have := h2.2.2.1; omega)).1
  have nd := h2.nd (x := 0) (by omega) (by have := h2.2.2.1; omega)
  have e : γ 35 0 = γ 0 49 := by omega
  have b := x.2.1
  rw [e] at nd b
  have b2 : γ 38 0 + (γ 4 (γ 0 49 + 1) - γ 4 (γ 0 49)) ≤ γ 0 51 := b.2
  have c := h2.2.2.2.1
  refine ⟨nd, by omega, ?_, c.2⟩
  unfold mvM
  rw [if_pos (by omega)]
  omega
theorem mv_eq {c : Int} {γ : St} (h : MoI c γ) : f_M_mainVariables γ = some (mvM γ, γ) := by
  unfold f_M_mainVariables mvM
  rcases h.2.2.2.2.2.2.2 with q | q
  · rw [if_neg (by omega), if_neg (by omega)]
  · have n := q.nd
    have sz := n.1.sz
    rw [if_pos (by omega), if_pos (by omega), chk_t (by omega), chk_t (by omega), chk_t (by omega), chk_t (by omega)]
/-- what has variables has a program -/
theorem MoI.has {c k : Int} {γ : St} (h : MoI c γ) (h0 : 0 ≤ k) (h1 : k < mvM γ) : HsI γ := by
  rcases h.2.2.2.2.2.2.2 with q | q
  · exfalso
    unfold mvM at h1
    rw [if_neg (by omega)] at h1
    omega
  · exact q
theorem m_count {c : Int} {γ : St} {a0 : Int} (h : MoI c γ) (hc : c < 512) : wp (f_M_count γ a0) (McO c γ) := by
  unfold f_M_count
  refine wp_sub ?_
  have s : Sm γ (setA γ 0 2 0) := Sm.set
  generalize setA γ 0 2 0 = γ1 at *
  have h' := h.sm s
  have ok : ∀ r, wp (some (r, γ1)) (McO c γ) := fun r => wp_some (McO.sm h hc s)
  have pos : 0 ≤ γ1 0 49 → 0 ≤ γ1 0 49 ∧ γ1 0 49 < 60 := fun q => by
    rcases h'.2.2.2.2.2.2.2 with r | r
    · exfalso; omega
    · have := r.nd.2.1; omega
  refine wp_ite (fun _ => wp_bs (mv_eq h') (ok _)) (fun _ => ?_)
  refine wp_ite (fun _ => wp_ite (fun q => wp_chk (pos q) (ok _)) (fun _ => ok _)) (fun _ => ?_)
  refine wp_ite (fun _ => wp_ite (fun q => wp_chk (pos q) (ok _)) (fun _ => ok _)) (fun _ => ?_)
  refine wp_ite (fun _ => wp_ite (fun _ => ok _) (fun _ => ok _)) (fun _ => ?_)
  refine wp_ite (fun _ => wp_ite (fun q => wp_chk (pos q) (ok _)) (fun _ => ok _)) (fun _ => ?_)
  refine wp_ite (fun _ => ok _) (fun _ => ?_)
  refine wp_ite (fun _ => wp_ite (fun _ => ok _) (fun _ => ok _)) (fun _ => ?_)
  refine wp_ite (fun _ => ok _) (fun _ => ?_)
  exact wp_ite (fun _ => wp_ite (fun _ => ok _) (fun _ => ok _)) (fun _ => ok _)
theorem m_value {c : Int} {γ : St} {a0 : Int} (h : MoI c γ) (hc : c < 512) : wp (f_M_value γ a0) (McO c γ) := by
  unfold f_M_value
  refine wp_sub ?_
  have s : Sm γ (setA γ 0 2 0) := Sm.set
  generalize setA γ 0 2 0 = γ1 at *
  have h' := h.sm s
  have bad : wp (f_M_value_b19 γ1 a0 1) (McO c γ) := by
    unfold f_M_value_b19 f_M_value_b24
    rw [bndN_eq rf_1, if_pos (by decide)]
    exact wp_some (McO.sm h hc (s.tr Sm.set))
  refine wp_ite (fun _ => bad) (fun q => wp_bs (mv_eq h') (wp_ite (fun q2 => ?_) (fun _ => bad)))
  have n := (h'.has (by omega) q2).nd
  unfold f_M_value_b24
  rw [bndN_eq rf_0, if_neg (by decide)]
  unfold f_M_value_b44
  refine wp_ite (fun _ => ?_) (fun _ => ?_)
  · rw [bndN_eq rf_0, if_pos rfl]
    exact wp_chk (by omega) (wp_ite (fun _ => wp_some (McO.sm h hc s)) (fun _ => wp_chk (by omega) (wp_some (McO.sm h hc s))))
  · rw [bndN_eq rf_1, if_neg (by decide)]
    exact wp_some (McO.sm h hc (s.tr Sm.set))
theorem m_about {c : Int} {γ : St} {a0 a1 : Int} (h : MoI c γ) (hc : c < 512) : wp (f_M_about γ a0 a1) (McO c γ) := by
  unfold f_M_about
  refine wp_sub ?_
  have s : Sm γ (setA γ 0 2 0) := Sm.set
  generalize setA γ 0 2 0 = γ1 at *
  have h' := h.sm s
  have bad : wp (f_M_about_b19 γ1 a0 a1 1) (McO c γ) := by
    unfold f_M_about_b19 f_M_about_b24
    rw [bndN_eq rf_1, if_pos (by decide)]
    exact wp_some (McO.sm h hc (s.tr Sm.set))
  refine wp_ite (fun _ => bad) (fun q => wp_bs (mv_eq h') (wp_ite (fun q2 => ?_) (fun _ => bad)))
  have n := (h'.has (by omega) q2).nd
  have sz := n.1.sz
  have mv : mvM γ1 = γ1 4 (γ1 0 49 + 1) - γ1 4 (γ1 0 49) := by unfold mvM; rw [if_pos (by omega)]
  have ok : ∀ r, wp (some (r, γ1)) (McO c γ) := fun r => wp_some (McO.sm h hc s)
  have bad2 : wp (f_M_about_b46 γ1 a0 a1 1 2) (McO c γ) := by
    unfold f_M_about_b46
    rw [bndN_eq rf_1, if_neg (by decide)]
    exact wp_some (McO.sm h hc (s.tr Sm.set))
  unfold f_M_about_b24
  rw [bndN_eq rf_0, if_neg (by decide)]
  refine wp_ite (fun _ => bad2) (fun _ => wp_ite (fun _ => ?_) (fun _ => bad2))
  unfold f_M_about_b46
  rw [bndN_eq rf_0, if_pos rfl]
  have tr : ∀ x, wp (f_M_truth γ1 x) (fun z => z.2 = γ1) := fun x => by
    unfold f_M_truth
    exact wp_ite (fun _ => wp_some rfl) (fun _ => wp_some rfl)
  refine wp_chk (by omega) (wp_chk (by omega) (wp_sub ?_))
  refine wp_ite (fun _ => wp_chk (by omega) (wp_ite (fun _ => wp_chk (by omega) (wp_chk (by omega) (wp_chk (by omega) (wp_ite (fun _ => ok _) (fun _ => ok _))))) (fun _ => ok _))) (fun _ => ?_)
  refine wp_ite (fun _ => wp_chk (by omega) (wp_bnd (tr _) (fun r γ' e => ?_))) (fun _ => ?_)
  · have e : γ' = γ1 := e
    rw [e]; exact ok _
  · refine wp_ite (fun _ => wp_chk (by omega) (wp_ite (fun _ => wp_chk (by omega) (wp_chk (by decide) (ok _))) (fun _ => ok _))) (fun _ => ?_)
    exact wp_chk (by omega) (wp_ite (fun _ => wp_chk (by omega) (ok _)) (fun _ => ok _))
theorem m_causes {c : Int} {γ : St} {a0 a1 : Int} (h : MoI c γ) (hc : c < 512) : wp (f_M_causes_1 γ a0 a1) (McO c γ) := by
  unfold f_M_causes_1
  refine wp_sub ?_
  have s : Sm γ (setA γ 0 2 0) := Sm.set
  generalize setA γ 0 2 0 = γ1 at *
  have h' := h.sm s
  have bad : wp (f_M_causes_1_b31 γ1 a0 a1 1) (McO c γ) := by
    unfold f_M_causes_1_b31 f_M_causes_1_b36
    rw [bndN_eq rf_1, if_neg (by decide)]
    exact wp_some (McO.sm h hc (s.tr Sm.set))
  refine wp_ite (fun _ => bad) (fun q => wp_ite (fun _ => bad) (fun q1 => wp_bs (mv_eq h') (wp_ite (fun _ => bad) (fun q2 => wp_bs (mv_eq h') (wp_ite (fun q3 => ?_) (fun _ => bad))))))
  have hs := h'.has (by omega) q3
  have n := hs.nd
  unfold f_M_causes_1_b36
  rw [bndN_eq rf_0, if_pos rfl]
  refine wp_ite (fun _ => wp_some (McO.sm h hc s)) (fun _ => wp_bnd (w_caused hs.2.2.2 h'.2.2.2.2.1.1 ⟨by omega, by omega⟩) (fun r γ2 z => ?_))
  have z1 : ∀ j k, j ≠ 46 → j ≠ 47 → γ2 j k = γ1 j k := z.1
  have z2 : ∀ u, γ2 46 u = 0 ∨ γ2 46 u = 1 := z.2.1
  have ⟨i1, i2, i3, i4, i5, i6, i7, i8⟩ := h'
  have fin : ∀ r, McO c γ (r, γ2) := fun r => McO.mk (h'.fr hc (by rw [z1 0 1 (by omega) (by omega)]; omega) (fun k => by rw [z1 1 k (by omega) (by omega)]; exact i3 k) ⟨z2, fun u => by rw [z1 49 u (by omega) (by omega)]; exact i5.2.1 u, fun u => by rw [z1 55 u (by omega) (by omega)]; exact i5.2.2.1 u, fun u => by rw [z1 58 u (by omega) (by omega)]; exact i5.2.2.2 u⟩ (by rw [z1 0 72 (by omega) (by omega), z1 0 82 (by omega) (by omega)]; omega) (fun _ => z1 0 83 (by omega) (by omega)) (fun j k q4 q5 => z1 j k (by omega) (by omega))) (by show γ2 0 1 = γ 0 1; rw [z1 0 1 (by omega) (by omega)]; exact s 0 1 (by omega))
  exact wp_ite (fun _ => wp_some (fin _)) (fun _ => wp_some (fin _))
theorem m_input {c : Int} {γ : St} {a0 a1 : Int} (h : MoI c γ) (hc : c < 512) : wp (f_M_input γ a0 a1) (McO c γ) := by
  unfold f_M_input
  refine wp_sub ?_
  have s : Sm γ (setA γ 0 2 0) := Sm.set
  generalize setA γ 0 2 0 = γ1 at *
  have h' := h.sm s
  have ⟨i1, i2, i3, i4, i5, i6, i7, i8⟩ := h'
  have bad : wp (f_M_input_b18 γ1 a0 a1 1) (McO c γ) := by
    unfold f_M_input_b18 f_M_input_b23
    rw [bndN_eq rf_1, if_pos (by decide)]
    exact wp_some (McO.sm h hc (s.tr Sm.set))
  refine wp_ite (fun _ => bad) (fun q => wp_ite (fun q0 => ?_) (fun _ => bad))
  have hs : HsI γ1 := by
    rcases i8 with r | r
    · exfalso; omega
    · exact r
  have n := hs.nd
  have sz := n.1.sz
  unfold f_M_input_b23
  rw [bndN_eq rf_0, if_neg (by decide)]
  refine wp_chk (by omega) (wp_ite (fun q2 => ?_) (fun _ => ?_))
  · unfold f_M_input_b49
    rw [bndN_eq rf_0, if_neg (by decide)]
    have bad2 : wp (f_M_input_b85 γ1 a0 a1 2) (McO c γ) := by
      unfold f_M_input_b85 f_M_input_b90
      rw [bndN_eq rf_1, if_neg (by decide)]
      exact wp_some (McO.sm h hc (s.tr Sm.set))
    have good : wp (f_M_input_b89 γ1 a0 a1 2) (McO c γ) := by
      unfold f_M_input_b89 f_M_input_b90
      rw [bndN_eq rf_0, if_pos rfl]
      refine wp_chk (by omega) (wp_sub (wp_chk (by omega) (wp_sub (wp_some ?_))))
      have g : ∀ j k, j ≠ 50 → setA γ1 50 a0 a1 j k = γ1 j k := fun j k r => by rw [stA, if_neg (by omega)]
      generalize setA γ1 50 a0 a1 = γ2 at *
      exact McO.mk (h'.fr hc (by rw [g 0 1 (by omega)]; omega) (fun k => by rw [g 1 k (by omega)]; exact i3 k) (i5.fr (fun j k r => g j k (by omega))) (by rw [g 0 72 (by omega), g 0 82 (by omega)]; omega) (fun _ => g 0 83 (by omega)) (fun j k q4 q5 => g j k (by omega))) (by show γ2 0 1 = γ 0 1; rw [g 0 1 (by omega)]; exact s 0 1 (by omega))
    exact wp_chk (by omega) (wp_chk (by omega) (wp_chk (by omega) (wp_ite (fun _ => good) (fun _ => wp_ite (fun _ => bad2) (fun _ => wp_ite (fun _ => good) (fun _ => bad2))))))
  · unfold f_M_input_b49
    rw [bndN_eq rf_1, if_pos (by decide)]
    exact wp_some (McO.sm h hc (s.tr Sm.set))
theorem m_tick_L54 {c : Int} {γ0 : St} {a0 : Int} (h : MoI c γ0) (hs : HsI γ0) (ha : a0 ≤ 1000) : ∀ (n : Nat) (γ : St) (k : Int), 0 ≤ k → k ≤ a0 → F5x γ0 γ → (∀ u, γ 55 u = 0 ∨ γ 55 u = 1) → γ 0 72 = γ0 0 72 + k → a0 - k < n → wp (f_M_tick_L54 n γ a0 k) (fun z => F5x γ0 z.2 ∧ (∀ u, z.2 55 u = 0 ∨ z.2 55 u = 1) ∧ z.2 0 72 = γ0 0 72 + a0 ∧ z.1 = γ0 0 72 + a0) := by
  have ⟨i1, i2, i3, i4, i5, i6, i7, i8⟩ := h
  have rn : RnI γ0 := ⟨hs.2.1, i4.2.2, hs.2.2.1, i5.2.2.1⟩
  intro n
  induction n with
  | zero => intro γ k q1 q2 q3 q4 q5 q6; exfalso; omega
  | succ n ih =>
    intro γ k q1 q2 q3 q4 q5 q6
    unfold f_M_tick_L54
    refine wp_ite (fun q => wp_some ⟨q3, q4, ?_, ?_⟩) (fun q => ?_)
    · show γ 0 72 = _; omega
    · show γ 0 72 = _; omega
    · refine wp_bnd (w_instant (rn.fr q3 q4) (by omega)) (fun r γ' z => ?_)
      have z1 : F5x γ γ' := z.1
      have z2 : ∀ u, γ' 55 u = 0 ∨ γ' 55 u = 1 := z.2.1
      have z3 : γ' 0 72 = γ 0 72 + 1 := z.2.2
      exact wp_chk (by omega) (ih γ' (k + 1) (by omega) (by omega) (q3.tr z1) z2 (by omega) (by omega))
theorem m_tick {c : Int} {γ : St} {a0 : Int} (h : MoI c γ) (hc : c < 512) : wp (f_M_tick γ a0) (McO c γ) := by
  have := FU_v
  unfold f_M_tick
  refine wp_sub ?_
  have s : Sm γ (setA γ 0 2 0) := Sm.set
  generalize setA γ 0 2 0 = γ1 at *
  have h' := h.sm s
  have ⟨i1, i2, i3, i4, i5, i6, i7, i8⟩ := h'
  have bad : wp (f_M_tick_b19 γ1 a0 1) (McO c γ) := by
    unfold f_M_tick_b19 f_M_tick_b24
    rw [bndN_eq rf_1, if_pos (by decide)]
    exact wp_some (McO.sm h hc (s.tr Sm.set))
  refine wp_ite (fun _ => bad) (fun q => wp_ite (fun q0 => ?_) (fun _ => bad))
  unfold f_M_tick_b24
  rw [bndN_eq rf_0, if_neg (by decide)]
  unfold f_M_tick_b44
  refine wp_ite (fun q2 => ?_) (fun _ => ?_)
  · rw [bndN_eq rf_0, if_pos rfl]
    have hs : HsI γ1 := by
      rcases i8 with r | r
      · exfalso; omega
      · exact r
    refine wp_mono (m_tick_L54 h' hs q0 FU γ1 0 (by omega) (by omega) (fun _ _ _ _ => rfl) i5.2.2.1 (by omega) (by omega)) (fun z hz => ?_)
    have ⟨z1, z2, z3, z4⟩ := hz
    exact ⟨h'.fr hc (by rw [z1 0 1 (by omega) (by omega)]; omega) (fun k => by rw [z1 1 k (by omega) (by omega)]; exact i3 k) ⟨fun u => by rw [z1 46 u (by omega) (by omega)]; exact i5.1 u, fun u => by rw [z1 49 u (by omega) (by omega)]; exact i5.2.1 u, z2, fun u => by rw [z1 58 u (by omega) (by omega)]; exact i5.2.2.2 u⟩ (by rw [z3, z1 0 82 (by omega) (by omega)]; omega) (fun _ => z1 0 83 (by omega) (by omega)) (fun j k q4 q5 => z1 j k (by omega) (by omega)), by rw [z1 0 1 (by omega) (by omega)]; exact s 0 1 (by omega)⟩
  · rw [bndN_eq rf_1, if_neg (by decide)]
    exact wp_some (McO.sm h hc (s.tr Sm.set))
theorem m_restart {c : Int} {γ : St} (h : MoI c γ) (hc : c < 512) : wp (f_M_restart γ) (McO c γ) := by
  unfold f_M_restart
  refine wp_sub ?_
  have s : Sm γ (setA γ 0 2 0) := Sm.set
  generalize setA γ 0 2 0 = γ1 at *
  have h' := h.sm s
  have ⟨i1, i2, i3, i4, i5, i6, i7, i8⟩ := h'
  unfold f_M_restart_b19
  refine wp_ite (fun _ => ?_) (fun _ => ?_)
  · rw [bndN_eq rf_0, if_pos rfl]
    refine wp_sub (wp_sub (wp_sub (wp_some ?_)))
    have g : ∀ j k, j ≠ 52 → (j = 0 → k ≠ 72) → flA (setA γ1 0 72 0) 52 0 6600 0 j k = γ1 j k := fun j k r1 r2 => by show (if _ then _ else _) = _; rw [if_neg (by omega), stA, if_neg (by omega)]
    have g72 : flA (setA γ1 0 72 0) 52 0 6600 0 0 72 = 0 := by show (if _ then _ else _) = _; rw [if_neg (by omega), stA, if_pos ⟨rfl, rfl⟩]
    generalize flA (setA γ1 0 72 0) 52 0 6600 0 = γ2 at *
    exact McO.mk (h'.fr hc (by rw [g 0 1 (by omega) (by omega)]; omega) (fun k => by rw [g 1 k (by omega) (by omega)]; exact i3 k) (i5.fr (fun j k r => g j k (by omega) (by omega))) (by rw [g72, g 0 82 (by omega) (by omega)]; omega) (fun _ => g 0 83 (by omega) (by omega)) (fun j k q4 q5 => g j k (by omega) (by omega))) (by show γ2 0 1 = γ 0 1; rw [g 0 1 (by omega) (by omega)]; exact s 0 1 (by omega))
  · rw [bndN_eq rf_1, if_neg (by decide)]
    exact wp_some (McO.sm h hc (s.tr Sm.set))
theorem cp_o {γ : St} {a b : Nat} {n : Int} {j : Nat} {k : Int} (h : j ≠ b) : cpA γ a b n j k = γ j k := by unfold cpA; rw [if_neg (by omega)]
theorem cp_b {γ : St} {a b : Nat} {n : Int} (h1 : ∀ u, γ a u = 0 ∨ γ a u = 1) (h2 : ∀ u, γ b u = 0 ∨ γ b u = 1) : ∀ u, cpA γ a b n b u = 0 ∨ cpA γ a b n b u = 1 := fun u => by
  unfold cpA
  by_cases q : b = b ∧ 0 ≤ u ∧ u < n
  · rw [if_pos q]; exact h1 u
  · rw [if_neg q]; exact h2 u
theorem m_keep {c : Int} {γ : St} (h : MoI c γ) (hc : c < 512) : wp (f_M_keep γ) (McO c γ) := by
  unfold f_M_keep
  refine wp_sub ?_
  have s : Sm γ (setA γ 0 2 0) := Sm.set
  generalize setA γ 0 2 0 = γ1 at *
  have h' := h.sm s
  have ⟨i1, i2, i3, i4, i5, i6, i7, i8⟩ := h'
  have bad : wp (f_M_keep_b21 γ1 1) (McO c γ) := by
    unfold f_M_keep_b21 f_M_keep_b26
    rw [bndN_eq rf_1, if_neg (by decide)]
    exact wp_some (McO.sm h hc (s.tr Sm.set))
  refine wp_ite (fun _ => bad) (fun q => wp_ite (fun _ => ?_) (fun _ => bad))
  have hs : HsI γ1 := by
    rcases i8 with r | r
    · exfalso; omega
    · exact r
  have m51 := hs.2.1.2.2.2.1
  have m52 := hs.2.1.2.2.2.2.1
  unfold f_M_keep_b26
  rw [bndN_eq rf_0, if_pos rfl]
  refine wp_sub ?_
  rw [show setA γ1 0 83 1 0 72 = γ1 0 72 by rw [stA, if_neg (by omega)]]
  refine wp_sub ?_
  have g : ∀ j k, (j = 0 → k ≠ 82 ∧ k ≠ 83) → setA (setA γ1 0 83 1) 0 82 (γ1 0 72) j k = γ1 j k := fun j k r => by rw [stA, if_neg (by omega), stA, if_neg (by omega)]
  have g82 : setA (setA γ1 0 83 1) 0 82 (γ1 0 72) 0 82 = γ1 0 72 := by rw [stA, if_pos ⟨rfl, rfl⟩]
  generalize setA (setA γ1 0 83 1) 0 82 (γ1 0 72) = γ2 at *
  rw [g 0 52 (by omega)]
  refine wp_chk (by omega) (wp_sub ?_)
  rw [cp_o (γ := γ2) (by omega), g 0 51 (by omega)]
  refine wp_chk (by omega) (wp_sub ?_)
  rw [cp_o (b := 57) (by omega), cp_o (γ := γ2) (by omega), g 0 51 (by omega)]
  refine wp_chk ⟨by omega, by omega, by omega, fun u _ _ => ?_⟩ (wp_sub (wp_some ?_))
  · rw [cp_o (by omega), cp_o (by omega), g 55 u (by omega)]; exact i5.2.2.1 u
  · have f : ∀ j k, j ≠ 56 → j ≠ 57 → j ≠ 58 → (j = 0 → k ≠ 82 ∧ k ≠ 83) → cpA (cpA (cpA γ2 52 56 (γ1 0 52)) 51 57 (γ1 0 51)) 55 58 (γ1 0 51) j k = γ1 j k := fun j k r1 r2 r3 r4 => by rw [cp_o r3, cp_o r2, cp_o r1, g j k r4]
    have f82 : cpA (cpA (cpA γ2 52 56 (γ1 0 52)) 51 57 (γ1 0 51)) 55 58 (γ1 0 51) 0 82 = γ1 0 72 := by rw [cp_o (by omega), cp_o (by omega), cp_o (by omega)]; exact g82
    have f58 : ∀ u, cpA (cpA (cpA γ2 52 56 (γ1 0 52)) 51 57 (γ1 0 51)) 55 58 (γ1 0 51) 58 u = 0 ∨ cpA (cpA (cpA γ2 52 56 (γ1 0 52)) 51 57 (γ1 0 51)) 55 58 (γ1 0 51) 58 u = 1 := cp_b (fun u => by rw [cp_o (by omega), cp_o (by omega), g 55 u (by omega)]; exact i5.2.2.1 u) (fun u => by rw [cp_o (by omega), cp_o (by omega), g 58 u (by omega)]; exact i5.2.2.2 u)
    generalize cpA (cpA (cpA γ2 52 56 (γ1 0 52)) 51 57 (γ1 0 51)) 55 58 (γ1 0 51) = γ3 at *
    exact McO.mk (h'.fr hc (by rw [f 0 1 (by omega) (by omega) (by omega) (by omega)]; omega) (fun k => by rw [f 1 k (by omega) (by omega) (by omega) (by omega)]; exact i3 k) ⟨fun u => by rw [f 46 u (by omega) (by omega) (by omega) (by omega)]; exact i5.1 u, fun u => by rw [f 49 u (by omega) (by omega) (by omega) (by omega)]; exact i5.2.1 u, fun u => by rw [f 55 u (by omega) (by omega) (by omega) (by omega)]; exact i5.2.2.1 u, f58⟩ (by rw [f82, f 0 72 (by omega) (by omega) (by omega) (by omega)]; omega) (fun r => by omega) (fun j k q4 q5 => f j k (by omega) (by omega) (by omega) (by omega))) (by show γ3 0 1 = γ 0 1; rw [f 0 1 (by omega) (by omega) (by omega) (by omega)]; exact s 0 1 (by omega))
theorem m_back {c : Int} {γ : St} (h : MoI c γ) (hc : c < 512) : wp (f_M_back γ) (McO c γ) := by
  unfold f_M_back
  refine wp_sub ?_
  have s : Sm γ (setA γ 0 2 0) := Sm.set
  generalize setA γ 0 2 0 = γ1 at *
  have h' := h.sm s
  have ⟨i1, i2, i3, i4, i5, i6, i7, i8⟩ := h'
  unfold f_M_back_b19
  refine wp_ite (fun q => ?_) (fun _ => ?_)
  · rw [bndN_eq rf_0, if_pos rfl]
    have hs : HsI γ1 := by
      rcases i8 with r | r
      · exact absurd r.2 q
      · exact r
    have m51 := hs.2.1.2.2.2.1
    have m52 := hs.2.1.2.2.2.2.1
    have n49 := hs.nd.2.1
    refine wp_sub (wp_sub ?_)
    have g : ∀ j k, (j = 0 → k ≠ 72) → setA γ1 0 72 (γ1 0 82) j k = γ1 j k := fun j k r => by rw [stA, if_neg (by omega)]
    have g72 : setA γ1 0 72 (γ1 0 82) 0 72 = γ1 0 82 := by rw [stA, if_pos ⟨rfl, rfl⟩]
    generalize setA γ1 0 72 (γ1 0 82) = γ2 at *
    rw [g 0 52 (by omega)]
    refine wp_chk (by omega) (wp_sub ?_)
    rw [cp_o (γ := γ2) (by omega), g 0 51 (by omega)]
    refine wp_chk (by omega) (wp_sub ?_)
    rw [cp_o (b := 51) (by omega), cp_o (γ := γ2) (by omega), g 0 51 (by omega)]
    refine wp_chk ⟨by omega, by omega, by omega, fun u _ _ => ?_⟩ (wp_sub (wp_some ?_))
    · rw [cp_o (by omega), cp_o (by omega), g 58 u (by omega)]; exact i5.2.2.2 u
    · have f : ∀ j k, j ≠ 51 → j ≠ 52 → j ≠ 55 → (j = 0 → k ≠ 72) → cpA (cpA (cpA γ2 56 52 (γ1 0 52)) 57 51 (γ1 0 51)) 58 55 (γ1 0 51) j k = γ1 j k := fun j k r1 r2 r3 r4 => by rw [cp_o r3, cp_o r1, cp_o r2, g j k r4]
      have f72 : cpA (cpA (cpA γ2 56 52 (γ1 0 52)) 57 51 (γ1 0 51)) 58 55 (γ1 0 51) 0 72 = γ1 0 82 := by rw [cp_o (by omega), cp_o (by omega), cp_o (by omega)]; exact g72
      have f55 : ∀ u, cpA (cpA (cpA γ2 56 52 (γ1 0 52)) 57 51 (γ1 0 51)) 58 55 (γ1 0 51) 55 u = 0 ∨ cpA (cpA (cpA γ2 56 52 (γ1 0 52)) 57 51 (γ1 0 51)) 58 55 (γ1 0 51) 55 u = 1 := cp_b (fun u => by rw [cp_o (by omega), cp_o (by omega), g 58 u (by omega)]; exact i5.2.2.2 u) (fun u => by rw [cp_o (by omega), cp_o (by omega), g 55 u (by omega)]; exact i5.2.2.1 u)
      generalize cpA (cpA (cpA γ2 56 52 (γ1 0 52)) 57 51 (γ1 0 51)) 58 55 (γ1 0 51) = γ3 at *
      exact McO.mk (h'.fr hc (by rw [f 0 1 (by omega) (by omega) (by omega) (by omega)]; omega) (fun k => by rw [f 1 k (by omega) (by omega) (by omega) (by omega)]; exact i3 k) ⟨fun u => by rw [f 46 u (by omega) (by omega) (by omega) (by omega)]; exact i5.1 u, fun u => by rw [f 49 u (by omega) (by omega) (by omega) (by omega)]; exact i5.2.1 u, f55, fun u => by rw [f 58 u (by omega) (by omega) (by omega) (by omega)]; exact i5.2.2.2 u⟩ (by rw [f72, f 0 82 (by omega) (by omega) (by omega) (by omega)]; omega) (fun r => by omega) (fun j k q4 q5 => f j k (by omega) (by omega) (by omega) (by omega))) (by show γ3 0 1 = γ 0 1; rw [f 0 1 (by omega) (by omega) (by omega) (by omega)]; exact s 0 1 (by omega))
  · rw [bndN_eq rf_1, if_neg (by decide)]
    exact wp_some (McO.sm h hc (s.tr Sm.set))
