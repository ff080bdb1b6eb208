/-! the class's linker: linked -/
/-- what stands when all is put in -/
def LdI (γ : St) (V : Int) : Prop := (0 ≤ V ∧ V ≤ 6000) ∧ (V + 1 ≤ γ 8 5 ∧ γ 8 5 ≤ V + 3001) ∧ γ 8 8 = V ∧ (0 ≤ γ 8 11 ∧ γ 8 11 ≤ 6000) ∧ (∀ s, 0 ≤ s → s < γ 8 5 → SlI V γ s) ∧ ∀ i, 0 ≤ i → i < γ 8 11 → (0 ≤ γ 61 i ∧ γ 61 i < γ 8 5) ∧ 0 ≤ γ 62 i ∧ γ 62 i ≤ 2 * V
theorem LkI.ld {γ0 γ : St} {m : Int} (hx : LkX γ0 m) (h : LkI γ0 m γ) (h0 : γ 9 8 = 0) : LdI γ (γ0 32 m) := by
  have ⟨b1, b2, b3, b4, b5, b6, b7⟩ := h.2.2.1
  have hV := hx.2.2.1
  rw [h0, sm_nil (Int.le_refl _)] at b3 b4 b6
  have ⟨v1, v2, v3⟩ := h.2.2.2
  refine ⟨by omega, by omega, by omega, by omega, fun s q1 q2 => v2 s (by omega), v3⟩
set_option maxHeartbeats 1000000 in
theorem w_link {γ : St} {m : Int} (hx : LkX γ m) : wp (f_Lk_link γ m) (fun z => FrLk γ z.2 ∧ LdI z.2 (γ 32 m)) := by
  have hm := hx.1
  have hV := hx.2.2.1
  have pn := hx.pn hm.1 (Int.le_refl _)
  have wn := (hx.2.1 m hm.1 (Int.le_refl _)).1
  have sz := wn.2.2.2.2.2
  have sz0 := sz.1.1
  have x1 := sz.1.2.2 (by omega)
  have x2 := sz.2.2.2 (by omega)
  have nn := hx.nn hm.1 (Int.le_refl _)
  have ec := hx.eq hm.1 (Int.le_refl _) (Int.le_refl _) (by omega)
  have nc := sm_nn (f := cvF γ) (fun i q1 q2 => (nn i q1 q2).2)
  have := FU_v
  unfold f_Lk_link
  refine wp_chk (by omega) (wp_sub (wp_chk (by omega) ?_))
  refine wp_bs (r := 0) (γ := setA (setA (setA γ 8 8 (γ 32 m)) 8 5 (γ 32 m)) 8 11 0) ?_ (wp_sub (wp_sub (wp_sub ?_)))
  · unfold f_Sl_begin
    exact some_wp (wp_sub (wp_sub (wp_sub (wp_some rfl))))
  generalize hh : setA _ 9 11 0 = γ1
  have s1 : ∀ j k, γ1 j k = if j = 9 ∧ k = 11 then 0 else if j = 9 ∧ k = 10 then 0 else if j = 9 ∧ k = 8 then 0 else if j = 8 ∧ k = 11 then 0 else if j = 8 ∧ k = 5 then γ 32 m else if j = 8 ∧ k = 8 then γ 32 m else γ j k := fun j k => by rw [← hh]; simp [stA]
  have a85 : γ1 8 5 = γ 32 m := by rw [s1]; simp
  refine wp_bs (sadd_eq (by omega)) (wp_sub ?_)
  rw [a85]
  generalize hh2 : setA (setA (setS γ1 (γ 32 m) 3 1) 8 5 (γ 32 m + 1)) 9 12 (γ 32 m) = γ2
  have s2 : ∀ j k, γ2 j k = if j = 9 ∧ k = 12 then γ 32 m else if j = 8 ∧ k = 5 then γ 32 m + 1 else if j = 57 ∧ k = γ 32 m then -1 else if j = 56 ∧ k = γ 32 m then -1 else if j = 55 ∧ k = γ 32 m then -1 else if j = 58 ∧ k = γ 32 m then 1 else if j = 54 ∧ k = γ 32 m then 3 else γ1 j k := fun j k => by rw [← hh2, stA, stA, setS_v]
  have c98 : γ2 9 8 = 0 := by rw [s2]; simp; rw [s1]; simp
  have c910 : γ2 9 10 = 0 := by rw [s2]; simp; rw [s1]; simp
  have c911 : γ2 9 11 = 0 := by rw [s2]; simp; rw [s1]; simp
  have c912 : γ2 9 12 = γ 32 m := by rw [s2]; simp
  have c85 : γ2 8 5 = γ 32 m + 1 := by rw [s2]; simp
  have c88 : γ2 8 8 = γ 32 m := by rw [s2]; simp; rw [s1]; simp
  have c811 : γ2 8 11 = 0 := by rw [s2]; simp; rw [s1]; simp
  have hF2 : FrLk γ γ2 := fun j k q => by
    rw [s2, if_neg (by omega), if_neg (by omega), if_neg (by omega), if_neg (by omega), if_neg (by omega), if_neg (by omega), if_neg (by omega), s1, if_neg (by omega), if_neg (by omega), if_neg (by omega), if_neg (by omega), if_neg (by omega), if_neg (by omega)]
  refine wp_bnd (w_openNode (oc := 0) hx hF2 (by omega) (by omega) (by omega) (by omega)) (fun r γ3 y => ?_)
  obtain ⟨o1, o2, o3, o4, o5, o6⟩ := y
  rw [c911] at o5 o6
  rw [c98] at o4 o5
  have o1 : FrLk γ γ3 := o1
  have o2 : γ3 9 8 = 1 := by have : γ3 9 8 = γ2 9 8 + 1 := o2; omega
  have o3 : γ3 9 11 = γ 28 m := by have : γ3 9 11 = γ2 9 11 + γ 28 m := o3; omega
  have o4 : γ3 63 0 = m ∧ γ3 64 0 = 0 ∧ γ3 65 0 = 0 ∧ γ3 66 0 = γ 29 m ∧ γ3 67 0 = γ 43 (γ 29 m) := by
    obtain ⟨p1, p2, p3, p4, p5⟩ := o4
    have p2 : γ3 64 0 = γ2 9 11 := p2
    exact ⟨p1, by omega, p3, p4, p5⟩
  have o5 : ∀ j k, (j ≠ 9 ∨ k ≠ 8 ∧ k ≠ 11) → (j < 54 ∨ 60 < j ∨ k < 0 ∨ 0 + γ 28 m ≤ k) → (j < 63 ∨ 67 < j ∨ k ≠ 0) → γ3 j k = γ2 j k := o5
  have o6 : ∀ k, 0 ≤ k → k < 0 + γ 28 m → OkS (γ 32 m) γ3 k := o6
  have d910 : γ3 9 10 = 0 := by rw [o5 9 10 (by omega) (by omega) (by omega)]; exact c910
  have d912 : γ3 9 12 = γ 32 m := by rw [o5 9 12 (by omega) (by omega) (by omega)]; exact c912
  have d85 : γ3 8 5 = γ 32 m + 1 := by rw [o5 8 5 (by omega) (by omega) (by omega)]; exact c85
  have d88 : γ3 8 8 = γ 32 m := by rw [o5 8 8 (by omega) (by omega) (by omega)]; exact c88
  have d811 : γ3 8 11 = 0 := by rw [o5 8 11 (by omega) (by omega) (by omega)]; exact c811
  have en : enF γ γ3 0 = γ 29 m + γ 30 m := by unfold enF; rw [o4.1]
  have dd : dF γ γ3 0 = 0 := by
    unfold dF
    rw [en, o4.2.2.2.1, o4.2.2.2.2, if_pos (by omega), if_neg (by omega)]
    omega
  have rr : rF γ γ3 0 = γ 31 m := by
    unfold rF
    rw [en, o4.2.2.2.1, o4.2.2.2.2]
    omega
  have ww : wF γ γ3 0 = γ 32 m - γ 28 m := by
    unfold wF
    rw [en, o4.2.2.2.2]
    omega
  have one : ∀ F : Int → Int, sm F 0 1 = F 0 := fun F => by
    have := sm_succ (f := F) (a := 0) (b := 0) (Int.le_refl _)
    rw [sm_nil (Int.le_refl _)] at this
    rw [show (0 : Int) + 1 = 1 by omega] at this
    omega
  have hL : LkI γ m γ3 := by
    refine ⟨o1, fun f q1 q2 => ?_, ⟨by omega, ?_, ?_, ?_, ?_, ?_, by omega⟩, ⟨fun i q1 q2 => by omega, fun s q => ?_, fun i q1 q2 => by omega⟩⟩
    · have f0 : f = 0 := by omega
      subst f0
      unfold LkF
      rw [en, o4.1, o4.2.1, o4.2.2.1, o4.2.2.2.1, o4.2.2.2.2, o3]
      exact ⟨by omega, by omega, by omega, by omega, fun _ => by omega, fun y => by omega, hV⟩
    · rw [o2, one, dd]; exact d910
    · rw [o2, one, ww]; omega
    · rw [o2, one, rr]; omega
    · rw [o2, one, rr]; omega
    · rw [o2, one, rr]; omega
    · by_cases q2 : s < γ 28 m
      · have o := o6 s (by omega) (by omega)
        unfold OkS at o
        exact ⟨by omega, by omega, by omega, fun _ => by omega, fun q => by omega, fun q => by omega, fun q => by omega, fun q => by omega⟩
      · have es : s = γ 32 m := by omega
        have m54 : γ3 54 s = 3 := by rw [o5 54 s (by omega) (by omega) (by omega), s2, es]; simp
        have m55 : γ3 55 s = -1 := by rw [o5 55 s (by omega) (by omega) (by omega), s2, es]; simp
        have m56 : γ3 56 s = -1 := by rw [o5 56 s (by omega) (by omega) (by omega), s2, es]; simp
        have m57 : γ3 57 s = -1 := by rw [o5 57 s (by omega) (by omega) (by omega), s2, es]; simp
        exact ⟨by omega, by omega, by omega, fun q => by omega, fun q => m54, fun q => by omega, fun q => by omega, fun q => by omega⟩
  refine wp_mono (w_link_L63 hx FU γ3 0 hL (by omega) (by rw [o2, one, rr]; omega) (by omega)) (fun z hz => ⟨hz.1.1, hz.1.ld hx hz.2⟩)
