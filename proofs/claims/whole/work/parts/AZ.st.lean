/-! the first states -/
theorem mo0 : MoI 0 δ0 := by
  have r : ∀ j k, j ≠ 0 → δ0 j k = 0 := fun j k q => by unfold δ0; rw [if_neg q]
  have f : ∀ k, k ≠ 49 → δ0 0 k = 0 := fun k q => by unfold δ0; rw [if_pos rfl, if_neg q]
  have f49 : δ0 0 49 = -1 := by unfold δ0; rw [if_pos rfl, if_pos rfl]
  refine ⟨by omega, by rw [f 1 (by omega)]; omega, fun k => by rw [r 1 k (by omega)]; omega, ⟨fun v => Or.inl (r 14 v (by omega)), fun v => Or.inl (r 28 v (by omega)), fun e => by rw [r 25 e (by omega)]; omega⟩, ⟨fun u => Or.inl (r 46 u (by omega)), fun u => Or.inl (r 49 u (by omega)), fun u => Or.inl (r 55 u (by omega)), fun u => Or.inl (r 58 u (by omega))⟩, by rw [f 72 (by omega), f 82 (by omega)]; omega, by rw [f 55 (by omega)]; omega, Or.inl ⟨f49, f 83 (by omega)⟩⟩
theorem cls0 : ClsI 0 γ0 := by
  have r : ∀ j k, j ≠ 0 → j ≠ 13 → γ0 j k = 0 := fun j k q q2 => by unfold γ0; rw [if_neg q, if_neg q2]
  have f : ∀ k, k ≠ 12 → γ0 0 k = 0 := fun k q => by unfold γ0; rw [if_pos rfl, if_neg q]
  have f12 : γ0 0 12 = -1 := by unfold γ0; rw [if_pos rfl, if_pos rfl]
  refine ⟨by omega, by rw [f 10 (by omega)]; omega, by rw [f 11 (by omega)]; omega, by rw [f 13 (by omega), f 14 (by omega)]; omega, ⟨fun x q1 q2 => ?_, fun x q1 q2 => ?_⟩, Or.inl ⟨f12, f 13 (by omega), f 14 (by omega)⟩⟩
  · rw [r 78 x (by omega) (by omega)]; omega
  · rw [r 84 x (by omega) (by omega), r 85 x (by omega) (by omega)]; omega
