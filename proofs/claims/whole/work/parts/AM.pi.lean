/-! the reference's instances: what they are -/
def SN (γ : St) (m : Int) : Prop := ∀ f, 0 ≤ f → f < m → NdS γ f
/-- an instance -/
def IsX (γ : St) (x : Int) : Prop := (0 ≤ γ 35 x ∧ γ 35 x < γ 0 18) ∧ (0 ≤ γ 38 x ∧ γ 38 x + nvN γ (γ 35 x) ≤ γ 0 51) ∧ (0 ≤ γ 39 x ∧ γ 39 x + γ 9 (γ 35 x) ≤ γ 0 52) ∧ (0 ≤ γ 40 x ∧ γ 40 x + γ 8 (γ 35 x) ≤ γ 0 54) ∧ ∀ i, 0 ≤ i → i < nvN γ (γ 35 x) → γ 42 (γ 38 x + i) = x ∧ γ 43 (γ 38 x + i) = i
/-- what lies around it -/
def IsO (γ : St) (x0 x : Int) : Prop := (x0 ≤ γ 36 x ∧ γ 36 x < x) ∧ (psN γ (γ 35 (γ 36 x)) ≤ γ 37 x ∧ γ 37 x < peN γ (γ 35 (γ 36 x))) ∧ γ 20 (γ 37 x) = 3 ∧ γ 21 (γ 37 x) = γ 35 x
/-- what the call e of it is -/
def IsC (γ : St) (x e : Int) : Prop := ∃ y, γ 41 (γ 40 x + γ 25 e) = y ∧ (x < y ∧ y < γ 0 50) ∧ γ 35 y = γ 21 e ∧ γ 36 y = x ∧ γ 37 y = e
/-- whose a variable is -/
def IsV (γ : St) (x0 v : Int) : Prop := (x0 ≤ γ 42 v ∧ γ 42 v < γ 0 50) ∧ γ 38 (γ 42 v) + γ 43 v = v ∧ 0 ≤ γ 43 v ∧ γ 43 v < nvN γ (γ 35 (γ 42 v))
/-- what putIn leaves as it was, also where it throws -/
def FT (γ0 γ : St) : Prop := ∀ j k, (j = 0 → k < 50 ∨ 54 < k) → (j < 35 ∨ 43 < j) → γ j k = γ0 j k
theorem FT.rf {γ : St} : FT γ γ := fun _ _ _ _ => rfl
theorem FT.tr {γ γ' γ'' : St} (h : FT γ γ') (g : FT γ' γ'') : FT γ γ'' := fun j k q1 q2 => (g j k q1 q2).trans (h j k q1 q2)
theorem FT.ns {γ γ' : St} {f : Int} (h : FT γ γ') (s : NdS γ f) : NdS γ' f := s.rw (fun j _ _ k => h j k (by omega) (by omega))
theorem FT.nv {γ γ' : St} (h : FT γ γ') (f : Int) : nvN γ' f = nvN γ f := by unfold nvN; rw [h 4 _ (by omega) (by omega), h 4 _ (by omega) (by omega)]
theorem FT.ps {γ γ' : St} (h : FT γ γ') (f : Int) : psN γ' f = psN γ f := by unfold psN; rw [h 7 _ (by omega) (by omega), h 19 _ (by omega) (by omega)]
theorem FT.pe {γ γ' : St} (h : FT γ γ') (f : Int) : peN γ' f = peN γ f := by unfold peN; rw [h 7 _ (by omega) (by omega), h 17 _ (by omega) (by omega)]
/-- what putIn leaves as it was -/
def FP (γ0 γ : St) : Prop := ∀ j k, (j = 0 → k < 50 ∨ 54 < k) → (35 ≤ j → j ≤ 40 → k < γ0 0 50) → (j = 41 → k < γ0 0 54) → (j = 42 ∨ j = 43 → k < γ0 0 51) → γ j k = γ0 j k
theorem FP.ft {γ0 γ : St} (h : FP γ0 γ) : FT γ0 γ := fun j k q1 q2 => h j k q1 (by omega) (by omega) (by omega)
/-- the counters have gone up -/
def Up (γ0 γ : St) : Prop := γ0 0 50 ≤ γ 0 50 ∧ γ0 0 51 ≤ γ 0 51 ∧ γ0 0 52 ≤ γ 0 52 ∧ γ0 0 53 ≤ γ 0 53 ∧ γ0 0 54 ≤ γ 0 54
theorem FP.tr {γ γ' γ'' : St} (h : FP γ γ') (g : FP γ' γ'') (u : Up γ γ') : FP γ γ'' := fun j k q1 q2 q3 q4 => by
  have ⟨u0, u1, u2, u3, u4⟩ := u
  exact (g j k q1 (by omega) (by omega) (by omega)).trans (h j k q1 q2 q3 q4)
theorem Up.tr {γ γ' γ'' : St} (h : Up γ γ') (g : Up γ' γ'') : Up γ γ'' := by unfold Up at *; omega
theorem IsX.fp {γ γ' : St} {x : Int} (h : IsX γ x) (hx : x < γ 0 50) (f : FP γ γ') (u : Up γ γ') : IsX γ' x := by
  have ⟨h1, h2, h3, h4, h5⟩ := h
  have ⟨u0, u1, u2, u3, u4⟩ := u
  have e35 : γ' 35 x = γ 35 x := f 35 x (by omega) (by omega) (by omega) (by omega)
  have e38 : γ' 38 x = γ 38 x := f 38 x (by omega) (by omega) (by omega) (by omega)
  have e39 : γ' 39 x = γ 39 x := f 39 x (by omega) (by omega) (by omega) (by omega)
  have e40 : γ' 40 x = γ 40 x := f 40 x (by omega) (by omega) (by omega) (by omega)
  unfold IsX
  rw [e35, e38, e39, e40, f.ft.nv, f.ft 0 18 (by omega) (by omega), f.ft 9 _ (by omega) (by omega), f.ft 8 _ (by omega) (by omega)]
  refine ⟨h1, by omega, by omega, by omega, fun i q1 q2 => ?_⟩
  rw [f 42 _ (by omega) (by omega) (by omega) (by omega), f 43 _ (by omega) (by omega) (by omega) (by omega)]
  exact h5 i q1 q2
theorem IsO.fp {γ γ' : St} {x0 x : Int} (h : IsO γ x0 x) (hx : x < γ 0 50) (f : FP γ γ') : IsO γ' x0 x := by
  have ⟨h1, h2, h3, h4⟩ := h
  have e36 : γ' 36 x = γ 36 x := f 36 x (by omega) (by omega) (by omega) (by omega)
  have e37 : γ' 37 x = γ 37 x := f 37 x (by omega) (by omega) (by omega) (by omega)
  unfold IsO
  rw [e36, e37, f 35 _ (by omega) (by omega) (by omega) (by omega), f 35 _ (by omega) (by omega) (by omega) (by omega), f.ft.ps, f.ft.pe, f.ft 20 _ (by omega) (by omega), f.ft 21 _ (by omega) (by omega)]
  exact ⟨h1, h2, h3, h4⟩
theorem IsC.fp {γ γ' : St} {x e : Int} (h : IsC γ x e) (hx : x < γ 0 50) (hi : γ 40 x + γ 25 e < γ 0 54) (f : FP γ γ') (u : Up γ γ') : IsC γ' x e := by
  obtain ⟨y, h1, h2, h3, h4, h5⟩ := h
  have ⟨u0, u1, u2, u3, u4⟩ := u
  refine ⟨y, ?_, by omega, ?_, ?_, ?_⟩
  · rw [f 40 x (by omega) (by omega) (by omega) (by omega), f.ft 25 e (by omega) (by omega), f 41 _ (by omega) (by omega) (by omega) (by omega)]; exact h1
  · rw [f 35 y (by omega) (by omega) (by omega) (by omega), f.ft 21 e (by omega) (by omega)]; exact h3
  · rw [f 36 y (by omega) (by omega) (by omega) (by omega)]; exact h4
  · rw [f 37 y (by omega) (by omega) (by omega) (by omega)]; exact h5
theorem IsV.fp {γ γ' : St} {x0 v : Int} (h : IsV γ x0 v) (hv : v < γ 0 51) (f : FP γ γ') (u : Up γ γ') : IsV γ' x0 v := by
  have ⟨h1, h2, h3, h4⟩ := h
  have ⟨u0, u1, u2, u3, u4⟩ := u
  have e42 : γ' 42 v = γ 42 v := f 42 v (by omega) (by omega) (by omega) (by omega)
  have e43 : γ' 43 v = γ 43 v := f 43 v (by omega) (by omega) (by omega) (by omega)
  unfold IsV
  rw [e42, e43, f 38 _ (by omega) (by omega) (by omega) (by omega), f 35 _ (by omega) (by omega) (by omega) (by omega), f.ft.nv]
  exact ⟨by omega, h2, h3, h4⟩
/-- an instance with all that hangs on it -/
def IsA (γ : St) (x0 c0 y : Int) : Prop := IsX γ y ∧ c0 ≤ γ 40 y ∧ (x0 < y → IsO γ x0 y) ∧ ∀ e, psN γ (γ 35 y) ≤ e → e < peN γ (γ 35 y) → γ 20 e = 3 → IsC γ y e
theorem IsA.fp {γ γ' : St} {x0 c0 y : Int} (h : IsA γ x0 c0 y) (s : SN γ (γ 0 18)) (hy : y < γ 0 50) (f : FP γ γ') (u : Up γ γ') : IsA γ' x0 c0 y := by
  have ⟨h1, h2, h3, h4⟩ := h
  have e35 : γ' 35 y = γ 35 y := f 35 y (by omega) (by omega) (by omega) (by omega)
  refine ⟨h1.fp hy f u, by rw [f 40 y (by omega) (by omega) (by omega) (by omega)]; exact h2, fun q => (h3 q).fp hy f, fun e q1 q2 q3 => ?_⟩
  rw [e35, f.ft.ps] at q1
  rw [e35, f.ft.pe] at q2
  rw [f.ft 20 _ (by omega) (by omega)] at q3
  have c := (s _ h1.1.1 h1.1.2).cl q1 q2 q3
  have b := h1.2.2.2.1
  exact (h4 e q1 q2 q3).fp hy (by omega) f u
/-- before putIn: room for the node n -/
def PuR (γ : St) (n : Int) : Prop := (0 ≤ γ 0 50 ∧ γ 0 50 + γ 34 n ≤ 3000) ∧ (0 ≤ γ 0 51 ∧ γ 0 51 ≤ 6000) ∧ (0 ≤ γ 0 52 ∧ γ 0 52 + 2 * γ 34 n ≤ 6000) ∧ (0 ≤ γ 0 53 ∧ γ 0 53 + 2 * γ 34 n ≤ 6000) ∧ (0 ≤ γ 0 54 ∧ γ 0 54 + γ 34 n ≤ 3000)
/-- what putIn answers -/
def PuK (γ0 : St) (n out call r : Int) (γ : St) : Prop := r = γ0 0 50 ∧ FP γ0 γ ∧ Up γ0 γ ∧ (γ0 0 50 < γ 0 50 ∧ γ 0 50 ≤ γ0 0 50 + γ0 34 n ∧ γ 0 51 ≤ 6000 ∧ γ 0 52 ≤ γ0 0 52 + 2 * γ0 34 n ∧ γ 0 53 ≤ γ0 0 53 + 2 * γ0 34 n ∧ γ 0 54 ≤ γ0 0 54 + γ0 34 n) ∧ (γ 35 r = n ∧ γ 36 r = out ∧ γ 37 r = call ∧ γ 38 r = γ0 0 51) ∧ (∀ y, r ≤ y → y < γ 0 50 → IsA γ r (γ0 0 54) y) ∧ ∀ v, γ0 0 51 ≤ v → v < γ 0 51 → IsV γ r v
def PuO (γ0 : St) (n out call : Int) (z : Res) : Prop := FT γ0 z.2 ∧ ∀ r, z.1 = .inr r → PuK γ0 n out call r z.2
theorem PuO.er {γ0 γ : St} {n out call : Int} {e : Int × Int} (h : FT γ0 γ) : PuO γ0 n out call (.inl e, γ) := ⟨h, fun r q => by cases q⟩
theorem PuO.ok {γ0 γ : St} {n out call r : Int} (h : PuK γ0 n out call r γ) : PuO γ0 n out call (.inr r, γ) := ⟨h.2.1.ft, fun r' e => by cases e; exact h⟩
/-- while the calls of an instance of n are put in: those before e are -/
def PuM (γ0 : St) (n out call e : Int) (m : Nat) (γ : St) : Prop := FP γ0 γ ∧ Up γ0 γ ∧ (γ0 0 50 < γ 0 50 ∧ γ 0 50 ≤ γ0 0 50 + 1 + sumC γ0 (psN γ0 n) m) ∧ (γ0 0 51 + nvN γ0 n ≤ γ 0 51 ∧ γ 0 51 ≤ 6000) ∧ (γ0 0 52 + γ0 9 n ≤ γ 0 52 ∧ γ 0 52 ≤ γ0 0 52 + γ0 9 n + 2 * sumC γ0 (psN γ0 n) m) ∧ γ 0 53 ≤ γ0 0 53 + 2 * (e - psN γ0 n) + 2 * sumC γ0 (psN γ0 n) m ∧ (γ0 0 54 + γ0 8 n ≤ γ 0 54 ∧ γ 0 54 ≤ γ0 0 54 + γ0 8 n + sumC γ0 (psN γ0 n) m) ∧ (γ 35 (γ0 0 50) = n ∧ γ 36 (γ0 0 50) = out ∧ γ 37 (γ0 0 50) = call ∧ γ 38 (γ0 0 50) = γ0 0 51 ∧ γ 39 (γ0 0 50) = γ0 0 52 ∧ γ 40 (γ0 0 50) = γ0 0 54) ∧ (∀ i, 0 ≤ i → i < nvN γ0 n → γ 42 (γ0 0 51 + i) = γ0 0 50 ∧ γ 43 (γ0 0 51 + i) = i) ∧ (∀ y, γ0 0 50 < y → y < γ 0 50 → IsA γ (γ0 0 50) (γ0 0 54 + γ0 8 n) y) ∧ (∀ i, psN γ0 n ≤ i → i < e → γ0 20 i = 3 → IsC γ (γ0 0 50) i) ∧ ∀ v, γ0 0 51 ≤ v → v < γ 0 51 → IsV γ (γ0 0 50) v
/-- a step that changes nothing but the number of memories -/
theorem PuM.mem {γ0 γ γ' : St} {n out call e e' : Int} {m m' : Nat} (h : PuM γ0 n out call e m γ) (s : SN γ0 (γ0 0 18)) (f : FP γ γ') (u : Up γ γ') (c50 : γ' 0 50 = γ 0 50) (c51 : γ' 0 51 = γ 0 51) (c52 : γ' 0 52 = γ 0 52) (c54 : γ' 0 54 = γ 0 54) (c53 : γ' 0 53 ≤ γ 0 53 + 2) (he : e' = e + 1) (h0 : psN γ0 n ≤ e) (hs : sumC γ0 (psN γ0 n) m ≤ sumC γ0 (psN γ0 n) m') (hc : γ0 20 e = 3 → IsC γ (γ0 0 50) e) (hn : NdS γ0 n) (hp : e < peN γ0 n) : PuM γ0 n out call e' m' γ' := by
  have ⟨h1, h2, h3, h4, h5, h6, h7, ⟨a1, a2, a3, a4, a5, a6⟩, h9, h10, h11, h12⟩ := h
  have g : ∀ j, 35 ≤ j → j ≤ 40 → γ' j (γ0 0 50) = γ j (γ0 0 50) := fun j q1 q2 => f j _ (by omega) (by omega) (by omega) (by omega)
  have nv : ∀ i, i < nvN γ0 n → γ0 0 51 + i < γ 0 51 := fun i q => by omega
  have sn : SN γ (γ 0 18) := fun x q1 q2 => h1.ft.ns (s x q1 (by rw [h1.ft 0 18 (by omega) (by omega)] at q2; exact q2))
  have icl : ∀ i, psN γ0 n ≤ i → i < peN γ0 n → γ0 20 i = 3 → IsC γ (γ0 0 50) i → IsC γ' (γ0 0 50) i := fun i q1 q2 q3 q4 => by
    have c := hn.cl q1 q2 q3
    refine q4.fp h3.1 ?_ f u
    rw [a6, h1.ft 25 i (by omega) (by omega)]
    omega
  refine ⟨h1.tr f h2, h2.tr u, by omega, by omega, by omega, by omega, by omega, ⟨by rw [g 35 (by omega) (by omega)]; exact a1, by rw [g 36 (by omega) (by omega)]; exact a2, by rw [g 37 (by omega) (by omega)]; exact a3, by rw [g 38 (by omega) (by omega)]; exact a4, by rw [g 39 (by omega) (by omega)]; exact a5, by rw [g 40 (by omega) (by omega)]; exact a6⟩, fun i q1 q2 => ?_, fun y q1 q2 => (h10 y q1 (by omega)).fp sn (by omega) f u, fun i q1 q2 q3 => ?_, fun v q1 q2 => (h12 v q1 (by omega)).fp (by omega) f u⟩
  · have := nv i q2
    rw [f 42 _ (by omega) (by omega) (by omega) (by omega), f 43 _ (by omega) (by omega) (by omega) (by omega)]
    exact h9 i q1 q2
  · by_cases q : i = e
    · rw [q] at q3 ⊢; exact icl e h0 hp q3 (hc q3)
    · exact icl i q1 (by omega) q3 (h11 i q1 (by omega) q3)
