/-! the reference's instances: linked -/
/-- what comes after putIn leaves the text and the instances as they were -/
def FL (γ γ' : St) : Prop := ∀ j k, j ≤ 43 → (j = 0 → 18 ≤ k ∧ k ≤ 54 ∧ k ≠ 49) ∧ j ≠ 1 → γ' j k = γ j k
theorem FL.rf {γ : St} : FL γ γ := fun _ _ _ _ => rfl
theorem FL.tr {γ γ' γ'' : St} (h : FL γ γ') (g : FL γ' γ'') : FL γ γ'' := fun j k q1 q2 => (g j k q1 q2).trans (h j k q1 q2)
theorem FL.ns {γ γ' : St} {f : Int} (h : FL γ γ') (s : NdS γ f) : NdS γ' f := s.rw (fun j _ _ k => h j k (by omega) (by omega))
theorem FL.nv {γ γ' : St} (h : FL γ γ') (f : Int) : nvN γ' f = nvN γ f := by unfold nvN; rw [h 4 _ (by omega) (by omega), h 4 _ (by omega) (by omega)]
theorem FL.ps {γ γ' : St} (h : FL γ γ') (f : Int) : psN γ' f = psN γ f := by unfold psN; rw [h 7 _ (by omega) (by omega), h 19 _ (by omega) (by omega)]
theorem FL.pe {γ γ' : St} (h : FL γ γ') (f : Int) : peN γ' f = peN γ f := by unfold peN; rw [h 7 _ (by omega) (by omega), h 17 _ (by omega) (by omega)]
theorem IsA.fl {γ γ' : St} {x0 c0 y : Int} (h : IsA γ x0 c0 y) (f : FL γ γ') : IsA γ' x0 c0 y := by
  have ⟨h1, h2, h3, h4⟩ := h
  have g : ∀ j k, 2 ≤ j → j ≤ 43 → γ' j k = γ j k := fun j k q1 q2 => f j k q2 (by omega)
  have g0 : ∀ k, 18 ≤ k → k ≤ 54 → k ≠ 49 → γ' 0 k = γ 0 k := fun k q1 q2 q3 => f 0 k (by omega) (by omega)
  refine ⟨?_, by rw [g 40 y (by omega) (by omega)]; exact h2, fun q => ?_, fun e q1 q2 q3 => ?_⟩
  · unfold IsX
    rw [g 35 y (by omega) (by omega), g 38 y (by omega) (by omega), g 39 y (by omega) (by omega), g 40 y (by omega) (by omega), f.nv, g0 18 (by omega) (by omega) (by omega), g0 51 (by omega) (by omega) (by omega), g0 52 (by omega) (by omega) (by omega), g0 54 (by omega) (by omega) (by omega), g 9 _ (by omega) (by omega), g 8 _ (by omega) (by omega)]
    refine ⟨h1.1, h1.2.1, h1.2.2.1, h1.2.2.2.1, fun i q1 q2 => ?_⟩
    rw [g 42 _ (by omega) (by omega), g 43 _ (by omega) (by omega)]
    exact h1.2.2.2.2 i q1 q2
  · unfold IsO
    rw [g 36 y (by omega) (by omega), g 37 y (by omega) (by omega), g 35 _ (by omega) (by omega), g 35 _ (by omega) (by omega), f.ps, f.pe, g 20 _ (by omega) (by omega), g 21 _ (by omega) (by omega)]
    exact h3 q
  · rw [g 35 y (by omega) (by omega), f.ps] at q1
    rw [g 35 y (by omega) (by omega), f.pe] at q2
    rw [g 20 e (by omega) (by omega)] at q3
    obtain ⟨z, z1, z2, z3, z4, z5⟩ := h4 e q1 q2 q3
    refine ⟨z, ?_, by rw [g0 50 (by omega) (by omega) (by omega)]; exact z2, by rw [g 35 z (by omega) (by omega), g 21 e (by omega) (by omega)]; exact z3, by rw [g 36 z (by omega) (by omega)]; exact z4, by rw [g 37 z (by omega) (by omega)]; exact z5⟩
    rw [g 40 y (by omega) (by omega), g 25 e (by omega) (by omega), g 41 _ (by omega) (by omega)]
    exact z1
theorem IsV.fl {γ γ' : St} {x0 v : Int} (h : IsV γ x0 v) (f : FL γ γ') : IsV γ' x0 v := by
  have g : ∀ j k, 2 ≤ j → j ≤ 43 → γ' j k = γ j k := fun j k q1 q2 => f j k q2 (by omega)
  unfold IsV
  rw [g 42 v (by omega) (by omega), g 43 v (by omega) (by omega), g 38 _ (by omega) (by omega), g 35 _ (by omega) (by omega), f.nv, f 0 50 (by omega) (by omega)]
  exact h
/-- linked -/
def LkM (γ : St) : Prop := SN γ (γ 0 18) ∧ (1 ≤ γ 0 18 ∧ γ 0 18 ≤ 59) ∧ (1 ≤ γ 0 50 ∧ γ 0 50 ≤ 3000) ∧ (0 ≤ γ 0 51 ∧ γ 0 51 ≤ 6000) ∧ (0 ≤ γ 0 52 ∧ γ 0 52 ≤ 6000) ∧ (0 ≤ γ 0 53 ∧ γ 0 53 ≤ 6000) ∧ (0 ≤ γ 0 54 ∧ γ 0 54 ≤ 3000) ∧ (γ 35 0 = γ 0 18 - 1 ∧ γ 36 0 = -1 ∧ γ 38 0 = 0) ∧ (∀ y, 0 ≤ y → y < γ 0 50 → IsA γ 0 0 y) ∧ ∀ v, 0 ≤ v → v < γ 0 51 → IsV γ 0 v
theorem LkM.fl {γ γ' : St} (h : LkM γ) (f : FL γ γ') : LkM γ' := by
  have ⟨h1, h2, h3, h4, h5, h6, h7, h8, h9, h10⟩ := h
  have g0 : ∀ k, 18 ≤ k → k ≤ 54 → k ≠ 49 → γ' 0 k = γ 0 k := fun k q1 q2 q3 => f 0 k (by omega) (by omega)
  unfold LkM
  rw [g0 18 (by omega) (by omega) (by omega), g0 50 (by omega) (by omega) (by omega), g0 51 (by omega) (by omega) (by omega), g0 52 (by omega) (by omega) (by omega), g0 53 (by omega) (by omega) (by omega), g0 54 (by omega) (by omega) (by omega), f 35 0 (by omega) (by omega), f 36 0 (by omega) (by omega), f 38 0 (by omega) (by omega)]
  exact ⟨fun x q1 q2 => f.ns (h1 x q1 q2), h2, h3, h4, h5, h6, h7, h8, fun y q1 q2 => (h9 y q1 q2).fl f, fun v q1 q2 => (h10 v q1 q2).fl f⟩
/-- putIn of the last node links -/
theorem PuK.lk {γ0 γ : St} {r : Int} (s : SN γ0 (γ0 0 18)) (h18 : 1 ≤ γ0 0 18 ∧ γ0 0 18 ≤ 59) (z : γ0 0 50 = 0 ∧ γ0 0 51 = 0 ∧ γ0 0 52 = 0 ∧ γ0 0 53 = 0 ∧ γ0 0 54 = 0) (w : γ0 34 (γ0 0 18 - 1) ≤ 3000) (h : PuK γ0 (γ0 0 18 - 1) (-1) (-1) r γ) : LkM γ := by
  have ⟨e, h1, h2, h3, h4, h5, h6⟩ := h
  have ⟨u0, u1, u2, u3, u4⟩ := h2
  have er : r = 0 := by omega
  rw [er] at h4 h5 h6
  have e18 := h1.ft 0 18 (by omega) (by omega)
  refine ⟨fun x q1 q2 => h1.ft.ns (s x q1 (by omega)), by omega, by omega, by omega, by omega, by omega, by omega, ⟨by rw [e18]; exact h4.1, h4.2.1, by omega⟩, fun y q1 q2 => ?_, fun v q1 q2 => h6 v (by omega) q2⟩
  have ⟨a1, a2, a3, a4⟩ := h5 y q1 q2
  exact ⟨a1, by omega, a3, a4⟩
theorem LkM.nd {γ : St} (h : LkM γ) {x : Int} (h0 : 0 ≤ x) (h1 : x < γ 0 50) : NdS γ (γ 35 x) := by
  have a := (h.2.2.2.2.2.2.2.2.1 x h0 h1).1.1
  exact h.1 _ a.1 a.2
theorem LkM.var {γ : St} (h : LkM γ) {x i : Int} (h0 : 0 ≤ x) (h1 : x < γ 0 50) (i0 : 0 ≤ i) (i1 : i < nvN γ (γ 35 x)) : 0 ≤ γ 38 x + i ∧ γ 38 x + i < γ 0 51 := by
  have a := (h.2.2.2.2.2.2.2.2.1 x h0 h1).1.2.1
  omega
theorem LkM.n60 {γ : St} (h : LkM γ) {x : Int} (h0 : 0 ≤ x) (h1 : x < γ 0 50) : 0 ≤ γ 35 x ∧ γ 35 x < 59 := by
  have a := (h.2.2.2.2.2.2.2.2.1 x h0 h1).1.1
  have b := h.2.1
  omega
/-- the variable of a call's output -/
def outV (γ : St) (x e i : Int) : Int := γ 38 (γ 41 (γ 40 x + γ 25 e)) + γ 5 (γ 21 e) + i
theorem output_eq {γ : St} (h : LkM γ) {x e i : Int} (h0 : 0 ≤ x) (h1 : x < γ 0 50) (e0 : psN γ (γ 35 x) ≤ e) (e1 : e < peN γ (γ 35 x)) (c3 : γ 20 e = 3) (hi : 0 ≤ i ∧ i < γ 6 (γ 21 e)) : f_M_output γ x e i = some (outV γ x e i, γ) ∧ 0 ≤ outV γ x e i ∧ outV γ x e i < γ 0 51 := by
  have a := h.2.2.2.2.2.2.2.2.1 x h0 h1
  have nd := h.nd h0 h1
  have n60 := h.n60 h0 h1
  have cl := nd.cl e0 e1 c3
  have sz := nd.sz
  obtain ⟨ks, _, _, _, _, w, _⟩ := nd.pt e0 e1
  have w3 := w.2.2.1 c3
  obtain ⟨y, y1, y2, y3, y4, y5⟩ := a.2.2.2 e e0 e1 c3
  have ax := a.1
  have ⟨_, _, m50, m51, _, _, m54, _⟩ := h
  have ay := (h.2.2.2.2.2.2.2.2.1 y (by omega) y2.2).1
  have ng := h.1 (γ 21 e) w3.1 (by have := ax.1; omega)
  have sg := ng.sz
  have b1 := ax.2.2.2.1
  have b2 := ay.2.1
  rw [y3] at b2
  have nv : nvN γ (γ 21 e) = γ 4 (γ 21 e + 1) - γ 4 (γ 21 e) := rfl
  unfold outV
  rw [y1]
  refine ⟨?_, by omega, by omega⟩
  have ch : f_M_child γ x e = some (y, γ) := by
    unfold f_M_child
    rw [chk_t (by omega), chk_t (by omega), chk_t (by omega), chk_t (by omega), y1]
  unfold f_M_output
  rw [bndN_eq ch]
  rw [chk_t (by omega), chk_t (by omega), chk_t (by omega), chk_t (by omega), chk_t (by omega)]
theorem idiv_fl {nv c : Int} (h : FlV nv c) (h1 : 1 ≤ nv) (h2 : nv ≤ 10000) : 0 ≤ idiv c 2 ∧ idiv c 2 < nv := by
  rcases h with q | q
  · rw [q, show idiv (-1) 2 = 0 from by decide]; omega
  · rw [idiv_2 q.1 (by omega)]; omega
/-- the causes listed so far -/
def CsM (γ : St) : Prop := (0 ≤ γ 0 67 ∧ γ 0 67 ≤ 60000) ∧ ∀ i, 0 ≤ i → i < γ 0 67 → 0 ≤ γ 45 i ∧ γ 45 i < γ 0 51
def CaO (γ γ' : St) : Prop := CsM γ' ∧ (∀ j k, (j = 0 → k ≠ 67) → (j = 45 → k < γ 0 67) → γ' j k = γ j k) ∧ γ 0 67 ≤ γ' 0 67
theorem CaO.rf {γ : St} (h : CsM γ) : CaO γ γ := ⟨h, fun _ _ _ _ => rfl, Int.le_refl _⟩
theorem CaO.tr {γ γ' γ'' : St} (h : CaO γ γ') (g : CaO γ' γ'') : CaO γ γ'' := by
  have a := h.2.2
  have b := g.2.2
  exact ⟨g.1, fun j k q1 q2 => (g.2.1 j k q1 (by omega)).trans (h.2.1 j k q1 q2), by omega⟩
theorem CaO.fl {γ γ' : St} (h : CaO γ γ') : FL γ γ' := fun j k q1 q2 => h.2.1 j k (by omega) (by omega)
theorem w_cause {γ : St} {v : Int} (c : CsM γ) (h0 : 0 ≤ v) (h1 : v < γ 0 51) : wp (f_M_cause γ v) (fun z => CaO γ z.2) := by
  have ⟨a, b⟩ := c
  unfold f_M_cause
  refine wp_ite (fun q => wp_some (CaO.rf c)) (fun q => wp_chk (by omega) (wp_sub (wp_chk (by omega) (wp_sub (wp_some ?_)))))
  show CaO γ (setA (setA γ 0 67 (γ 0 67 + 1)) 45 (γ 0 67) v)
  have s : ∀ j k, setA (setA γ 0 67 (γ 0 67 + 1)) 45 (γ 0 67) v j k = if j = 45 ∧ k = γ 0 67 then v else if j = 0 ∧ k = 67 then γ 0 67 + 1 else γ j k := fun j k => by rw [stA, stA]
  generalize setA (setA γ 0 67 (γ 0 67 + 1)) 45 (γ 0 67) v = γ1 at *
  have s0 : ∀ j k, (j = 45 → k ≠ γ 0 67) → (j = 0 → k ≠ 67) → γ1 j k = γ j k := fun j k q1 q2 => by rw [s, if_neg (by omega), if_neg (by omega)]
  have e67 : γ1 0 67 = γ 0 67 + 1 := by rw [s, if_neg (by omega), if_pos ⟨rfl, rfl⟩]
  refine ⟨⟨by omega, fun i q1 q2 => ?_⟩, fun j k q1 q2 => s0 j k (by omega) q1, by omega⟩
  rw [s0 0 51 (by omega) (by omega)]
  by_cases q3 : i = γ 0 67
  · rw [q3, s, if_pos ⟨rfl, rfl⟩]; exact ⟨h0, h1⟩
  · rw [s0 45 i (by omega) (by omega)]; exact b i q1 (by omega)
/-- the clock's variable, or none -/
theorem w_clockVariable_L5 {γ : St} (h : LkM γ) : ∀ (n : Nat) (y c : Int), 0 ≤ y → y < γ 0 50 → FlV (nvN γ (γ 35 y)) c → y < n → wp (f_M_clockVariable_L5 f_M_clockVariable_b43 n γ y c) (fun z => z.2 = γ ∧ (z.1 = -1 ∨ 0 ≤ z.1 ∧ z.1 < γ 0 51) ∧ (y = 0 → c = -1 → z.1 = -1)) := by
  have ⟨_, m18, m50, m51, _, _, m54, m0, _, _⟩ := h
  intro n
  induction n with
  | zero => intro y c h0 h1 h2 h3; exfalso; omega
  | succ n ih =>
    intro y c h0 h1 h2 h3
    have a := h.2.2.2.2.2.2.2.2.1 y h0 h1
    have nd := h.nd h0 h1
    have sz := nd.sz
    have nv : nvN γ (γ 35 y) = γ 4 (γ 35 y + 1) - γ 4 (γ 35 y) := rfl
    have b43 : wp (f_M_clockVariable_b43 γ y c) (fun z => z.2 = γ ∧ (z.1 = -1 ∨ 0 ≤ z.1 ∧ z.1 < γ 0 51) ∧ (y = 0 → c = -1 → z.1 = -1)) := by
      unfold f_M_clockVariable_b43
      have i := idiv_fl h2 (by omega) (by omega)
      have v := h.var h0 h1 i.1 i.2
      exact wp_ite (fun q => wp_chk (by omega) (wp_chk (by decide) (wp_chk (by omega) (wp_some ⟨rfl, Or.inr v, fun _ q2 => absurd q2 q⟩)))) (fun q => wp_some ⟨rfl, Or.inl rfl, fun _ _ => rfl⟩)
    unfold f_M_clockVariable_L5
    refine wp_ite (fun q => b43) (fun q => wp_chk (by omega) (wp_ite (fun q2 => b43) (fun q2 => ?_)))
    have o := a.2.2.1 (by
      by_cases q3 : y = 0
      · rw [q3, m0.2.1] at q2; omega
      · omega)
    have ⟨o1, o2, o3, o4⟩ := o
    have no := h.nd (x := γ 36 y) (by omega) (by omega)
    have so := no.sz
    obtain ⟨ks, _, _, _, _, _, fl, _⟩ := no.pt o2.1 o2.2
    refine wp_chk (by omega) (wp_chk (by omega) (wp_sub (wp_chk (by omega) (wp_sub ?_))))
    exact wp_mono (ih (γ 36 y) _ (by omega) (by omega) fl (by omega)) (fun z hz => ⟨hz.1, hz.2.1, fun q => by omega⟩)
theorem w_clockVariable {γ : St} (h : LkM γ) {y c : Int} (h0 : 0 ≤ y) (h1 : y < γ 0 50) (h2 : FlV (nvN γ (γ 35 y)) c) : wp (f_M_clockVariable γ y c) (fun z => z.2 = γ ∧ (z.1 = -1 ∨ 0 ≤ z.1 ∧ z.1 < γ 0 51) ∧ (y = 0 → c = -1 → z.1 = -1)) := by
  have := FU_v
  have m50 := h.2.2.1
  exact w_clockVariable_L5 h FU y c h0 h1 h2 (by omega)
/-- a call's argument -/
theorem w_argument_L10 {γ : St} {lo hi i : Int} (h0 : 0 ≤ lo) (h66 : hi ≤ 66000) : ∀ (n : Nat) (ks : List Int) (x k : Int), Ch (γ 23) x ks → (∀ y ∈ ks, lo ≤ y ∧ y < hi) → 0 ≤ k → k ≤ i → i < k + ks.length → i ≤ 66000 → i - k < n → wp (f_M_argument_L10 n γ i x k) (fun z => z.2 = γ ∧ lo ≤ z.1 ∧ z.1 < hi) := by
  intro n
  induction n with
  | zero => intro ks x k h1 h2 h3 h4 h5 h6 h7; exfalso; omega
  | succ n ih =>
    intro ks x k h1 h2 h3 h4 h5 h6 h7
    unfold f_M_argument_L10
    match ks, h1, h2, h5 with
    | [], h1, h2, h5 => simp only [List.length_nil] at h5; exfalso; omega
    | y :: t, h1, h2, h5 =>
      have e : x = y := h1.1
      have m := h2 y List.mem_cons_self
      subst e
      simp only [List.length_cons] at h5
      refine wp_ite (fun q => wp_some ⟨rfl, m⟩) (fun q => ?_)
      refine wp_chk (by omega) (wp_sub (wp_chk (by omega) ?_))
      exact ih t _ (k + 1) h1.2.2 (fun z hz => h2 z (List.mem_cons_of_mem _ hz)) (by omega) (by omega) (by omega) h6 (by omega)
theorem w_argument {γ : St} {f e i : Int} (nd : NdS γ f) (e0 : psN γ f ≤ e) (e1 : e < peN γ f) (c3 : γ 20 e = 3) (hi : 0 ≤ i ∧ i < γ 5 (γ 21 e)) (h5 : γ 5 (γ 21 e) ≤ 6000) : wp (f_M_argument γ e i) (fun z => z.2 = γ ∧ psN γ f ≤ z.1 ∧ z.1 < e) := by
  have := FU_v
  have sz := nd.sz
  obtain ⟨ks, c1, c2, c4, _, _, _, _, ln⟩ := nd.pt e0 e1
  have l := ln c3
  unfold f_M_argument
  refine wp_chk (by omega) (wp_sub ?_)
  exact w_argument_L10 (by omega) (by omega) FU ks _ 0 c1 (fun y hy => by have := c2.mem y hy; omega) (by omega) (by omega) (by omega) (by omega) (by omega)
