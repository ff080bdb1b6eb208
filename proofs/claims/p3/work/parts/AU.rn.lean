/-! the reference's run: present, work -/
/-- the kids of a part -/
theorem NdS.kd {γ : St} {f : Int} (h : NdS γ f) {e : Int} (h1 : psN γ f ≤ e) (h2 : e < peN γ f) : (0 ≤ γ 20 e ∧ γ 20 e ≤ 26) ∧ (4 ≤ γ 20 e → psN γ f ≤ γ 22 e ∧ γ 22 e < e) ∧ (4 ≤ γ 20 e → γ 20 e ≤ 21 → psN γ f ≤ γ 23 (γ 22 e) ∧ γ 23 (γ 22 e) < e) ∧ (γ 20 e = 4 → psN γ f ≤ γ 23 (γ 23 (γ 22 e)) ∧ γ 23 (γ 23 (γ 22 e)) < e) := by
  obtain ⟨ks, c1, c2, c3, ar, w, _⟩ := NdS.pt h h1 h2
  have mm : ∀ y ∈ ks, psN γ f ≤ y ∧ y < e := fun y hy => by have := c2.mem y hy; omega
  have w0 := w.1
  match ks, c1, mm, ar with
  | [], c1, mm, ar =>
    have z : γ 20 e ≤ 3 := by
      have b3 := ar.2.2.1
      have b4 := ar.2.2.2.1
      have b5 := ar.2.2.2.2
      simp only [List.length_nil] at b3 b4 b5
      by_cases r1 : γ 20 e = 4
      · exact absurd (b3 r1) (by decide)
      · by_cases r2 : 5 ≤ γ 20 e ∧ γ 20 e ≤ 21
        · exact absurd (b4 r2) (by decide)
        · by_cases r3 : 22 ≤ γ 20 e
          · exact absurd (b5 r3) (by decide)
          · omega
    exact ⟨w0, fun q => by omega, fun q => by omega, fun q => by omega⟩
  | [y], c1, mm, ar =>
    have e1 : γ 22 e = y := c1.1
    have m1 := mm y List.mem_cons_self
    have b3 := ar.2.2.1
    have b4 := ar.2.2.2.1
    simp only [List.length_cons, List.length_nil] at b3 b4
    refine ⟨w0, fun q => by omega, fun q q2 => ?_, fun q => absurd (b3 q) (by decide)⟩
    by_cases r1 : γ 20 e = 4
    · exact absurd (b3 r1) (by decide)
    · exact absurd (b4 (by omega)) (by decide)
  | [y, u], c1, mm, ar =>
    have e1 : γ 22 e = y := c1.1
    have e2 : γ 23 y = u := c1.2.2.1
    have m1 := mm y List.mem_cons_self
    have m2 := mm u (List.mem_cons_of_mem _ List.mem_cons_self)
    have b3 := ar.2.2.1
    simp only [List.length_cons, List.length_nil] at b3
    exact ⟨w0, fun q => by omega, fun q q2 => by rw [e1, e2]; exact m2, fun q => absurd (b3 q) (by decide)⟩
  | y :: u :: v :: t, c1, mm, ar =>
    have e1 : γ 22 e = y := c1.1
    have e2 : γ 23 y = u := c1.2.2.1
    have e3 : γ 23 u = v := c1.2.2.2.2.1
    have m1 := mm y List.mem_cons_self
    have m2 := mm u (List.mem_cons_of_mem _ List.mem_cons_self)
    have m3 := mm v (List.mem_cons_of_mem _ (List.mem_cons_of_mem _ List.mem_cons_self))
    exact ⟨w0, fun q => by omega, fun q q2 => by rw [e1, e2]; exact m2, fun q => by rw [e1, e2, e3]; exact m3⟩
/-- whether x is there at the clock c -/
def prF : Nat → St → Int → Int → Int
  | 0, _, _, _ => 0
  | n + 1, γ, x, c => if c ≠ -1 then (if γ 55 (γ 38 x + idiv c 2) = 0 then 0 else if γ 51 (γ 38 x + idiv c 2) ≠ iand c 1 then 0 else 1) else if γ 36 x < 0 then 1 else prF n γ (γ 36 x) (γ 29 (γ 37 x))
def prM (γ : St) (x c : Int) : Int := prF 100 γ x c
theorem prF_b : ∀ (n : Nat) (γ : St) (x c : Int), prF n γ x c = 0 ∨ prF n γ x c = 1
  | 0, _, _, _ => Or.inl rfl
  | n + 1, γ, x, c => by
    unfold prF
    by_cases q : c ≠ -1
    · rw [if_pos q]
      by_cases q2 : γ 55 (γ 38 x + idiv c 2) = 0
      · rw [if_pos q2]; exact Or.inl rfl
      · rw [if_neg q2]
        by_cases q3 : γ 51 (γ 38 x + idiv c 2) ≠ iand c 1
        · rw [if_pos q3]; exact Or.inl rfl
        · rw [if_neg q3]; exact Or.inr rfl
    · rw [if_neg q]
      by_cases q2 : γ 36 x < 0
      · rw [if_pos q2]; exact Or.inr rfl
      · rw [if_neg q2]; exact prF_b n γ _ _
theorem MH_eq {γ : St} (h : LkM γ) : ∀ (n : Nat) (x c : Int), 0 ≤ x → x < γ 0 50 → FlV (nvN γ (γ 35 x)) c → 60 - γ 35 x ≤ n → MH n 0 γ x c = some (prF n γ x c, γ) := by
  have m0 := h.2.2.2.2.2.2.2.1
  have m50 := h.2.2.1
  have m51 := h.2.2.2.1
  intro n
  induction n with
  | zero => intro x c h0 h1 h2 h3; have := h.n60 h0 h1; exfalso; omega
  | succ n ih =>
    intro x c h0 h1 h2 h3
    have n60 := h.n60 h0 h1
    have nd := h.nd h0 h1
    have sz := nd.sz
    have nv : nvN γ (γ 35 x) = γ 4 (γ 35 x + 1) - γ 4 (γ 35 x) := rfl
    show f_M_present (MH n) γ x c = some (prF (n + 1) γ x c, γ)
    unfold f_M_present prF
    by_cases q : c ≠ -1
    · have i := idiv_fl h2 (by omega) (by omega)
      have v := h.var h0 h1 i.1 i.2
      rw [if_pos q, if_pos q, chk_t (by omega), chk_t (by decide), chk_t (by omega)]
      show chk (inb (γ 38 x + idiv c 2) 6100) _ = _
      rw [chk_t (by omega)]
      by_cases q2 : γ 55 (γ 38 x + idiv c 2) = 0
      · rw [if_pos q2, if_pos q2]
      · rw [if_neg q2, if_neg q2, chk_t (by omega)]
        by_cases q3 : γ 51 (γ 38 x + idiv c 2) ≠ iand c 1
        · rw [if_pos q3, if_pos q3]
        · rw [if_neg q3, if_neg q3]
    · rw [if_neg q, if_neg q, chk_t (by omega)]
      by_cases q2 : γ 36 x < 0
      · rw [if_pos q2, if_pos q2]
      · rw [if_neg q2, if_neg q2]
        have ⟨o1, o2, o3, o4⟩ := (h.2.2.2.2.2.2.2.2.1 x h0 h1).2.2.1 (by
          by_cases q3 : x = 0
          · rw [q3, m0.2.1] at q2; omega
          · omega)
        have no := h.nd (x := γ 36 x) (by omega) (by omega)
        have so := no.sz
        obtain ⟨ks, _, _, _, _, w, fl, _⟩ := no.pt o2.1 o2.2
        have w3 := w.2.2.1 o3
        rw [chk_t (by omega), chk_t (by omega), chk_t (by omega), bndN_eq (ih (γ 36 x) _ (by omega) (by omega) fl (by omega))]
        rcases prF_b n γ (γ 36 x) (γ 29 (γ 37 x)) with e | e
        · rw [e]; rfl
        · rw [e]; rfl
theorem present_eq {γ : St} (h : LkM γ) {x c : Int} (h0 : 0 ≤ x) (h1 : x < γ 0 50) (h2 : FlV (nvN γ (γ 35 x)) c) : F_M_present γ x c = some (prM γ x c, γ) := by
  have n60 := h.n60 h0 h1
  exact MH_eq h 100 x c h0 h1 h2 (by omega)
theorem w_joined {γ : St} {k a b : Int} : wp (f_M_joined γ k a b) (fun z => z.2 = γ) := by
  have t : ∀ x, wp (f_M_truth γ x) (fun z => z.2 = γ) := fun x => by
    unfold f_M_truth
    exact wp_ite (fun _ => wp_some rfl) (fun _ => wp_some rfl)
  have tt : ∀ x, wp (bndN (f_M_truth γ x) fun r γ' => some (r, γ')) (fun z => z.2 = γ) := fun x => wp_bnd (t x) (fun r γ' e => wp_some e)
  unfold f_M_joined
  refine wp_ite (fun _ => wp_ite (fun _ => tt 1) (fun _ => wp_ite (fun _ => tt 0) (fun _ => tt 1))) (fun _ => ?_)
  refine wp_ite (fun _ => wp_some rfl) (fun _ => ?_)
  refine wp_ite (fun _ => wp_some rfl) (fun _ => ?_)
  refine wp_ite (fun _ => wp_some rfl) (fun _ => ?_)
  refine wp_ite (fun _ => wp_ite (fun _ => tt _) (fun _ => tt _)) (fun _ => ?_)
  refine wp_ite (fun _ => wp_ite (fun _ => tt _) (fun _ => tt _)) (fun _ => ?_)
  refine wp_ite (fun _ => wp_ite (fun _ => tt _) (fun _ => tt _)) (fun _ => ?_)
  refine wp_ite (fun _ => wp_ite (fun _ => tt _) (fun _ => tt _)) (fun _ => ?_)
  refine wp_ite (fun _ => wp_ite (fun _ => tt _) (fun _ => tt _)) (fun _ => ?_)
  refine wp_ite (fun _ => wp_ite (fun _ => tt _) (fun _ => tt _)) (fun _ => ?_)
  refine wp_ite (fun _ => wp_some rfl) (fun _ => ?_)
  refine wp_ite (fun _ => wp_some rfl) (fun _ => ?_)
  refine wp_ite (fun _ => wp_some rfl) (fun _ => ?_)
  refine wp_ite (fun _ => wp_ite (fun q => wp_chk q (wp_some rfl)) (fun _ => wp_some rfl)) (fun _ => ?_)
  exact wp_ite (fun q => wp_chk q (wp_some rfl)) (fun _ => wp_some rfl)
/-- a part's worth is set, nothing else -/
def WkO (γ : St) (e : Int) (z : Int × St) : Prop := ∃ w, z.2 = setA γ 54 e w
theorem w_work {γ : St} (h : LkM γ) (b : B25 γ) {x e : Int} (h0 : 0 ≤ x) (h1 : x < γ 0 50) (e0 : psN γ (γ 35 x) ≤ e) (e1 : e < peN γ (γ 35 x)) : wp (f_M_work γ x e) (WkO γ e) := by
  have m50 := h.2.2.1
  have m51 := h.2.2.2.1
  have m52 := h.2.2.2.2.1
  have nd := h.nd h0 h1
  have sz := nd.sz
  have kd := nd.kd e0 e1
  have pf := h.pf h0 h1 e0 e1
  have b25 := b e
  have a := h.2.2.2.2.2.2.2.2.1 x h0 h1
  have ax := a.1.2.2.1
  have st := nd.st e0 e1
  have sw : ∀ k, k = 24 ∨ k = 5 ∨ k = 25 → stw k = 1 := fun k q => stw_24 q
  have s6 : stw 6 = 2 := rfl
  have he : 0 ≤ e ∧ e < 66000 := by omega
  have ok : ∀ w, wp (chk (inb e 66000) (ap (setA γ 54 e w) fun γ' => some ((0 : Int), γ'))) (WkO γ e) := fun w => wp_chk he (wp_sub (wp_some ⟨w, rfl⟩))
  have b21 : ∀ x4, (4 ≤ γ 20 e → x4 = γ 23 (γ 22 e)) → wp (f_M_work_b21 γ x e (γ 22 e) x4) (WkO γ e) := fun x4 h4 => by
    unfold f_M_work_b21
    refine wp_chk (by omega) (wp_chk he (wp_chk (by omega) (wp_sub (wp_chk he ?_))))
    refine wp_ite (fun _ => wp_chk he (ok _)) (fun q0 => ?_)
    refine wp_ite (fun _ => wp_chk he (ok _)) (fun q1 => ?_)
    refine wp_ite (fun q => ?_) (fun q2 => ?_)
    · have t := pf.2.2.1 q
      exact wp_chk (by omega) (wp_chk he (wp_chk (by omega) (wp_chk (by omega) (ok _))))
    refine wp_ite (fun q => ?_) (fun q3 => ?_)
    · obtain ⟨ks, _, _, _, _, w, _⟩ := nd.pt e0 e1
      have w3 := w.2.2.1 q
      have sg := (h.1 _ w3.1 (by have := a.1.1; omega)).sz
      have o := output_eq h h0 h1 e0 e1 q (i := 0) (by omega)
      exact wp_bs o.1 (wp_chk (by omega) (ok _))
    have x4e := h4 (by omega)
    have k1 := kd.2.1 (by omega)
    refine wp_ite (fun q => ?_) (fun q4 => ?_)
    · have k2 := kd.2.2.1 (by omega) (by omega)
      have k3 := kd.2.2.2 q
      rw [x4e]
      exact wp_chk (by omega) (wp_ite (fun _ => wp_chk (by omega) (wp_chk (by omega) (ok _))) (fun _ => wp_chk (by omega) (ok _)))
    refine wp_ite (fun q => ?_) (fun q5 => ?_)
    · have k2 := kd.2.2.1 (by omega) (by omega)
      have s1 := sw (γ 20 e) (by omega)
      have t := st (by omega)
      rw [x4e]
      exact wp_chk (by omega) (wp_ite (fun _ => wp_chk (by omega) (ok _)) (fun _ => wp_chk (by omega) (ok _)))
    refine wp_ite (fun q => ?_) (fun q6 => ?_)
    · have s2 : stw (γ 20 e) = 2 := by rw [q]; rfl
      have t := st (by omega)
      exact wp_chk (by omega) (wp_chk (by omega) (wp_ite (fun _ => wp_chk (by omega) (ok _)) (fun _ => wp_chk (by omega) (ok _))))
    refine wp_ite (fun q => wp_chk (by omega) (ok _)) (fun q22 => ?_)
    refine wp_ite (fun q => wp_chk (by omega) (ok _)) (fun q23 => ?_)
    refine wp_ite (fun q => ?_) (fun q24 => ?_)
    · have s1 := sw (γ 20 e) (by omega)
      have t := st (by omega)
      exact wp_chk (by omega) (ok _)
    refine wp_ite (fun q => ?_) (fun q25 => ?_)
    · have s1 := sw (γ 20 e) (by omega)
      have t := st (by omega)
      obtain ⟨_, _, _, _, _, _, fl, _⟩ := nd.pt (e := γ 22 e) k1.1 (by omega)
      refine wp_chk (by omega) (wp_bs (present_eq h h0 h1 fl) (wp_ite (fun _ => wp_chk (by omega) (ok _)) (fun _ => wp_chk (by omega) (ok _))))
    refine wp_ite (fun q => wp_chk (by omega) (ok _)) (fun q26 => ?_)
    have k2 := kd.2.2.1 (by omega) (by omega)
    rw [x4e]
    refine wp_chk he (wp_chk (by omega) (wp_chk (by omega) (wp_bnd w_joined (fun r γ' e' => ?_))))
    have e' : γ' = γ := e'
    subst e'
    exact ok _
  unfold f_M_work
  refine wp_chk he (wp_sub (wp_ite (fun q => ?_) (fun q => b21 _ (fun q4 => by have := kd.2.1 q4; omega))))
  refine wp_chk ?_ (b21 _ (fun _ => rfl))
  obtain ⟨ks, c1, c2, _⟩ := nd.pt e0 e1
  match ks, c1, c2 with
  | [], c1, c2 => have e1 : γ 22 e = -1 := c1; omega
  | y :: t, c1, c2 => have e1 : γ 22 e = y := c1.1; have := c2.mem y List.mem_cons_self; omega
