/-! equality: whatever both answer -/
section PQ
variable {α β : Type}
def pc (o : Option α) (P : α → Prop) : Prop := ∀ y, o = some y → P y
def pq (o : Option α) (m : Option β) (Q : α → β → Prop) : Prop := ∀ y z, o = some y → m = some z → Q y z
theorem wp.pc {o : Option α} {P : α → Prop} (h : wp o P) : pc o P := fun y e => by rw [e] at h; exact h
theorem pq_some {y : α} {z : β} {Q : α → β → Prop} (h : Q y z) : pq (some y) (some z) Q := fun a b e1 e2 => by cases e1; cases e2; exact h
theorem pq_nl {m : Option β} {Q : α → β → Prop} : pq none m Q := fun _ _ e _ => absurd e (by intro h; cases h)
theorem pq_nr {o : Option α} {Q : α → β → Prop} : pq o none Q := fun _ _ _ e => absurd e (by intro h; cases h)
theorem pq_cl {c : Prop} {inst : Decidable c} {o : Option α} {m : Option β} {Q : α → β → Prop} (h : c → pq o m Q) : pq (@chk c α inst o) m Q := fun y z e1 e2 => by
  have k := chk_e e1
  exact h k.1 y z k.2 e2
theorem pq_cr {c : Prop} {inst : Decidable c} {o : Option α} {m : Option β} {Q : α → β → Prop} (h : c → pq o m Q) : pq o (@chk c β inst m) Q := fun y z e1 e2 => by
  have k := chk_e e2
  exact h k.1 y z e1 k.2
theorem pq_il {c : Prop} {inst : Decidable c} {a b : Option α} {m : Option β} {Q : α → β → Prop} (h1 : c → pq a m Q) (h2 : ¬ c → pq b m Q) : pq (@ite _ c inst a b) m Q := by
  by_cases q : c
  · rw [if_pos q]; exact h1 q
  · rw [if_neg q]; exact h2 q
theorem pq_ir {c : Prop} {inst : Decidable c} {a b : Option β} {o : Option α} {Q : α → β → Prop} (h1 : c → pq o a Q) (h2 : ¬ c → pq o b Q) : pq o (@ite _ c inst a b) Q := by
  by_cases q : c
  · rw [if_pos q]; exact h1 q
  · rw [if_neg q]; exact h2 q
theorem pq_bl {c : Option (Int × St)} {K : Int → St → Option α} {m : Option β} {P : Int × St → Prop} {Q : α → β → Prop} (h : pc c P) (k : ∀ r γ', P (r, γ') → pq (K r γ') m Q) : pq (bndN c K) m Q := fun y z e1 e2 => by
  match c, h, e1 with
  | some (r, γ'), h, e1 => exact k r γ' (h _ rfl) y z e1 e2
theorem pq_br {c : Option (Int × St)} {K : Int → St → Option β} {o : Option α} {P : Int × St → Prop} {Q : α → β → Prop} (h : pc c P) (k : ∀ r γ', P (r, γ') → pq o (K r γ') Q) : pq o (bndN c K) Q := fun y z e1 e2 => by
  match c, h, e2 with
  | some (r, γ'), h, e2 => exact k r γ' (h _ rfl) y z e1 e2
theorem pq_brT {c : Option Res} {K : Int → St → Option Res} {o : Option α} {P : Res → Prop} {Q : α → Res → Prop} (h : pc c P) (kt : ∀ e γ', P (.inl e, γ') → pq o (some (.inl e, γ')) Q) (k : ∀ r γ', P (.inr r, γ') → pq o (K r γ') Q) : pq o (bndT c K) Q := fun y z e1 e2 => by
  match c, h, e2 with
  | some (.inl e, γ'), h, e2 => exact kt e γ' (h _ rfl) y z e1 e2
  | some (.inr r, γ'), h, e2 => exact k r γ' (h _ rfl) y z e1 e2
theorem pq_bb {c : Option (Int × St)} {m : Option Res} {K : Int → St → Option α} {K' : Int → St → Option Res} {R : Int × St → Res → Prop} {Q : α → Res → Prop} (h : pq c m R) (kt : ∀ r γ' e δ', R (r, γ') (.inl e, δ') → pq (K r γ') (some (.inl e, δ')) Q) (k : ∀ r γ' x δ', R (r, γ') (.inr x, δ') → pq (K r γ') (K' x δ') Q) : pq (bndN c K) (bndT m K') Q := fun y z e1 e2 => by
  match c, m, h, e1, e2 with
  | some (r, γ'), some (.inl e, δ'), h, e1, e2 => exact kt r γ' e δ' (h _ _ rfl rfl) y z e1 e2
  | some (r, γ'), some (.inr x, δ'), h, e1, e2 => exact k r γ' x δ' (h _ _ rfl rfl) y z e1 e2
theorem pq_mono {o : Option α} {m : Option β} {Q R : α → β → Prop} (h : pq o m Q) (k : ∀ y z, Q y z → R y z) : pq o m R := fun y z e1 e2 => k y z (h y z e1 e2)
theorem pq_yn {m : Option (Int × St)} {K : Int → St → Option β} {o : Option α} {δ' : St} {P : Prop} {Q : α → β → Prop} (h : wp m (Yn δ' P)) (h1 : P → pq o (K 1 δ') Q) (h0 : ¬ P → pq o (K 0 δ') Q) : pq o (bndN m K) Q := fun y z e1 e2 => by
  match m, h, e2 with
  | some w, h, e2 =>
    rcases h with ⟨e, q⟩ | ⟨e, q⟩
    · rw [e] at e2; exact h1 q y z e1 e2
    · rw [e] at e2; exact h0 q y z e1 e2
theorem pq_el {c : Option (Int × St)} {r : Int} {γ' : St} {K : Int → St → Option α} {m : Option β} {Q : α → β → Prop} (e : c = some (r, γ')) (h : pq (K r γ') m Q) : pq (bndN c K) m Q := by rw [bndN_eq e]; exact h
theorem pq_er {c : Option (Int × St)} {r : Int} {γ' : St} {K : Int → St → Option β} {o : Option α} {Q : α → β → Prop} (e : c = some (r, γ')) (h : pq o (K r γ') Q) : pq o (bndN c K) Q := by rw [bndN_eq e]; exact h
end PQ
/-- the class says no and the reference throws, at the same place and for the same kind; or both go on -/
def OuR (R : St → St → Prop) (y : Int × St) (z : Res) : Prop := (∃ k p, z.1 = .inl (k, p) ∧ y.1 = 0 ∧ y.2 1 7 = k ∧ y.2 1 8 = p ∧ k ≠ 0) ∨ (∃ x, z.1 = .inr x) ∧ y.1 = 1 ∧ R y.2 z.2
theorem OuR.ok {R : St → St → Prop} {γ δ : St} {x : Int} (h : R γ δ) : OuR R (1, γ) (.inr x, δ) := Or.inr ⟨⟨x, rfl⟩, rfl, h⟩
theorem OuR.no {R : St → St → Prop} {γ δ : St} {k p : Int} (h1 : γ 1 7 = k) (h2 : γ 1 8 = p) (h3 : k ≠ 0) : OuR R (0, γ) (.inl (k, p), δ) := Or.inl ⟨k, p, rfl, rfl, h1, h2, h3⟩
theorem OuR.er {R : St → St → Prop} {γ δ : St} {r : Int} {e : Int × Int} (h : OuR R (r, γ) (.inl e, δ)) : r = 0 ∧ γ 1 7 = e.1 ∧ γ 1 8 = e.2 ∧ e.1 ≠ 0 := by
  rcases h with ⟨k, p, a, b, c, d, f⟩ | ⟨⟨x, a⟩, b⟩
  · cases a; exact ⟨b, c, d, f⟩
  · cases a
theorem OuR.go {R : St → St → Prop} {γ δ : St} {r x : Int} (h : OuR R (r, γ) (.inr x, δ)) : r = 1 ∧ R γ δ := by
  rcases h with ⟨k, p, a, b⟩ | ⟨_, b, c⟩
  · cases a
  · exact ⟨b, c⟩
/-- an error is handed on -/
theorem OuR.hand {R R' : St → St → Prop} {γ δ : St} {r : Int} {e : Int × Int} (h : OuR R (r, γ) (.inl e, δ)) : OuR R' (0, γ) (.inl e, δ) := by
  have k := h.er
  exact Or.inl ⟨e.1, e.2, rfl, rfl, k.2.1, k.2.2.1, k.2.2.2⟩
/-- both stand at the same token, and nothing has been found wrong -/
def LxR (N : Int) (γ δ : St) : Prop := LexR N γ δ ∧ γ 1 7 = 0
theorem kind_pc {γ : St} : pc (f_Tk_kindNow γ) (fun z => z = (γ 14 (γ 1 6), γ)) := fun y e => by
  have k := (chk_e e).2
  cases k; rfl
theorem item_pc {γ : St} : pc (f_Tk_itemNow γ) (fun z => z = (γ 16 (γ 1 6), γ)) := fun y e => by
  have k := (chk_e e).2
  cases k; rfl
theorem place_pc {γ : St} : pc (f_Tk_placeNow γ) (fun z => z = (γ 15 (γ 1 6), γ)) := fun y e => by
  have k := (chk_e e).2
  cases k; rfl
/-- what fail leaves -/
def flS (γ : St) (k : Int) : St := setA (setA γ 1 7 k) 1 8 (γ 15 (γ 1 6))
theorem fail_pc {γ : St} {k : Int} (h : γ 1 7 = 0) : pc (f_Tk_fail γ k) (fun z => z = (0, flS γ k)) := fun y e => by
  unfold f_Tk_fail at e
  rw [if_neg (fun r => r h)] at e
  have e2 := (chk_e e).2
  have e3 : some (0, setA (setA γ 1 7 k) 1 8 (setA γ 1 7 k 15 (setA γ 1 7 k 1 6))) = some y := e2
  cases e3
  have a : setA γ 1 7 k 1 6 = γ 1 6 := by rw [stA, if_neg (by omega)]
  have b : setA γ 1 7 k 15 (γ 1 6) = γ 15 (γ 1 6) := by rw [stA, if_neg (by omega)]
  rw [a, b]; rfl
theorem flS_7 (γ : St) (k : Int) : flS γ k 1 7 = k := by unfold flS; rw [stA, if_neg (by omega), stA, if_pos ⟨rfl, rfl⟩]
theorem flS_8 (γ : St) (k : Int) : flS γ k 1 8 = γ 15 (γ 1 6) := by unfold flS; rw [stA, if_pos ⟨rfl, rfl⟩]
/-- both find the same fault here -/
theorem pq_fail {R : St → St → Prop} {N k : Int} {γ δ δ' : St} (h : LxR N γ δ) (hk : k ≠ 0) {p : Int} (hp : p = sk δ) : pq (bndN (f_Tk_fail γ k) fun r γ' => some (r, γ')) (some (Sum.inl (k, p), δ')) (OuR R) := by
  refine pq_bl (fail_pc h.2) (fun r γ' e => ?_)
  cases e
  exact pq_some (OuR.no (flS_7 γ k) (by rw [flS_8, hp, h.1.2.2.2.2]) hk)
theorem pq_cant {R : St → St → Prop} {N : Int} {γ δ : St} (h : LxR N γ δ) : pq (bndN (f_Tk_fail γ 1) fun r γ' => some (r, γ')) (bndN (f_M_cant δ) fun p γ' => some (Sum.inl (1, p), γ')) (OuR R) := by
  rw [bndN_eq (cant_eq h.1.1)]
  exact pq_fail h (by decide) rfl
/-- what a step leaves -/
def nxS (γ : St) : St := setA γ 1 6 (γ 1 6 + 1)
theorem nxS_o (γ : St) {j : Nat} {k : Int} (h : j ≠ 1 ∨ k ≠ 6) : nxS γ j k = γ j k := by unfold nxS; rw [stA, if_neg (by omega)]
theorem step_pc {N : Int} {γ δ : St} (h : LexR N γ δ) (k0 : tK δ ≠ 0) (k3 : tK δ ≠ 3) : pc (f_Tk_step γ) (fun z => z = (0, nxS γ)) := fun y e => by
  have ⟨h1, h2, h3, h4, h5⟩ := h
  have K := h.K
  have ln : γ 1 6 < N := by
    by_cases q : γ 1 6 = N
    · rw [q] at K
      rcases h3.2.2.2.2 with r | r
      · exact absurd (K.symm.trans r.1) k0
      · exact absurd (K.symm.trans r) k3
    · omega
  have b := h3.2.1
  unfold f_Tk_step at e
  have e1 := (chk_e e).2
  rw [if_neg (by omega)] at e1
  have e2 : some (0, nxS γ) = some y := (chk_e e1).2
  cases e2; rfl
theorem LexR.tk2 {N : Int} {γ δ : St} (h : LexR N γ δ) (k0 : tK δ ≠ 0) (k3 : tK δ ≠ 3) : LexR N (nxS γ) (tkS δ) := by
  have ⟨h1, h2, h3, h4, h5⟩ := h
  have K := h.K
  have E := h.E
  have ln : γ 1 6 < N := by
    by_cases q : γ 1 6 = N
    · rw [q] at K
      rcases h3.2.2.2.2 with r | r
      · exact absurd (K.symm.trans r.1) k0
      · exact absurd (K.symm.trans r) k3
    · omega
  have e6 : nxS γ 1 6 = γ 1 6 + 1 := by unfold nxS; rw [stA, if_pos ⟨rfl, rfl⟩]
  refine ⟨h1.tk, ?_, ?_, ?_, ?_⟩
  · rw [tkS_o δ 0 1 (by omega), tkS_1]
    intro k q1 q2
    rw [nxS_o γ (by omega)]
    exact h2 k q1 q2
  · rw [tkS_o δ 0 1 (by omega)]
    exact h3.fr (fun j k q => nxS_o γ (by omega)) (nxS_o γ (by omega)) (nxS_o γ (by omega))
  · rw [e6]; omega
  · rw [e6, nxS_o γ (by omega)]
    have a := (h3.2.2.1 (γ 1 6 + 1) (by omega) (by omega)).1
    unfold nxP at a
    rw [if_neg (by omega), show γ 1 6 + 1 - 1 = γ 1 6 by omega, E] at a
    rw [a]
    show skpF (tkS δ 1) (tkS δ 0 1) FU (tkS δ 0 5) = _
    rw [tkS_1, tkS_o δ 0 1 (by omega), tkS_5]
    have t := h1.te2
    have s := h.s0
    exact skpF_ag h2 FU (tE δ) (by omega)
theorem LxR.tk {N : Int} {γ δ : St} (h : LxR N γ δ) (k0 : tK δ ≠ 0) (k3 : tK δ ≠ 3) : LxR N (nxS γ) (tkS δ) := ⟨h.1.tk2 k0 k3, by rw [nxS_o γ (by omega)]; exact h.2⟩
theorem LxR.pk {N : Int} {γ δ : St} (h : LxR N γ δ) : LxR N γ (pkS δ) := ⟨h.1.pk, h.2⟩
theorem LxR.fr {N : Int} {γ γ' δ δ' : St} (h : LxR N γ δ) (e : ∀ j k, 13 ≤ j ∧ j ≤ 20 → γ' j k = γ j k) (e1 : ∀ k, 5 ≤ k → k ≤ 7 → γ' 1 k = γ 1 k) (e8 : γ' 2 8 = γ 2 8) (d1 : δ' 1 = δ 1) (d0 : ∀ k, k = 1 ∨ 5 ≤ k ∧ k ≤ 9 → δ' 0 k = δ 0 k) : LxR N γ' δ' := by
  have ⟨⟨h1, h2, h3, h4, h5⟩, h6⟩ := h
  have s : sk δ' = sk δ := by
    show skpF (δ' 1) (δ' 0 1) FU (δ' 0 5) = skpF (δ 1) (δ 0 1) FU (δ 0 5)
    rw [d1, d0 1 (by omega), d0 5 (by omega)]
  refine ⟨⟨h1.fr d1 d0, ?_, ?_, ?_, ?_⟩, by rw [e1 7 (by omega) (by omega)]; exact h6⟩
  · rw [d0 1 (by omega), d1]
    intro k q1 q2
    rw [e 13 k (by omega)]
    exact h2 k q1 q2
  · rw [d0 1 (by omega)]
    exact h3.fr e (e1 5 (by omega) (by omega)) e8
  · rw [e1 6 (by omega) (by omega)]; exact h4
  · rw [e1 6 (by omega) (by omega), e 15 _ (by omega), s]; exact h5
/-- what moves with the tokens: the rest stands -/
def MvR (R : St → St → Prop) : Prop := ∀ γ δ, R γ δ → R (nxS γ) (tkS δ)
/-- a sign is expected -/
theorem pq_expect {N a c : Int} {γ δ : St} (h : LxR N γ δ) (hc : sgC a = c) (h1 : c ≠ 1) (h0 : c ≠ 0) (h3 : a ≠ 3) : pq (f_Tk_expect γ c) (f_M_must δ a) (fun y z => OuR (fun γ' δ' => LxR N γ' δ' ∧ γ' = nxS γ ∧ δ' = tkS δ ∧ tK δ = a) y z) := by
  unfold f_Tk_expect
  refine pq_cl (fun _ => pq_il (fun q => ?_) (fun q => ?_))
  · have k := (h.1.sg (k := a) (by omega)).1 (by rw [hc]; exact q)
    have a0 : a ≠ 0 := fun r => by subst r; exact h0 hc.symm
    rw [must_y h.1.1 k]
    refine pq_bl (step_pc h.1 (by omega) (by omega)) (fun r γ' e => ?_)
    cases e
    exact pq_some (OuR.ok ⟨h.tk (by omega) (by omega), rfl, rfl, k⟩)
  · have k : tK δ ≠ a := fun r => q (by rw [← hc]; exact (h.1.sg (k := a) (by omega)).2 r)
    rw [must_n h.1.1 k]
    exact pq_fail h (by decide) rfl
/-- a keyword is expected -/
theorem pq_expectW {N c : Int} {w : Nat} {γ δ : St} (h : LxR N γ δ) (hw : w < 22) (hc : c = 20 + w) : pq (f_Tk_expect γ c) (f_M_mustBe δ w) (fun y z => OuR (fun γ' δ' => LxR N γ' δ' ∧ γ' = nxS γ ∧ δ' = tkS δ ∧ kwQ δ w) y z) := by
  intro y z e1 e2
  have m := w_mustBe h.1.1 w
  rw [e2] at m
  have k := h.1.kw hw
  unfold f_Tk_expect at e1
  have e3 := (chk_e e1).2
  rcases m with ⟨m, q⟩ | ⟨m, q⟩
  · subst m
    rw [if_pos (by rw [hc]; exact k.2 q)] at e3
    have k1 : tK δ = 1 := q.1
    exact (pq_bl (m := some (Sum.inr 0, tkS δ)) (step_pc h.1 (by omega) (by omega)) (fun r γ' e => by cases e; exact pq_some (OuR.ok ⟨h.tk (by omega) (by omega), rfl, rfl, q⟩))) y _ e3 rfl
  · subst m
    rw [if_neg (fun r => q (k.1 (by rw [← hc]; exact r)))] at e3
    exact pq_fail h (by decide) rfl y _ e3 rfl
