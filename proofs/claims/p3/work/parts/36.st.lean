/-! stretches of code: a Wrong is made and thrown; texts; Math -/
/-- one value is pushed; the state may change as a call says -/
def PU (Γ : Ctx) (B : Tb) (mt : MT) (R : Room) (lv : List (Nat × Value)) (γ γ' : St) (pc pc' : Nat) (v : Value) : Prop :=
  ∀ (p : Program) (e : Env) (s : State) (m : MethodId) (args : Array Value) (below : List Frame) (meth : Method) (c : Code) (H : Heap) (locs : List Loc) (ls : Array Slot) (cells slots : Nat) (Q : State → Prop) (st : List Value),
    CX Γ B mt R p s m args meth c → WB B γ → lv_has ls mt.2.2.1 lv → va_P Γ.D kl (wB Γ γ 0 B) H → va_S (mA Γ B s.heap.size) s.heap H locs → cells ≤ R.cells → slots ≤ R.slots → (st.map fun v => v.category).sum ≤ 8 →
    (∀ (H1 : Heap) (locs1 : List Loc), WB B γ' → va_P Γ.D kl (wB Γ γ' 0 B) H1 → H.size ≤ H1.size → (∀ q : Nat, q < H.size → ¬ adB Γ B q → H1[q]? = H[q]?) → va_S (mA Γ B s.heap.size) s.heap H1 locs1 → W p Γ.l e R s m args below meth c H1 locs1 cells slots Q (F0 m pc' ls (v :: st))) →
    W p Γ.l e R s m args below meth c H locs cells slots Q (F0 m pc ls st)
section ST
variable {Γ : Ctx} {B : Tb} {mt : MT} {R : Room} {ce sl : Nat} {ζ : Type} {K : Kd ζ} {pc : Nat} {lv lv' : List (Nat × Value)} {st : List Value} {γ : St} {o : Option ζ}
theorem pu_iconst {n : Int} (d : decode mt.2.1 pc = .ok (.iconst n, 1)) : PU Γ B mt R lv γ γ pc (pc + 1) (vI n) := fun p e s m args below meth c H locs ls cells slots Q st X hw hl hP hS _ _ _ k => lv_iconst X.x X.b d rfl (k H locs hw hP (Nat.le_refl _) (fun _ _ _ => rfl) hS)
theorem pu_bipush {n : Int} (d : decode mt.2.1 pc = .ok (.bipush n, 2)) (hv : (Int8.ofInt n).toInt32 = iI n) : PU Γ B mt R lv γ γ pc (pc + 2) (vI n) := fun p e s m args below meth c H locs ls cells slots Q st X hw hl hP hS _ _ _ k => lv_bipush X.x X.b d hv (k H locs hw hP (Nat.le_refl _) (fun _ _ _ => rfl) hS)
theorem pu_iload_n {q : Fin 4} {x : Int} (n : Nat) (d : decode mt.2.1 pc = .ok (.iload_n q, 1)) (h : lv[n]? = some ((q : Nat), vI x)) : PU Γ B mt R lv γ γ pc (pc + 1) (vI x) := fun p e s m args below meth c H locs ls cells slots Q st X hw hl hP hS _ _ _ k => lv_iload_n X.x X.b d rfl (lv_at hl n h) (k H locs hw hP (Nat.le_refl _) (fun _ _ _ => rfl) hS)
theorem pu_fld {j ci N index : Nat} {ks : List Nat} {C : String} {T : u_T} {ty : Nat → FieldType} (F : KF ci C T N ty) (n k : Nat) (h : lv[n]? = some (0, vR Γ j)) (hj : B[j]? = some (.inr (ci, ks))) (hk : ks[k]? = some 0) (hN : k < N) (hlink : Cond.fieldLink mt.1 index (T k).1 (T k).2.1 (T k).2.2.1 ∈ gG) (d0 : decode mt.2.1 pc = .ok (.aload_n 0, 1)) (d : decode mt.2.1 (pc + 1) = .ok (.getfield index, 3)) : PU Γ B mt R lv γ γ pc (pc + 4) (vI (γ j k)) := fun p e s m args below meth c H locs ls cells slots Q st X hw hl hP hS _ _ _ kk =>
  lv_aload_n X.x X.b d0 rfl (lv_at hl n h) (va_get X.x X.b X.G F.2.1 X.own X.K hP j (wB_at hj) F.1 k hN (X.G _ hlink) (fun _ h => h) (fvals_get hk) d (by
    simp only [Nat.zero_add]
    exact kk H locs hw hP (Nat.le_refl _) (fun _ _ _ => rfl) hS))
/-- aload_0, iload, invokevirtual of a method that only returns -/
theorem pu_call {y : MethodName} {mu : MT} {fr lo j ci index : Nat} {ks : List Nat} {x r : Int} {γ' : St} {q : Fin 4} (F : VF y mu ci 1) (hC : NC Γ B y mu fr lo [.ref (Γ.a j), vI x] γ (some (r, γ'))) (n0 n1 : Nat) (h0 : lv[n0]? = some (0, vR Γ j)) (h1 : lv[n1]? = some ((q : Nat), vI x)) (hj : B[j]? = some (.inr (ci, ks))) (hm : Cond.methodLink mt.1 index y ∈ gG) (hr : mu.2.2.2 = some .int) (hR : fr + 1 ≤ R.frames ∧ 8 + (mu.2.2.1 + 11) + lo ≤ R.locals) (d0 : decode mt.2.1 pc = .ok (.aload_n 0, 1)) (d1 : decode mt.2.1 (pc + 1) = .ok (.iload_n q, 1)) (d : decode mt.2.1 (pc + 2) = .ok (.invokevirtual index, 3)) : PU Γ B mt R lv γ γ' pc (pc + 5) (vI r) := fun p e s m args below meth c H locs ls cells slots Q st X hw hl hP hS hc hs hW kk => by
  obtain ⟨f1, f2, f3, f4, f5, T, N, f6⟩ := F
  have hM := hC _ rfl hw H.size
  refine lv_aload_n X.x X.b d0 rfl (lv_at hl n0 h0) (lv_iload_n X.x X.b d1 rfl (lv_at hl n1 h1) ?_)
  have run := va_runV (p := p) (e := e) (R := R) (s := s) (m := m) (args := args) (below := below) (meth := meth) (c := c) (H := H) (locs := locs) (cells := cells) (slots := slots) (As := [vI x]) (rest := st) (g := F0 m (pc + 2) ls (vI x :: vR Γ j :: st)) (b := Γ.a j) (C := mu.1) ⟨X.x, X.b, X.ml, X.own, X.G⟩ hM (gcV 1 gG_good X.G hm f1 f2 f3 f4 rfl rfl f5 hR)
      ⟨mPre_blind, va_recv X.K hP f6 (wB_at hj), fun U hU hW => ⟨rfl, mPre_U X hP hS U hU hW⟩⟩ rfl rfl hl.1 rfl (lv_room (m := m) (pc := pc + 2) (ls := ls) (rest := vI x :: vR Γ j :: st) hW) d ⟨hc, hs⟩
  intro T0 hT0 XT
  obtain ⟨v, st₀, t, T', L, e0, X', hL, e1, e2, ⟨⟨hv, hok, hwb, hPz⟩, hz1, hk1⟩, go⟩ := run T0 hT0 XT
  rw [hr] at hv
  cases hv
  rw [e0] at hz1 hk1
  rw [← e1] at hPz hz1 hk1
  obtain ⟨t2, a1, b1⟩ := kk T'.heap (locs ++ L) hwb hPz hz1 (fun q h1 h2 => hk1 q h1 (fun z => z.elim h2 (fun w => absurd h1 (Nat.not_lt.mpr w)))) (va_S_call hS hz1 hk1 hL) T' rfl X'
  exact ⟨t2, go t2 a1, b1⟩
/-- the start of 'new Wrong(..)' -/
theorem mt_new {p : Program} {e : Env} {s : State} {m : MethodId} {args : Array Value} {below : List Frame} {meth : Method} {c : Code} {H : Heap} {locs : List Loc} {ls : Array Slot} {cells slots : Nat} {Q : State → Prop} (X : CX Γ B mt R p s m args meth c) (hM : mt.1 = R_M) (hP : va_P Γ.D kl (wB Γ γ 0 B) H) (hS : va_S (mA Γ B s.heap.size) s.heap H locs) (hf : cells + 1 ≤ R.cells ∧ slots + 8 ≤ R.slots) (d : decode mt.2.1 pc = .ok (.new 296, 3))
    (k : ∀ (q : Nat) (H1 : Heap), va_P Γ.D kl (wB Γ γ 0 B) H1 → va_P Γ.D kl [(q, .inr (13, wrF 0 0))] H1 → s.heap.size ≤ q → ¬ adB Γ B q → va_S (mA Γ B s.heap.size) s.heap H1 locs → W p Γ.l e R s m args below meth c H1 locs (cells + 1) (slots + 8) Q (F0 m (pc + 3) ls (.ref q :: st))) : W p Γ.l e R s m args below meth c H locs cells slots Q (F0 m pc ls st) := by
  have hown : s.vm.findClass R_M = some m.cls := hM ▸ X.own
  refine va_new (ci := 13) (fs := wrF 0 0) (C := R_Wr) (T := T_Wr) (N := 8) X.x X.b X.G gi_Wr ty_Wr to_Wr hown (X.G _ cl_M_296) (X.G _ ia_Wr) (X.G _ in_Wr) X.K hP (wB_D X.ap γ) hS (fun q h => Or.inr h) rfl (fun j hj => by rcases (show j = 0 ∨ j = 1 ∨ j = 2 ∨ j = 3 ∨ j = 4 ∨ j = 5 ∨ j = 6 ∨ j = 7 by omega) with rfl | rfl | rfl | rfl | rfl | rfl | rfl | rfl <;> rfl) hf.1 hf.2 d (fun q H1 h1 h2 h3 => ?_)
  have hl : (wB Γ γ 0 B ++ [(q, .inr (13, wrF 0 0))])[(wB Γ γ 0 B).length]? = some (q, .inr (13, wrF 0 0)) := by simp
  have hw : ∀ j x, (wB Γ γ 0 B)[j]? = some x → (wB Γ γ 0 B ++ [(q, .inr (13, wrF 0 0))])[j]? = some x := fun j x hj => by
    rw [List.getElem?_append_left (List.getElem?_eq_some_iff.mp hj).1]
    exact hj
  have hq : ¬ adB Γ B q := by
    rintro ⟨j, hj, e⟩
    have h5 := wB_at (Γ := Γ) (γ := γ) (List.getElem?_eq_getElem hj)
    have h6 := h2.1 j (wB Γ γ 0 B).length _ _ (hw j _ h5) hl e.symm
    rw [wB_len] at h6
    omega
  refine k q H1 (fun j x hj => h1 j x (hw j x hj)) (fun j x hj => ?_) ?_ hq h3
  · match j, hj with
    | 0, hj =>
      cases hj
      exact h1 _ _ hl
    | j + 1, hj => simp at hj
  · exact (h2.2 _ _ hl).resolve_left hq
theorem mt_init {p : Program} {e : Env} {s : State} {m : MethodId} {args : Array Value} {below : List Frame} {meth : Method} {c : Code} {H : Heap} {locs : List Loc} {ls : Array Slot} {cells slots : Nat} {Q : State → Prop} (X : CX Γ B mt R p s m args meth c) (hM : mt.1 = R_M) (hl : ls.size = mt.2.2.1) {q : Nat} {kd pl : Int} (hP : va_P Γ.D kl (wB Γ γ 0 B) H) (hq : va_P Γ.D kl [(q, .inr (13, wrF 0 0))] H) (hqa : ¬ adB Γ B q) (hqz : s.heap.size ≤ q) (hS : va_S (mA Γ B s.heap.size) s.heap H locs) (hR : 5 ≤ R.frames ∧ 122 ≤ R.locals) (hf : cells ≤ R.cells ∧ slots ≤ R.slots) (hW : (st.map fun v => v.category).sum ≤ 8) (d : decode mt.2.1 pc = .ok (.invokespecial 298, 3))
    (k : ∀ (H1 : Heap) (locs1 : List Loc), va_P Γ.D kl (wB Γ γ 0 B) H1 → va_P Γ.D kl [(q, .inr (13, wrF kd pl))] H1 → va_S (mA Γ B s.heap.size) s.heap H1 locs1 → W p Γ.l e R s m args below meth c H1 locs1 cells slots Q (F0 m (pc + 3) ls st)) : W p Γ.l e R s m args below meth c H locs cells slots Q (F0 m pc ls (vI pl :: vI kd :: .ref q :: st)) := by
  have hown : s.vm.findClass R_M = some m.cls := hM ▸ X.own
  have hD : va_D (mA Γ B s.heap.size) [(q, .inr (13, wrF 0 0))] := ⟨fun i j p' q' hi hj _ => by
      have := (List.getElem?_eq_some_iff.mp hi).1
      have := (List.getElem?_eq_some_iff.mp hj).1
      simp at *
      omega, fun i q' hi => by
      match i, hi with
      | 0, hi => cases hi; exact Or.inr hqz
      | i + 1, hi => simp at hi⟩
  have hF : ∀ q', va_A [(q, .inr (13, wrF 0 0))] H.size q' → mA Γ B s.heap.size q' := fun q' h => by
    rcases h with ⟨j, x, hj⟩ | h
    · match j, hj with
      | 0, hj => cases hj; exact Or.inr hqz
      | j + 1, hj => simp at hj
    · exact Or.inr (Nat.le_trans hS.1 h)
  refine va_callv (va_runI (As := [vI kd, vI pl]) (rest := st) ⟨X.x, X.b, X.ml, hown, X.G⟩ (c_Wr_init Γ.l Γ.D Γ.c.1 Γ.c.2.1 Γ.c.2.2.1 Γ.c.2.2.2 H.size q (iI kd) (iI pl)) (gcI 2 gG_good X.G ml_M_298 im_Wr_init in_Wr co_Wr_init rfl rfl rfl (by decide +kernel) ⟨hR.1, hR.2⟩) (cz_pre hq X.K hD X.E.1.1.1 hS hF) rfl rfl hl rfl (lv_room (m := m) (pc := pc) (ls := ls) (rest := st) hW) d hf) hS (fun q' _ h => hF q' h) hF (fun _ t H1 locs1 ht hvm hw hB hz1 hk1 hS1 => ?_)
  obtain ⟨hP1, hD1⟩ := hB
  rw [ht] at hP1
  refine k H1 locs1 (wB_kept hP (fun q' h => hk1 q' (wB_lt hP h) (fun z => ?_))) hP1 hS1
  rcases z with ⟨j, x, hj⟩ | z
  · match j, hj with
    | 0, hj => cases hj; exact hqa h
    | j + 1, hj => simp at hj
  · exact absurd (wB_lt hP h) (Nat.not_lt.mpr z)
/-- throw new Wrong(kd, pl) -/
theorem sb_thr {fr lo pc1 pc2 : Nat} {γ1 γ2 : St} {kd pl : Int} (hM : mt.1 = R_M) (h0 : decode mt.2.1 pc = .ok (.new 296, 3)) (h1 : decode mt.2.1 (pc + 3) = .ok (.dup, 1)) (p1 : PU Γ B mt (RmT fr lo) lv γ γ1 (pc + 4) pc1 (vI kd)) (p2 : PU Γ B mt (RmT fr lo) lv γ1 γ2 pc1 pc2 (vI pl)) (h2 : decode mt.2.1 pc2 = .ok (.invokespecial 298, 3)) (h3 : decode mt.2.1 (pc2 + 3) = .ok (.athrow, 1)) (hkd : i32 kd) (hpl : i32 pl) (hR : 5 ≤ fr ∧ 122 ≤ lo) : SB Γ B mt (RmT fr lo) 0 0 (KT Γ B mt.2.2.2) pc lv [] γ (some (.inl (kd, pl), γ2)) := fun z hz p e s m args below meth c H locs ls X hc hw hl hP hS => by
  cases hz
  refine mt_new (cells := 0) (slots := 0) X hM hP hS ⟨Nat.le_refl _, Nat.le_refl _⟩ h0 (fun q H hP hq hqz hqa hS => ?_)
  refine lv_dup X.x X.b h1 rfl ?_
  refine p1 p e s m args below meth c H locs ls _ _ _ _ X hw hl hP hS (Nat.le_refl _) (Nat.le_refl _) (Nat.le_of_ble_eq_true rfl) (fun H1 locs1 hw hP hz1 hk1 hS => ?_)
  have hql : q < H.size := (hq 0 _ rfl).lt
  have hq : va_P Γ.D kl [(q, .inr (13, wrF 0 0))] H1 := hq.kept (fun k' q' hk' => by
    match k', hk' with
    | 0, hk' => cases hk'; exact hk1 q hql hqa
    | k' + 1, hk' => simp at hk')
  refine p2 p e s m args below meth c H1 locs1 ls _ _ _ _ X hw hl hP hS (Nat.le_refl _) (Nat.le_refl _) (Nat.le_of_ble_eq_true rfl) (fun H2 locs2 hw hP hz2 hk2 hS => ?_)
  have hq : va_P Γ.D kl [(q, .inr (13, wrF 0 0))] H2 := hq.kept (fun k' q' hk' => by
    match k', hk' with
    | 0, hk' => cases hk'; exact hk2 q (Nat.lt_of_lt_of_le hql hz1) hqa
    | k' + 1, hk' => simp at hk')
  refine mt_init X hM hl.1 hP hq hqa hqz hS hR ⟨Nat.le_refl _, Nat.le_refl _⟩ (Nat.le_of_ble_eq_true rfl) h2 (fun H3 locs3 hP hq hS => ?_)
  obtain ⟨ce, hce, hcv, hcl⟩ := va_recv X.K hq (ci := 13) (q0 := 0) rfl rfl
  exact bm_mono (fun t h => bm_T t h) (xt_athrow X.x X.b hqz hce hcv hcl (xt_none (X.nt (show (8 : Nat) < 9 by decide))) X.lk hS.2.2 (fun t ht hW => ⟨⟨kd, pl, rfl, hkd, hpl, hw, by rw [ht]; exact hP, by rw [ht]; exact hq⟩, hS.F ht⟩) h3)
/-- texts -/
def kwL (k : Nat) : Int := ((kwBs k).length : Int)
def kwC (k : Nat) (i : Int) : Int := (kwCh k i.toNat &&& 255).toInt
theorem sb_ldcS {k : Nat} (hk : k < 22) (hM : mt.1 = R_M) (d : decode mt.2.1 pc = .ok (.ldc_w (321 + 2 * k), 3)) (kk : SB Γ B mt R ce sl K (pc + 3) lv (.ref (Γ.σ k).1 :: st) γ o) : SB Γ B mt R ce sl K pc lv st γ o := fun z hz p e s m args below meth c H locs ls X hc hw hl hP hS =>
  va_ldcwS X.x X.b (hM ▸ X.own) (X.E.2.2.1 k hk).1 d (kk z hz p e s m args below meth c H locs ls X hc hw hl hP hS)
theorem sb_slen {k : Nat} (hk : k < 22) (hM : mt.1 = R_M) (hR : 4 ≤ R.frames ∧ 200 ≤ R.locals) (hW : (st.map fun v => v.category).sum ≤ 8) (d : decode mt.2.1 pc = .ok (.invokevirtual 308, 3)) (kk : SB Γ B mt R ce sl K (pc + 3) lv (vI (kwL k) :: st) γ o) : SB Γ B mt R ce sl K pc lv (.ref (Γ.σ k).1 :: st) γ o := fun z hz p e s m args below meth c H locs ls X hc hw hl hP hS => by
  have hown : s.vm.findClass R_M = some m.cls := hM ▸ X.own
  have hT := (X.E.2.2.1 k hk).2.kept hS.2.1
  have hE2 := X.E.2.1.kept hS.2.1
  obtain ⟨cl, hc1, hc2, hc3, -⟩ := hT.1
  have e9 : nI (kwBs k).length = iI (kwL k) := Int32.ofInt_eq_ofNat.symm
  refine W.callR (W.runV (As := []) (rest := st) (C := "java/lang/String") ⟨X.x, X.b, X.ml, hown, X.G⟩ (c_Str_length Γ.l (Γ.σ k).1 (Γ.σ k).2 (kwBs k).length (kwCh k)) (gcV 0 gG_good X.G ml_M_308 im_Str_length se_Str_length in_Str co_Str_length rfl rfl (by decide +kernel) ⟨Nat.le_trans (by decide) hR.1, Nat.le_trans (by decide) hR.2⟩) ⟨sg_blindP, ⟨cl, hc1, hc2, hc3⟩, fun U hU hW => ⟨rfl, by rw [hU]; exact (hT.moved hW.alike).narrow (fun _ h => h.elim), by rw [hU]; exact (hE2.moved hW.alike).narrow (fun _ h => h.elim)⟩⟩ rfl rfl hl.1 rfl (lv_room (m := m) (pc := pc) (ls := ls) (rest := st) hW) d hc) ?_
  rw [e9]
  exact kk z hz p e s m args below meth c H locs ls X hc hw hl hP hS
theorem sb_schr {k : Nat} {i : Int} {inst : Decidable (inb i (kwL k))} (hk : k < 22) (hM : mt.1 = R_M) (hR : 4 ≤ R.frames ∧ 200 ≤ R.locals) (hW : (st.map fun v => v.category).sum ≤ 8) (d : decode mt.2.1 pc = .ok (.invokevirtual 313, 3)) (kk : inb i (kwL k) → SB Γ B mt R ce sl K (pc + 3) lv (vI (kwC k i) :: st) γ o) : SB Γ B mt R ce sl K pc lv (vI i :: .ref (Γ.σ k).1 :: st) γ (@chk (inb i (kwL k)) ζ inst o) := sb_chk fun hi z hz p e s m args below meth c H locs ls X hc hw hl hP hS => by
  have hown : s.vm.findClass R_M = some m.cls := hM ▸ X.own
  have hT := (X.E.2.2.1 k hk).2.kept hS.2.1
  have hE2 := X.E.2.1.kept hS.2.1
  obtain ⟨cl, hc1, hc2, hc3, -⟩ := hT.1
  have hi' : 0 ≤ i ∧ i < ((kwBs k).length : Int) := hi
  have e9 : iI i = nI i.toNat := by
    have h9 : ((i.toNat : Nat) : Int) = i := Int.toNat_of_nonneg hi.1
    rw [← h9]
    exact Int32.ofInt_eq_ofNat
  have hN : (kwBs k).length < 2 ^ 31 := by
    have : ∀ k < 22, (kwBs k).length < 2 ^ 31 := by decide +kernel
    exact this k hk
  show W p Γ.l e R s m args below meth c H locs ce sl (K below args s z) (F0 m pc ls (.int (iI i) :: .ref (Γ.σ k).1 :: st))
  rw [e9]
  exact W.callR (W.runV (As := [.int (nI i.toNat)]) (rest := st) (C := "java/lang/String") ⟨X.x, X.b, X.ml, hown, X.G⟩ (c_Str_charAt Γ.l (Γ.σ k).1 (Γ.σ k).2 (kwBs k).length i.toNat (kwCh k) (by omega) hN) (gcV 1 gG_good X.G ml_M_313 im_Str_charAt se_Str_charAt in_Str co_Str_charAt rfl rfl (by decide +kernel) ⟨Nat.le_trans (by decide) hR.1, Nat.le_trans (by decide) hR.2⟩) ⟨sg_blindP, ⟨cl, hc1, hc2, hc3⟩, fun U hU hW => ⟨rfl, by rw [hU]; exact (hT.moved hW.alike).narrow (fun _ h => h.elim), by rw [hU]; exact (hE2.moved hW.alike).narrow (fun _ h => h.elim)⟩⟩ rfl rfl hl.1 rfl (lv_room (m := m) (pc := pc) (ls := ls) (rest := st) hW) d hc) (sb_nm (kk hi) z hz p e s m args below meth c H locs ls X hc hw hl hP hS)
theorem sb_mmax {x y : Int} {index : Nat} (hx : i32 x) (hy : i32 y) (hm : Cond.methodLink mt.1 index Lib.Math.max.name ∈ gG) (h1 : Cond.static Lib.Math.max.name ∈ gG) (h2 : Cond.initialized "java/lang/Math" ∈ gG) (h3 : Cond.code Lib.Math.max.name Lib.Math.max.code 2 (some .int) ∈ gG) (hR : 1 ≤ R.frames ∧ (st.map fun v => v.category).sum + 13 ≤ R.locals) (d : decode mt.2.1 pc = .ok (.invokestatic index, 3)) (kk : SB Γ B mt R ce sl K (pc + 3) lv (vI (max x y) :: st) γ o) : SB Γ B mt R ce sl K pc lv (vI y :: vI x :: st) γ o := fun z hz p e s m args below meth c H locs ls X hc hw hl hP hS =>
  va_mmax X.x X.b (X.ml.trans hl.1.symm) X.own (X.G _ hm) (X.G _ h1) (X.G _ h2) (X.G _ h3) hR.1 hR.2 hc.1 hc.2 d (by
    have e9 : (if iI x < iI y then iI y else iI x) = iI (max x y) := by
      by_cases h : x < y
      · rw [if_pos ((iI_lt hx hy).mpr h), Int.max_eq_right (by omega)]
      · rw [if_neg (fun w => h ((iI_lt hx hy).mp w)), Int.max_eq_left (by omega)]
    rw [e9]
    exact kk z hz p e s m args below meth c H locs ls X hc hw hl hP hS)
theorem sb_mmin {x y : Int} {index : Nat} (hx : i32 x) (hy : i32 y) (hm : Cond.methodLink mt.1 index Lib.Math.min.name ∈ gG) (h1 : Cond.static Lib.Math.min.name ∈ gG) (h2 : Cond.initialized "java/lang/Math" ∈ gG) (h3 : Cond.code Lib.Math.min.name Lib.Math.min.code 2 (some .int) ∈ gG) (hR : 1 ≤ R.frames ∧ (st.map fun v => v.category).sum + 13 ≤ R.locals) (d : decode mt.2.1 pc = .ok (.invokestatic index, 3)) (kk : SB Γ B mt R ce sl K (pc + 3) lv (vI (min x y) :: st) γ o) : SB Γ B mt R ce sl K pc lv (vI y :: vI x :: st) γ o := fun z hz p e s m args below meth c H locs ls X hc hw hl hP hS =>
  va_mmin X.x X.b (X.ml.trans hl.1.symm) X.own (X.G _ hm) (X.G _ h1) (X.G _ h2) (X.G _ h3) hR.1 hR.2 hc.1 hc.2 d (by
    have e9 : (if iI y < iI x then iI y else iI x) = iI (min x y) := by
      by_cases h : y < x
      · rw [if_pos ((iI_lt hy hx).mpr h), Int.min_eq_right (by omega)]
      · rw [if_neg (fun w => h ((iI_lt hy hx).mp w)), Int.min_eq_left (by omega)]
    rw [e9]
    exact kk z hz p e s m args below meth c H locs ls X hc hw hl hP hS)
end ST
