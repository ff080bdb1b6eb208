/-! the reference as functions: cant -/
theorem d_M_cant_0 : decode b_M_cant 0 = .ok (.aload_n 0, 1) := by decide +kernel
theorem d_M_cant_1 : decode b_M_cant 1 = .ok (.invokevirtual 292, 3) := by decide +kernel
theorem d_M_cant_4 : decode b_M_cant 4 = .ok (.pop, 1) := by decide +kernel
theorem d_M_cant_5 : decode b_M_cant 5 = .ok (.new 296, 3) := by decide +kernel
theorem d_M_cant_8 : decode b_M_cant 8 = .ok (.dup, 1) := by decide +kernel
theorem d_M_cant_9 : decode b_M_cant 9 = .ok (.iconst 1, 1) := by decide +kernel
theorem d_M_cant_10 : decode b_M_cant 10 = .ok (.aload_n 0, 1) := by decide +kernel
theorem d_M_cant_11 : decode b_M_cant 11 = .ok (.getfield 33, 3) := by decide +kernel
theorem d_M_cant_14 : decode b_M_cant 14 = .ok (.invokespecial 298, 3) := by decide +kernel
theorem d_M_cant_17 : decode b_M_cant 17 = .ok (.areturn, 1) := by decide +kernel
abbrev mt_M_cant : MT := (R_M, b_M_cant, 1, some (.object "StreamNodesModel$Wrong"))
theorem vf_M_cant : VF y_M_cant mt_M_cant 12 0 := ⟨im_M_cant, se_M_cant, in_M, co_M_cant, by decide +kernel, _, _, rfl⟩
def f_M_cant (γ : St) : Option (Int × St) := bndN (f_M_peek γ) fun _ γ1 => some (γ1 0 7, γ1)
def QC (Γ : Ctx) (z : Int × St) : Array Value → State → Outcome → State → Prop := fun _ st oc t => (∃ q, oc = .returned (some (.ref q)) ∧ st.heap.size ≤ q ∧ i32 z.1 ∧ WB BM z.2 ∧ va_P Γ.D kl (wB Γ z.2 0 BM) t.heap ∧ va_P Γ.D kl [(q, .inr (13, wrF 1 z.1))] t.heap) ∧ va_F (mA Γ BM st.heap.size) st t
def KC (Γ : Ctx) : Kd (Int × St) := fun below args s z => MQ below (QC Γ z) args s 1 8 (mA Γ BM s.heap.size)
theorem s_M_cant {Γ : Ctx} {γ : St} : SB Γ BM mt_M_cant (RmT 12 420) 0 0 (KC Γ) 0 [(0, vR Γ 0)] [] γ (f_M_cant γ) := by
  unfold f_M_cant
  refine sb_aload_n 0 d_M_cant_0 rfl ?_
  refine sb_cVi vf_M_peek (c_M_peek γ) rfl ml_M_292 (As := []) rfl rfl (Nat.le_of_ble_eq_true rfl) ⟨by decide, by decide⟩ d_M_cant_1 (fun r1 γ1 hr1 => ?_)
  refine sb_pop d_M_cant_4 rfl ?_
  intro z hz p e s m args below meth c H locs ls X hc hw hl hP hS
  cases hz
  have hlk := X.lk
  refine mt_new (cells := 0) (slots := 0) X rfl hP hS ⟨Nat.le_refl _, Nat.le_refl _⟩ d_M_cant_5 (fun q H hP hq hqz hqa hS => ?_)
  refine lv_dup X.x X.b d_M_cant_8 rfl ?_
  refine pu_iconst (mt := mt_M_cant) (R := RmT 12 420) d_M_cant_9 p e s m args below meth c H locs ls _ _ _ _ X hw hl hP hS (Nat.le_refl _) (Nat.le_refl _) (Nat.le_of_ble_eq_true rfl) (fun H1 locs1 hw hP hz1 hk1 hS => ?_)
  have hql : q < H.size := (hq 0 _ rfl).lt
  have hq : va_P Γ.D kl [(q, .inr (13, wrF 0 0))] H1 := hq.kept (fun k' q' hk' => by
    match k', hk' with
    | 0, hk' => cases hk'; exact hk1 q hql hqa
    | k' + 1, hk' => simp at hk')
  refine pu_fld (mt := mt_M_cant) (R := RmT 12 420) kf_M 0 7 rfl rfl rfl (by decide) fl_M_33 d_M_cant_10 d_M_cant_11 p e s m args below meth c H1 locs1 ls _ _ _ _ X hw hl hP hS (Nat.le_refl _) (Nat.le_refl _) (Nat.le_of_ble_eq_true rfl) (fun H2 locs2 hw hP hz2 hk2 hS => ?_)
  have hq : va_P Γ.D kl [(q, .inr (13, wrF 0 0))] H2 := hq.kept (fun k' q' hk' => by
    match k', hk' with
    | 0, hk' => cases hk'; exact hk2 q (Nat.lt_of_lt_of_le hql hz1) hqa
    | k' + 1, hk' => simp at hk')
  refine mt_init X rfl hl.1 hP hq hqa hqz hS ⟨by decide, by decide⟩ ⟨Nat.le_refl _, Nat.le_refl _⟩ (Nat.le_of_ble_eq_true rfl) d_M_cant_14 (fun H3 locs3 hP hq hS => ?_)
  exact W.aret (v := .ref q) X.x X.b X.rt (Or.inl ⟨_, rfl⟩) (Or.inr ⟨_, rfl⟩) (fun t ht hW => ⟨⟨q, rfl, hqz, hw 0 7 rfl, hw, by rw [ht]; exact hP, by rw [ht]; exact hq⟩, hS.F ht⟩) hS.2.2 d_M_cant_17
theorem c_M_cant {Γ : Ctx} {γ : St} {z : Int × St} (hz : f_M_cant γ = some z) (hw : WB BM γ) (sz : Nat) : Met Γ.l y_M_cant (Cond.code y_M_cant mt_M_cant.2.1 mt_M_cant.2.2.1 mt_M_cant.2.2.2 :: gG) (RmT 12 420) (va_Pc [.ref (Γ.a 0)] (mPre Γ BM γ sz)) (QC Γ z) 1 8 (mA Γ BM sz) := by
  refine Met.ofW (cc := mt_M_cant.2.1) (maxL := mt_M_cant.2.2.1) (ret := mt_M_cant.2.2.2) (by decide) rfl ?_
  intro p e s m args below meth c s₁ B1 hml hv
  obtain ⟨rfl, hsz, hP, hK, hnd, hE⟩ := hv
  have hts := atoms_spec (ws := Cond.code y_M_cant mt_M_cant.2.1 mt_M_cant.2.2.1 mt_M_cant.2.2.2 :: gG) B1.pre
  have hnt := B1.noHandlers (hts _ List.mem_cons_self)
  have hG : ∀ w9 ∈ gG, w9.before [.ref (Γ.a 0)].toArray s = true := fun w9 h => hts w9 (List.mem_cons_of_mem _ h)
  have hown : s.vm.findClass R_M = some m.cls := findClass_of_methodNamed B1.named
  subst hsz
  have hl := lv_entry [.ref (Γ.a 0)] (n := 1) (Nat.le_of_ble_eq_true rfl)
  rw [lg_entry_eq]
  generalize (lg_sl [.ref (Γ.a 0)] ++ List.replicate (mt_M_cant.2.2.1 - (lg_sl [.ref (Γ.a 0)]).length) Slot.unset).toArray = ls at hl ⊢
  exact s_M_cant z hz p e s m _ below meth c s.heap [] ls ⟨B1.exec, B1.bytes, hml, hown, hG, hK, hnd, hE, B1.returns, B1.notSynchronized, fun _ => hnt, fun h => absurd (show (9 : Nat) ≤ 8 from h) (by decide), wB_ns hP⟩ ⟨Nat.zero_le _, Nat.zero_le _⟩ hw hl hP va_S.rf
/-- throw cant() -/
theorem sb_cant {Γ : Ctx} {γ : St} {b : ByteArray} {nl : Nat} {rt : Option FieldType} {pc index fR lR : Nat} {lv : List (Nat × Value)} (hm : Cond.methodLink R_M index y_M_cant ∈ gG) (hR : 12 + 1 ≤ fR ∧ 8 + (1 + 11) + 420 ≤ lR) (d : decode b pc = .ok (.invokevirtual index, 3)) (d2 : decode b (pc + 3) = .ok (.athrow, 1)) : SB Γ BM (R_M, b, nl, rt) (RmT fR lR) 0 0 (KT Γ BM rt) pc lv [vR Γ 0] γ (bndN (f_M_cant γ) fun pl γ' => some (.inl (1, pl), γ')) := by
  intro z hz p e s m args below meth c H locs ls X hc hw hl hP hS
  obtain ⟨f1, f2, f3, f4, f5, T, N, f6⟩ := vf_M_cant
  cases ho : f_M_cant γ with
  | none => rw [ho] at hz; cases hz
  | some z1 =>
    rw [ho] at hz
    cases hz
    have hM := c_M_cant (Γ := Γ) ho hw H.size
    have hb0 := wB_at (Γ := Γ) (γ := γ) (B := BM) (j := 0) rfl
    have run := va_runV (p := p) (e := e) (R := RmT fR lR) (s := s) (m := m) (args := args) (below := below) (meth := meth) (c := c) (H := H) (locs := locs) (cells := 0) (slots := 0) (As := []) (rest := []) (g := F0 m pc ls [vR Γ 0]) (b := Γ.a 0) (C := R_M) ⟨X.x, X.b, X.ml, X.own, X.G⟩ hM (gcV 0 gG_good X.G hm f1 f2 f3 f4 rfl rfl f5 hR)
      ⟨mPre_blind, va_recv (q0 := 0) X.K hP f6 hb0, fun U hU hW => ⟨rfl, mPre_U X hP hS U hU hW⟩⟩ rfl rfl hl.1 rfl (lv_room (m := m) (pc := pc) (ls := ls) (rest := []) (Nat.le_of_ble_eq_true rfl)) d ⟨Nat.le_refl _, Nat.le_refl _⟩
    have hSz := hS.1
    intro T0 hT0 XT
    obtain ⟨v, st₀, t, T', L, h0, X', hL, e1, e2, ⟨⟨q, hv, hqz, hb1, hwb, hPz, hPq⟩, hz1, hk1⟩, go⟩ := run T0 hT0 XT
    cases hv
    rw [h0] at hz1 hk1 hqz
    rw [← e1] at hPz hPq hz1 hk1
    have hS1 := va_S_call hS hz1 hk1 hL
    obtain ⟨ce, hce, hcv, hcl⟩ := va_recv X.K hPq (ci := 13) (q0 := 0) rfl rfl
    have fin : W p Γ.l e (RmT fR lR) s m args below meth c T'.heap (locs ++ L) 1 8 (KT Γ BM rt below args s (.inl (1, z1.1), z1.2)) (F0 m (pc + 3) ls [.ref q]) :=
      bm_mono (fun t h => bm_T t h) (xt_athrow X.x X.b (Nat.le_trans hSz hqz) hce hcv hcl (xt_none (X.nt (show (8 : Nat) < 9 by decide))) X.lk hS1.2.2 (fun t ht hW => ⟨⟨1, z1.1, rfl, by decide, hb1, hwb, by rw [ht]; exact hPz, by rw [ht]; exact hPq⟩, hS1.F ht⟩) d2)
    obtain ⟨t2, a1, b1⟩ := fin T' rfl X'
    exact ⟨t2, go t2 a1, b1⟩
theorem tc_none {Γ : Ctx} {B : Tb} {y : MethodName} {mt : MT} {fr lo : Nat} {av : List Value} {γ : St} : TC Γ B y mt fr lo av γ none := fun z hz => by cases hz
theorem nc_none {Γ : Ctx} {B : Tb} {y : MethodName} {mt : MT} {fr lo : Nat} {av : List Value} {γ : St} : NC Γ B y mt fr lo av γ none := fun z hz => by cases hz
