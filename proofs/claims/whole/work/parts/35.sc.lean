/-! contracts: methods that only return, methods that return or throw; calls, answers, throws -/
abbrev wrF (kd pl : Int) : List Value := [.null, .null, .null, .null, .null, .int (iI kd), .int (iI pl), .int 0]
abbrev wrN : String := "StreamNodesModel$Wrong"
def rOK (ret : Option FieldType) (r : Int) : Prop := match ret with
  | some .boolean => r = 0 ∨ r = 1
  | some .long => True
  | _ => i32 r
def eR (ret : Option FieldType) (r : Int) : Option Value := match ret with
  | none => none
  | some .long => some (.long (iL r))
  | some _ => some (.int (iI r))
def QN (Γ : Ctx) (B : Tb) (ret : Option FieldType) (z : Int × St) : Array Value → State → Outcome → State → Prop := fun _ st oc t => (oc = .returned (eR ret z.1) ∧ rOK ret z.1 ∧ WB B z.2 ∧ va_P Γ.D kl (wB Γ z.2 0 B) t.heap) ∧ va_F (mA Γ B st.heap.size) st t
def KN (Γ : Ctx) (B : Tb) (ret : Option FieldType) : Kd (Int × St) := fun below args s z => MQ below (QN Γ B ret z) args s 0 0 (mA Γ B s.heap.size)
def QT (Γ : Ctx) (B : Tb) (ret : Option FieldType) (z : Res) : Array Value → State → Outcome → State → Prop := fun _ st oc t => (∃ r, z.1 = .inr r ∧ oc = .returned (eR ret r) ∧ rOK ret r ∧ WB B z.2 ∧ va_P Γ.D kl (wB Γ z.2 0 B) t.heap) ∧ va_F (mA Γ B st.heap.size) st t
def QX (Γ : Ctx) (B : Tb) (z : Res) : State → Nat → State → Prop := fun st q t => (∃ kd pl, z.1 = .inl (kd, pl) ∧ i32 kd ∧ i32 pl ∧ WB B z.2 ∧ va_P Γ.D kl (wB Γ z.2 0 B) t.heap ∧ va_P Γ.D kl [(q, .inr (13, wrF kd pl))] t.heap) ∧ va_F (mA Γ B st.heap.size) st t
def KT (Γ : Ctx) (B : Tb) (ret : Option FieldType) : Kd Res := fun below args s z => bm_MQ below (QT Γ B ret z) args s wrN (QX Γ B z) (mA Γ B s.heap.size) 0 0 1 8
abbrev RmN (fr lo : Nat) : Room := { frames := fr, cells := 0, slots := 0, locals := lo }
abbrev RmT (fr lo : Nat) : Room := { frames := fr, cells := 1, slots := 8, locals := lo }
def NC (Γ : Ctx) (B : Tb) (y : MethodName) (mt : MT) (fr lo : Nat) (av : List Value) (γ : St) (o : Option (Int × St)) : Prop := ∀ z, o = some z → WB B γ → ∀ sz, Met Γ.l y (Cond.code y mt.2.1 mt.2.2.1 mt.2.2.2 :: gG) (RmN fr lo) (va_Pc av (mPre Γ B γ sz)) (QN Γ B mt.2.2.2 z) 0 0 (mA Γ B sz)
def TC (Γ : Ctx) (B : Tb) (y : MethodName) (mt : MT) (fr lo : Nat) (av : List Value) (γ : St) (o : Option Res) : Prop := ∀ z, o = some z → WB B γ → ∀ sz, bm_Met Γ.l y (Cond.code y mt.2.1 mt.2.2.1 mt.2.2.2 :: gG) (RmT fr lo) (va_Pc av (mPre Γ B γ sz)) (QT Γ B mt.2.2.2 z) wrN (QX Γ B z) (mA Γ B sz) 0 0 1 8
section SC
variable {Γ : Ctx} {B : Tb} {mt : MT} {R : Room} {ce sl : Nat} {ζ : Type} {K : Kd ζ} {pc : Nat} {lv lv' : List (Nat × Value)} {st : List Value} {γ : St} {o : Option ζ}
theorem nc_of {y : MethodName} {fr lo : Nat} {av : List Value} {o : Option (Int × St)} (hy : plainName y.cls = true) (hc : y.cls = mt.1) (hlen : (lg_sl av).length ≤ mt.2.2.1) (k : SB Γ B mt (RmN fr lo) 0 0 (KN Γ B mt.2.2.2) 0 (lv_args 0 av) [] γ o) : NC Γ B y mt fr lo av γ o := by
  intro z hz hw sz
  refine Met.ofW (cc := mt.2.1) (maxL := mt.2.2.1) (ret := mt.2.2.2) hy rfl ?_
  intro p e s m args below meth c s₁ B1 hml hv
  obtain ⟨rfl, hsz, hP, hK, hnd, hE⟩ := hv
  have hts := atoms_spec (ws := Cond.code y mt.2.1 mt.2.2.1 mt.2.2.2 :: gG) B1.pre
  have hnt := B1.noHandlers (hts _ List.mem_cons_self)
  have hG : ∀ w9 ∈ gG, w9.before av.toArray s = true := fun w9 h => hts w9 (List.mem_cons_of_mem _ h)
  have hown : s.vm.findClass mt.1 = some m.cls := hc ▸ findClass_of_methodNamed B1.named
  subst hsz
  have hl := lv_entry av (n := mt.2.2.1) hlen
  rw [lg_entry_eq]
  generalize (lg_sl av ++ List.replicate (mt.2.2.1 - (lg_sl av).length) Slot.unset).toArray = ls at hl ⊢
  exact k z hz p e s m _ below meth c s.heap [] ls ⟨B1.exec, B1.bytes, hml, hown, hG, hK, hnd, hE, B1.returns, B1.notSynchronized, fun _ => hnt, fun h => absurd (show (9 : Nat) ≤ 0 from h) (by decide), wB_ns hP⟩ ⟨Nat.zero_le _, Nat.zero_le _⟩ hw hl hP va_S.rf
theorem tc_of {y : MethodName} {fr lo : Nat} {av : List Value} {o : Option Res} (hy : plainName y.cls = true) (hc : y.cls = mt.1) (hlen : (lg_sl av).length ≤ mt.2.2.1) (k : SB Γ B mt (RmT fr lo) 0 0 (KT Γ B mt.2.2.2) 0 (lv_args 0 av) [] γ o) : TC Γ B y mt fr lo av γ o := by
  intro z hz hw sz
  refine bm_ofW (cc := mt.2.1) (maxL := mt.2.2.1) (ret := mt.2.2.2) hy rfl ?_
  intro p e s m args below meth c s₁ B1 hml hv
  obtain ⟨rfl, hsz, hP, hK, hnd, hE⟩ := hv
  have hts := atoms_spec (ws := Cond.code y mt.2.1 mt.2.2.1 mt.2.2.2 :: gG) B1.pre
  have hnt := B1.noHandlers (hts _ List.mem_cons_self)
  have hG : ∀ w9 ∈ gG, w9.before av.toArray s = true := fun w9 h => hts w9 (List.mem_cons_of_mem _ h)
  have hown : s.vm.findClass mt.1 = some m.cls := hc ▸ findClass_of_methodNamed B1.named
  subst hsz
  have hl := lv_entry av (n := mt.2.2.1) hlen
  rw [lg_entry_eq]
  generalize (lg_sl av ++ List.replicate (mt.2.2.1 - (lg_sl av).length) Slot.unset).toArray = ls at hl ⊢
  exact k z hz p e s m _ below meth c s.heap [] ls ⟨B1.exec, B1.bytes, hml, hown, hG, hK, hnd, hE, B1.returns, B1.notSynchronized, fun _ => hnt, fun h => absurd (show (9 : Nat) ≤ 8 from h) (by decide), wB_ns hP⟩ ⟨Nat.zero_le _, Nat.zero_le _⟩ hw hl hP va_S.rf
/-- answers -/
theorem sn_i {r : Int} (hr : mt.2.2.2 = some .int) (h : i32 r) (d : decode mt.2.1 pc = .ok (.ireturn, 1)) : SB Γ B mt R 0 0 (KN Γ B mt.2.2.2) pc lv [vI r] γ (some (r, γ)) := fun z hz p e s m args below meth c H locs ls X hc hw hl hP hS => by
  cases hz
  have hlk := X.lk
  exact W.iret X.x X.b (X.rt.trans hr) (fun t ht _ => ⟨⟨by rw [hr]; rfl, by rw [hr]; exact h, hw, by rw [ht]; exact hP⟩, hS.F ht⟩) hS.2.2 d
theorem sn_z {r : Int} (hr : mt.2.2.2 = some .boolean) (h : r = 0 ∨ r = 1) (d : decode mt.2.1 pc = .ok (.ireturn, 1)) : SB Γ B mt R 0 0 (KN Γ B mt.2.2.2) pc lv [vI r] γ (some (r, γ)) := fun z hz p e s m args below meth c H locs ls X hc hw hl hP hS => by
  cases hz
  have hlk := X.lk
  exact W.zret X.x X.b (X.rt.trans hr) (by rcases h with rfl | rfl <;> rfl) (fun t ht _ => ⟨⟨by rw [hr]; rfl, by rw [hr]; exact h, hw, by rw [ht]; exact hP⟩, hS.F ht⟩) hS.2.2 d
theorem sn_v (hr : mt.2.2.2 = none) (d : decode mt.2.1 pc = .ok (.return_, 1)) : SB Γ B mt R 0 0 (KN Γ B mt.2.2.2) pc lv [] γ (some (0, γ)) := fun z hz p e s m args below meth c H locs ls X hc hw hl hP hS => by
  cases hz
  have hlk := X.lk
  exact W.vret X.x X.b (X.rt.trans hr) (fun t ht _ => ⟨⟨by rw [hr]; rfl, by rw [hr]; exact (by decide : i32 0), hw, by rw [ht]; exact hP⟩, hS.F ht⟩) hS.2.2 d
theorem sn_l {r : Int} (hr : mt.2.2.2 = some .long) (d : decode mt.2.1 pc = .ok (.lreturn, 1)) : SB Γ B mt R 0 0 (KN Γ B mt.2.2.2) pc lv [.long (iL r)] γ (some (r, γ)) := fun z hz p e s m args below meth c H locs ls X hc hw hl hP hS => by
  cases hz
  have hlk := X.lk
  exact W.lret X.x X.b (X.rt.trans hr) (fun t ht _ => ⟨⟨by rw [hr]; rfl, by rw [hr]; trivial, hw, by rw [ht]; exact hP⟩, hS.F ht⟩) hS.2.2 d
theorem st_i {r : Int} (hr : mt.2.2.2 = some .int) (h : i32 r) (d : decode mt.2.1 pc = .ok (.ireturn, 1)) : SB Γ B mt R 0 0 (KT Γ B mt.2.2.2) pc lv [vI r] γ (some (.inr r, γ)) := fun z hz p e s m args below meth c H locs ls X hc hw hl hP hS => by
  cases hz
  have hlk := X.lk
  exact bm_mono (fun t h => bm_R t h) (W.iret X.x X.b (X.rt.trans hr) (fun t ht _ => ⟨⟨r, rfl, by rw [hr]; rfl, by rw [hr]; exact h, hw, by rw [ht]; exact hP⟩, hS.F ht⟩) hS.2.2 d)
theorem st_z {r : Int} (hr : mt.2.2.2 = some .boolean) (h : r = 0 ∨ r = 1) (d : decode mt.2.1 pc = .ok (.ireturn, 1)) : SB Γ B mt R 0 0 (KT Γ B mt.2.2.2) pc lv [vI r] γ (some (.inr r, γ)) := fun z hz p e s m args below meth c H locs ls X hc hw hl hP hS => by
  cases hz
  have hlk := X.lk
  exact bm_mono (fun t h => bm_R t h) (W.zret X.x X.b (X.rt.trans hr) (by rcases h with rfl | rfl <;> rfl) (fun t ht _ => ⟨⟨r, rfl, by rw [hr]; rfl, by rw [hr]; exact h, hw, by rw [ht]; exact hP⟩, hS.F ht⟩) hS.2.2 d)
theorem st_v (hr : mt.2.2.2 = none) (d : decode mt.2.1 pc = .ok (.return_, 1)) : SB Γ B mt R 0 0 (KT Γ B mt.2.2.2) pc lv [] γ (some (.inr 0, γ)) := fun z hz p e s m args below meth c H locs ls X hc hw hl hP hS => by
  cases hz
  have hlk := X.lk
  exact bm_mono (fun t h => bm_R t h) (W.vret X.x X.b (X.rt.trans hr) (fun t ht _ => ⟨⟨0, rfl, by rw [hr]; rfl, by rw [hr]; exact (by decide : i32 0), hw, by rw [ht]; exact hP⟩, hS.F ht⟩) hS.2.2 d)
/-- what a callee finds -/
theorem mPre_U {p : Program} {s : State} {m : MethodId} {args : Array Value} {meth : Method} {c : Code} {H : Heap} {locs : List Loc} (X : CX Γ B mt R p s m args meth c) (hP : va_P Γ.D kl (wB Γ γ 0 B) H) (hS : va_S (mA Γ B s.heap.size) s.heap H locs) (U : State) (hU : U.heap = H) (hW : s.WarmedH U.vm) : mPre Γ B γ H.size U :=
  ⟨by rw [hU], by rw [hU]; exact hP, va_K.moved hW.alike X.K, X.ap, by rw [hU]; exact ((X.E.kept hS.2.1).narrow (X.fr hS)).moved hW⟩
theorem va_S_call {s : State} {H H1 : Heap} {locs L : List Loc} (hS : va_S (mA Γ B s.heap.size) s.heap H locs) (hz : H.size ≤ H1.size) (hk : ∀ q : Nat, q < H.size → ¬ mA Γ B H.size q → H1[q]? = H[q]?) (hL : ∀ z ∈ L, mA Γ B H.size z.base) : va_S (mA Γ B s.heap.size) s.heap H1 (locs ++ L) := by
  have fr : ∀ q, mA Γ B H.size q → mA Γ B s.heap.size q := fun q h => h.elim Or.inl (fun z => Or.inr (Nat.le_trans hS.1 z))
  exact ⟨Nat.le_trans hS.1 hz, fun q h1 h2 => by rw [hk q (Nat.lt_of_lt_of_le h1 hS.1) (fun z => h2 (fr q z))]; exact hS.2.1 q h1 h2, fun q hq => by
      rcases List.mem_append.mp hq with h | h
      · exact hS.2.2 q h
      · exact fr _ (hL q h)⟩
abbrev pR (ret : Option FieldType) (r : Int) (st : List Value) : List Value := (eR ret r).toList ++ st
/-- the static facts of an instance method and its receiver's class -/
def VF (y : MethodName) (mt : MT) (ci n : Nat) : Prop := Cond.instanceMethod y ∈ gG ∧ Cond.selects mt.1 y y ∈ gG ∧ Cond.initialized mt.1 ∈ gG ∧ Cond.code y mt.2.1 mt.2.2.1 mt.2.2.2 ∈ gG ∧ (y.cls = mt.1 ∧ y.cls ≠ "java/lang/invoke/MethodHandle" ∧ y.cls ≠ "java/lang/invoke/VarHandle" ∧ (parseMethodDescriptor y.desc).map (fun d => d.parameters.length) = some n) ∧ ∃ T N, kl[ci]? = some (mt.1, T, N)
def SF (y : MethodName) (mt : MT) (n : Nat) : Prop := Cond.static y ∈ gG ∧ Cond.initialized mt.1 ∈ gG ∧ Cond.code y mt.2.1 mt.2.2.1 mt.2.2.2 ∈ gG ∧ (y.cls = mt.1 ∧ y.cls ≠ "java/lang/invoke/MethodHandle" ∧ y.cls ≠ "java/lang/invoke/VarHandle" ∧ (parseMethodDescriptor y.desc).map (fun d => d.parameters.length) = some n)
/-- invokevirtual of a method that only returns -/
theorem sb_callV {y : MethodName} {mu : MT} {fr lo j ci n index : Nat} {ks : List Nat} {As st0 : List Value} {o1 : Option (Int × St)} {k : Int → St → Option ζ} (F : VF y mu ci n) (hC : NC Γ B y mu fr lo (.ref (Γ.a j) :: As) γ o1) (hj : B[j]? = some (.inr (ci, ks))) (hm : Cond.methodLink mt.1 index y ∈ gG) (hn : As.length = n) (hst : st0 = As.reverse ++ vR Γ j :: st) (hW : (st.map fun v => v.category).sum ≤ 8) (hR : fr + 1 ≤ R.frames ∧ 8 + (mu.2.2.1 + 11) + lo ≤ R.locals) (d : decode mt.2.1 pc = .ok (.invokevirtual index, 3))
    (kk : ∀ r γ', rOK mu.2.2.2 r → SB Γ B mt R ce sl K (pc + 3) lv (pR mu.2.2.2 r st) γ' (k r γ')) : SB Γ B mt R ce sl K pc lv st0 γ (bndN o1 k) := fun z hz p e s m args below meth c H locs ls X hc hw hl hP hS => by
  obtain ⟨f1, f2, f3, f4, f5, T, N, f6⟩ := F
  cases ho : o1 with
  | none => rw [ho] at hz; cases hz
  | some z1 =>
    rw [ho] at hz
    have hM := hC z1 ho hw H.size
    have run := va_runV (p := p) (e := e) (R := R) (s := s) (m := m) (args := args) (below := below) (meth := meth) (c := c) (H := H) (locs := locs) (cells := ce) (slots := sl) (As := As) (rest := st) (g := F0 m pc ls st0) (b := Γ.a j) (C := mu.1) ⟨X.x, X.b, X.ml, X.own, X.G⟩ hM (gcV n gG_good X.G hm f1 f2 f3 f4 rfl rfl f5 hR)
      ⟨mPre_blind, va_recv X.K hP f6 (wB_at hj), fun U hU hW => ⟨rfl, mPre_U X hP hS U hU hW⟩⟩ rfl hn hl.1 hst (lv_room (m := m) (pc := pc) (ls := ls) (rest := st0) hW) d hc
    intro T0 hT0 XT
    obtain ⟨v, st₀, t, T', L, h0, X', hL, e1, e2, ⟨⟨hv, hok, hwb, hPz⟩, hz1, hk1⟩, go⟩ := run T0 hT0 XT
    cases hv
    rw [h0] at hz1 hk1
    rw [← e1] at hPz hz1 hk1
    obtain ⟨t2, a1, b1⟩ := kk z1.1 z1.2 hok z hz p e s m args below meth c T'.heap (locs ++ L) ls X hc hwb hl hPz (va_S_call hS hz1 hk1 hL) T' rfl X'
    exact ⟨t2, go t2 a1, b1⟩
/-- invokestatic of a method that only returns -/
theorem sb_callS {y : MethodName} {mu : MT} {fr lo n index : Nat} {As st0 : List Value} {o1 : Option (Int × St)} {k : Int → St → Option ζ} (F : SF y mu n) (hu : mu.1 = mt.1) (hC : NC Γ B y mu fr lo As γ o1) (hm : Cond.methodLink mt.1 index y ∈ gG) (hn : As.length = n) (hst : st0 = As.reverse ++ st) (hW : (st.map fun v => v.category).sum ≤ 8) (hR : fr + 1 ≤ R.frames ∧ 8 + (mu.2.2.1 + 11) + lo ≤ R.locals) (d : decode mt.2.1 pc = .ok (.invokestatic index, 3))
    (kk : ∀ r γ', rOK mu.2.2.2 r → SB Γ B mt R ce sl K (pc + 3) lv (pR mu.2.2.2 r st) γ' (k r γ')) : SB Γ B mt R ce sl K pc lv st0 γ (bndN o1 k) := fun z hz p e s m args below meth c H locs ls X hc hw hl hP hS => by
  obtain ⟨f1, f3, f4, f5⟩ := F
  rw [hu] at f3 f5
  cases ho : o1 with
  | none => rw [ho] at hz; cases hz
  | some z1 =>
    rw [ho] at hz
    have hM := hC z1 ho hw H.size
    have run := va_runS (p := p) (e := e) (R := R) (s := s) (m := m) (args := args) (below := below) (meth := meth) (c := c) (H := H) (locs := locs) (cells := ce) (slots := sl) (As := As) (rest := st) (g := F0 m pc ls st0) ⟨X.x, X.b, X.ml, X.own, X.G⟩ hM (gcS n gG_good X.G hm f1 f3 f4 rfl rfl f5 hR)
      ⟨mPre_blind, fun U hU hW => ⟨rfl, mPre_U X hP hS U hU hW⟩⟩ rfl hn hl.1 hst (lv_room (m := m) (pc := pc) (ls := ls) (rest := st0) hW) d hc
    intro T0 hT0 XT
    obtain ⟨v, st₀, t, T', L, h0, X', hL, e1, e2, ⟨⟨hv, hok, hwb, hPz⟩, hz1, hk1⟩, go⟩ := run T0 hT0 XT
    cases hv
    rw [h0] at hz1 hk1
    rw [← e1] at hPz hz1 hk1
    obtain ⟨t2, a1, b1⟩ := kk z1.1 z1.2 hok z hz p e s m args below meth c T'.heap (locs ++ L) ls X hc hwb hl hPz (va_S_call hS hz1 hk1 hL) T' rfl X'
    exact ⟨t2, go t2 a1, b1⟩
/-- invokevirtual of a method that returns or throws -/
theorem sb_callT {y : MethodName} {mu : MT} {fr lo j ci n index fR lR : Nat} {ks : List Nat} {As st0 : List Value} {o1 : Option Res} {k : Int → St → Option Res} (F : VF y mu ci n) (hC : TC Γ B y mu fr lo (.ref (Γ.a j) :: As) γ o1) (hj : B[j]? = some (.inr (ci, ks))) (hm : Cond.methodLink mt.1 index y ∈ gG) (hn : As.length = n) (hst : st0 = As.reverse ++ vR Γ j :: st) (hW : (st.map fun v => v.category).sum ≤ 8) (hR : fr + 1 ≤ fR ∧ 8 + (mu.2.2.1 + 11) + lo ≤ lR) (d : decode mt.2.1 pc = .ok (.invokevirtual index, 3))
    (kk : ∀ r γ', rOK mu.2.2.2 r → SB Γ B mt (RmT fR lR) 0 0 (KT Γ B mt.2.2.2) (pc + 3) lv (pR mu.2.2.2 r st) γ' (k r γ')) : SB Γ B mt (RmT fR lR) 0 0 (KT Γ B mt.2.2.2) pc lv st0 γ (bndT o1 k) := fun z hz p e s m args below meth c H locs ls X hc hw hl hP hS => by
  obtain ⟨f1, f2, f3, f4, f5, T, N, f6⟩ := F
  cases ho : o1 with
  | none => rw [ho] at hz; cases hz
  | some z1 =>
    rw [ho] at hz
    have hM := hC z1 ho hw H.size
    have hSz := hS.1
    refine bm_callV (As := As) (rest := st) (g := F0 m pc ls st0) (b := Γ.a j) (C := mu.1) ⟨X.x, X.b, X.ml, X.own, X.G⟩ hM (gcV n gG_good X.G hm f1 f2 f3 f4 rfl rfl f5 hR)
      ⟨mPre_blind, va_recv X.K hP f6 (wB_at hj), fun U hU hW => ⟨rfl, mPre_U X hP hS U hU hW⟩⟩ rfl hn hl.1 hst (lv_room (m := m) (pc := pc) (ls := ls) (rest := st0) hW) d ⟨Nat.le_refl _, Nat.le_refl _⟩ (fun v st₀ t H1 L e0 e1 hvm hQ hL => ?_) (fun q ce st₀ t H1 L e0 e1 hvm hQ hL haz hce hcv hcl => ?_)
    · obtain ⟨⟨r, hr, hv, hok, hwb, hPz⟩, hz1, hk1⟩ := hQ
      cases hv
      rw [e0] at hz1 hk1
      rw [e1] at hPz hz1 hk1
      obtain ⟨w1, γ1⟩ := z1
      cases hr
      exact kk r γ1 hok z hz p e s m args below meth c H1 (locs ++ L) ls X hc hwb hl hPz (va_S_call hS hz1 hk1 hL)
    · obtain ⟨⟨kd, pl, hr, b1, b2, hwb, hPz, hPq⟩, hz1, hk1⟩ := hQ
      rw [e0] at hz1 hk1
      rw [e1] at hPz hPq hz1 hk1
      obtain ⟨w1, γ1⟩ := z1
      cases hr
      cases hz
      have hS1 := va_S_call hS hz1 hk1 hL
      exact bm_monoN (fun t h => bm_T t h) (xt_Nout (Nat.le_trans hSz haz) hce hcv hcl (xt_none (X.nt (show (8 : Nat) < 9 by decide))) X.lk hS1.2.2 (fun t ht hW => ⟨⟨kd, pl, rfl, b1, b2, hwb, by rw [ht]; exact hPz, by rw [ht]; exact hPq⟩, hS1.F ht⟩))
end SC
