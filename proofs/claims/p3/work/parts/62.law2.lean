/-! the law's helpers: contracts of methods with handlers, calls of the class that answer or throw -/
abbrev RmL (fr n lo : Nat) : Room := { frames := fr, cells := 1, slots := n, locals := lo }
def KL (Γ : Ctx) (n : Nat) : Kd (Int × St) := fun below args s z => MQ below (QN Γ BL (some .int) z) args s 1 n (mA Γ BL s.heap.size)
def HC (Γ : Ctx) (y : MethodName) (mt : MT) (n fr lo : Nat) (av : List Value) (γ : St) (o : Option (Int × St)) : Prop := ∀ z, o = some z → WB BL γ → ∀ sz, Met Γ.l y (Cond.codeWith y mt.2.1 mt.2.2.1 mt.2.2.2 (tabR n) :: gG) (RmL fr n lo) (va_Pc av (mPre Γ BL γ sz)) (QN Γ BL (some .int) z) 1 n (mA Γ BL sz)
def hcl {ζ : Type} (o1 : Option (Int × St)) (o2 : Option (Nat × St)) (k : Int → St → Option ζ) (h : Nat → Option ζ) : Option ζ := match o1 with
  | some z => k z.1 z.2
  | none => match o2 with
    | some z => h z.1
    | none => none
section LH
variable {Γ : Ctx} {mt : MT} {R : Room} {ce sl : Nat} {ζ : Type} {K : Kd ζ} {pc : Nat} {lv lv' : List (Nat × Value)} {st : List Value} {γ δ : St} {w : Int} {o : Option ζ}
theorem hc_of {y : MethodName} {n fr lo : Nat} {av : List Value} {γ : St} {o : Option (Int × St)} (hy : plainName y.cls = true) (hc : y.cls = mt.1) (hlen : (lg_sl av).length ≤ mt.2.2.1) (hn : 9 ≤ n) (k : SB Γ BL mt (RmL fr n lo) 0 0 (KL Γ n) 0 (lv_args 0 av) [] γ o) : HC Γ y mt n fr lo av γ o := by
  intro z hz hw sz
  refine mx_ofW (cc := mt.2.1) (maxL := mt.2.2.1) (ret := mt.2.2.2) (hh := tabR n) hy rfl ?_
  intro p e s m args below meth c s₁ B1 hml htab hv
  obtain ⟨rfl, hsz, hP, hK, hnd, hE⟩ := hv
  have hts := atoms_spec (ws := Cond.codeWith y mt.2.1 mt.2.2.1 mt.2.2.2 (tabR n) :: gG) B1.pre
  have hG : ∀ w9 ∈ gG, w9.before av.toArray s = true := fun w9 h => hts w9 (List.mem_cons_of_mem _ h)
  have hown : s.vm.findClass mt.1 = some m.cls := hc ▸ findClass_of_methodNamed B1.named
  subst hsz
  have hl := lv_entry av (n := mt.2.2.1) hlen
  rw [lg_entry_eq]
  generalize (lg_sl av ++ List.replicate (mt.2.2.1 - (lg_sl av).length) Slot.unset).toArray = ls at hl ⊢
  exact k z hz p e s m _ below meth c s.heap [] ls ⟨B1.exec, B1.bytes, hml, hown, hG, hK, hnd, hE, B1.returns, B1.notSynchronized, fun h => absurd (show n < 9 from h) (by omega), fun _ => htab, wB_ns hP⟩ ⟨Nat.zero_le _, Nat.zero_le _⟩ hw hl hP va_S.rf
theorem sk_i {n : Nat} {γ : St} {r : Int} (hr : mt.2.2.2 = some .int) (h1 : ce ≤ 1) (h2 : sl ≤ n) (h : i32 r) (d : decode mt.2.1 pc = .ok (.ireturn, 1)) : SB Γ BL mt R ce sl (KL Γ n) pc lv [vI r] γ (some (r, γ)) := fun z hz p e s m args below meth c H locs ls X hc hw hl hP hS => by
  cases hz
  have hlk := X.lk
  exact W.widen (k := 1) (n := n) h1 h2 (W.iret X.x X.b (X.rt.trans hr) (fun t ht _ => ⟨⟨rfl, h, hw, by rw [ht]; exact hP⟩, hS.F ht⟩) hS.2.2 d)
/-- what a throwing callee finds, and what it leaves -/
theorem sl_X {y : MethodName} {mu : MT} {fr lo n index : Nat} {As st0 : List Value} {z2 : Nat × St} {Q : State → Prop} {p : Program} {e : Env} {s : State} {m : MethodId} {args : Array Value} {below : List Frame} {meth : Method} {c : Code} {H : Heap} {locs : List Loc} {ls : Array Slot} (F : VF y mu 0 n) (hX : XC Γ BS y mu fr lo (.ref (Γ.a 0) :: As) γ (some z2)) (hm : Cond.methodLink mt.1 index y ∈ gG) (hn : As.length = n) (hst : st0 = As.reverse ++ vR Γ 0 :: st) (hW : (st.map fun v => v.category).sum ≤ 8) (hR : fr + 1 ≤ R.frames ∧ 8 + (mu.2.2.1 + 11) + lo ≤ R.locals) (d : decode mt.2.1 pc = .ok (.invokevirtual index, 3)) (hcs : 1 ≤ R.cells ∧ 6 ≤ R.slots) (X : CX Γ BL mt R p s m args meth c) (hw : WB BL (cmb γ δ w)) (hl : lv_has ls mt.2.2.1 lv) (hP : va_P Γ.D kl (wB Γ (cmb γ δ w) 0 BL) H) (hS : va_S (mA Γ BL s.heap.size) s.heap H locs)
    (kk : ∀ (q : Nat) (ce9 : Cell) (H1 : Heap), va_P Γ.D kl (wB Γ (cmb γ δ w) 0 BL) H1 → va_S (mA Γ BL s.heap.size) s.heap H1 locs → H1[q]? = some ce9 → ce9.vm.isStatics = false → s.vm.findClass (exN z2.1) = some ce9.cls → xt_N p Γ.l e R s m args below meth c H1 locs 1 6 Q (F0 m pc ls st) q) : W p Γ.l e R s m args below meth c H locs 0 0 Q (F0 m pc ls st0) := by
  obtain ⟨f1, f2, f3, f4, f5, T, N, f6⟩ := F
  obtain ⟨hPS, hPM, hPO⟩ := wL_split hP
  have hb0 := wB_at (Γ := Γ) (γ := γ) (B := BS) (j := 0) rfl
  have fr9 : ∀ q, mA Γ BS H.size q → mA Γ BL s.heap.size q := fun q h => h.elim (fun a => Or.inl (adS a)) (fun z => Or.inr (Nat.le_trans hS.1 z))
  have hM := hX z2 rfl (WL_S hw) H.size
  refine xt_callV (As := As) (rest := st) (g := F0 m pc ls st0) (b := Γ.a 0) (C := mu.1) ⟨X.x, X.b, X.ml, X.own, X.G⟩ hM (gcV n gG_good X.G hm f1 f2 f3 f4 rfl rfl f5 hR)
    ⟨mPre_blind, va_recv (q0 := 0) X.K hPS f6 hb0, fun U hU hW => ⟨rfl, by rw [hU], by rw [hU]; exact hPS, va_K.moved hW.alike X.K, apS X.ap, by rw [hU]; exact ((X.E.kept hS.2.1).narrow fr9).moved hW⟩⟩ rfl hn hl.1 hst (lv_room (m := m) (pc := pc) (ls := ls) (rest := st0) hW) d ⟨by omega, by omega⟩ (fun q ce9 st₀ t H1 L e0 e1 hvm hQ hL haz hce hcv hcl => ?_)
  have hL0 := xt_L hL
  subst hL0
  obtain ⟨q1, q2⟩ := hQ
  rw [e0] at q1 q2
  rw [e1] at q1 q2
  rw [List.append_nil]
  exact kk q ce9 H1 (xt_keepP hP q2) (xt_keepS hS q1 q2) hce hcv hcl
theorem sl_A1 {y : MethodName} {mu : MT} {fr lo fr2 lo2 n index sp ep hp ct : Nat} {As st0 : List Value} {o1 : Option (Int × St)} {o2 : Option (Nat × St)} {o3 : Option ζ} {k : Int → St → Option ζ} (N1 : Nat) (F : VF y mu 0 n) (hC : NC Γ BS y mu fr lo (.ref (Γ.a 0) :: As) γ o1) (hX : XC Γ BS y mu fr2 lo2 (.ref (Γ.a 0) :: As) γ o2) (hm : Cond.methodLink mt.1 index y ∈ gG) (hn : As.length = n) (hst : st0 = As.reverse ++ vR Γ 0 :: st) (hW : (st.map fun v => v.category).sum ≤ 8) (hR : fr + 1 ≤ R.frames ∧ 8 + (mu.2.2.1 + 11) + lo ≤ R.locals) (hR2 : fr2 + 1 ≤ R.frames ∧ 8 + (mu.2.2.1 + 11) + lo2 ≤ R.locals) (d : decode mt.2.1 pc = .ok (.invokevirtual index, 3)) (hcs : 1 ≤ R.cells ∧ 9 ≤ R.slots) (ht : tabR R.slots = [(sp, ep, hp, ct)]) (hb : sp ≤ pc ∧ pc < ep ∧ ct ≠ 0) (hlk : Cond.classLink mt.1 ct (exN N1) ∈ gG)
    (kk : ∀ r γ', rOK mu.2.2.2 r → SB Γ BL mt R 0 0 K (pc + 3) lv (pR mu.2.2.2 r st) (cmb γ' δ w) (k r γ')) (kx : ∀ q, SB Γ BL mt R 1 6 K hp lv [.ref q] (cmb γ δ w) o3) : SB Γ BL mt R 0 0 K pc lv st0 (cmb γ δ w) (hcl o1 o2 k (fun x => if x = N1 then o3 else none)) := by
  cases ho1 : o1 with
  | some z1 =>
    rw [ho1] at hC
    exact sl_VS F hC hm hn hst hW hR d kk
  | none =>
    intro z hz p e s m args below meth c H locs ls X hc hw hl hP hS
    cases ho2 : o2 with
    | none => rw [ho2] at hz; cases hz
    | some z2 =>
      rw [ho2] at hz hX
      have hz : (if z2.1 = N1 then o3 else none) = some z := hz
      by_cases q0 : z2.1 = N1
      · rw [if_pos q0] at hz
        refine sl_X F hX hm hn hst hW hR2 d ⟨hcs.1, by omega⟩ X hw hl hP hS (fun q ce9 H1 hP1 hS1 hce hcv hcl => ?_)
        rw [q0] at hcl
        exact xt_N1 X.own hce hcv hcl ((X.hd hcs.2).trans ht) hb.1 hb.2.1 hb.2.2 (X.G _ hlk) (kx q z hz p e s m args below meth c H1 locs ls X ⟨hcs.1, by omega⟩ hw hl hP1 hS1)
      · rw [if_neg q0] at hz
        cases hz
theorem sl_A2 {y : MethodName} {mu : MT} {fr lo fr2 lo2 n index sp ep hp ct sp2 ep2 hp2 ct2 : Nat} {As st0 : List Value} {o1 : Option (Int × St)} {o2 : Option (Nat × St)} {o3 o4 : Option ζ} {k : Int → St → Option ζ} (N1 N2 : Nat) (F : VF y mu 0 n) (hC : NC Γ BS y mu fr lo (.ref (Γ.a 0) :: As) γ o1) (hX : XC Γ BS y mu fr2 lo2 (.ref (Γ.a 0) :: As) γ o2) (hm : Cond.methodLink mt.1 index y ∈ gG) (hn : As.length = n) (hst : st0 = As.reverse ++ vR Γ 0 :: st) (hW : (st.map fun v => v.category).sum ≤ 8) (hR : fr + 1 ≤ R.frames ∧ 8 + (mu.2.2.1 + 11) + lo ≤ R.locals) (hR2 : fr2 + 1 ≤ R.frames ∧ 8 + (mu.2.2.1 + 11) + lo2 ≤ R.locals) (d : decode mt.2.1 pc = .ok (.invokevirtual index, 3)) (hcs : 1 ≤ R.cells ∧ 9 ≤ R.slots) (ht : tabR R.slots = [(sp, ep, hp, ct), (sp2, ep2, hp2, ct2)]) (hb : sp ≤ pc ∧ pc < ep ∧ ct ≠ 0 ∧ sp2 ≤ pc ∧ pc < ep2 ∧ ct2 ≠ 0) (hlk : Cond.classLink mt.1 ct (exN N1) ∈ gG) (hlk2 : Cond.classLink mt.1 ct2 (exN N2) ∈ gG) (hnc : ∀ {U : State}, xn_P U → va_Nc (exN N2) (exN N1) U)
    (kk : ∀ r γ', rOK mu.2.2.2 r → SB Γ BL mt R 0 0 K (pc + 3) lv (pR mu.2.2.2 r st) (cmb γ' δ w) (k r γ')) (kx : ∀ q, SB Γ BL mt R 1 6 K hp lv [.ref q] (cmb γ δ w) o3) (kx2 : ∀ q, SB Γ BL mt R 1 6 K hp2 lv [.ref q] (cmb γ δ w) o4) : SB Γ BL mt R 0 0 K pc lv st0 (cmb γ δ w) (hcl o1 o2 k (fun x => if x = N1 then o3 else if x = N2 then o4 else none)) := by
  cases ho1 : o1 with
  | some z1 =>
    rw [ho1] at hC
    exact sl_VS F hC hm hn hst hW hR d kk
  | none =>
    intro z hz p e s m args below meth c H locs ls X hc hw hl hP hS
    cases ho2 : o2 with
    | none => rw [ho2] at hz; cases hz
    | some z2 =>
      rw [ho2] at hz hX
      have hz : (if z2.1 = N1 then o3 else if z2.1 = N2 then o4 else none) = some z := hz
      by_cases q0 : z2.1 = N1
      · rw [if_pos q0] at hz
        refine sl_X F hX hm hn hst hW hR2 d ⟨hcs.1, by omega⟩ X hw hl hP hS (fun q ce9 H1 hP1 hS1 hce hcv hcl => ?_)
        rw [q0] at hcl
        exact xt_N1 X.own hce hcv hcl ((X.hd hcs.2).trans ht) hb.1 hb.2.1 hb.2.2.1 (X.G _ hlk) (kx q z hz p e s m args below meth c H1 locs ls X ⟨hcs.1, by omega⟩ hw hl hP1 hS1)
      · rw [if_neg q0] at hz
        by_cases q1 : z2.1 = N2
        · rw [if_pos q1] at hz
          refine sl_X F hX hm hn hst hW hR2 d ⟨hcs.1, by omega⟩ X hw hl hP hS (fun q ce9 H1 hP1 hS1 hce hcv hcl => ?_)
          rw [q1] at hcl
          exact xt_N2 X.own hce hcv hcl ((X.hd hcs.2).trans ht) hb.1 hb.2.1 hb.2.2.1 hb.2.2.2.1 hb.2.2.2.2.1 hb.2.2.2.2.2 (X.G _ hlk) (hnc X.E.2.2.2.2.2.2.2.2.2) (X.G _ hlk2) (kx2 q z hz p e s m args below meth c H1 locs ls X ⟨hcs.1, by omega⟩ hw hl hP1 hS1)
        · rw [if_neg q1] at hz
          cases hz
/-- a helper's call; the reference's read -/
theorem sl_H {y : MethodName} {mu : MT} {N fr lo n index : Nat} {As st0 : List Value} {γ : St} {o1 : Option (Int × St)} {k : Int → St → Option ζ} (hC : HC Γ y mu N fr lo As γ o1) (hcw : Cond.codeWith y mu.2.1 mu.2.2.1 mu.2.2.2 (tabR N) ∈ gG) (hm : Cond.methodLink mt.1 index y ∈ gG) (hst : Cond.static y ∈ gG) (hin : Cond.initialized y.cls ∈ gG) (hd : y.cls ≠ "java/lang/invoke/MethodHandle" ∧ y.cls ≠ "java/lang/invoke/VarHandle" ∧ (parseMethodDescriptor y.desc).map (fun d => d.parameters.length) = some n) (hn : As.length = n) (hs0 : st0 = As.reverse ++ st) (hW : (st.map fun v => v.category).sum ≤ 8) (hR : fr + 1 ≤ R.frames ∧ 8 + (mu.2.2.1 + 11) + lo ≤ R.locals) (hf : ce + 1 ≤ R.cells ∧ sl + N ≤ R.slots) (d : decode mt.2.1 pc = .ok (.invokestatic index, 3))
    (kk : ∀ r γ', i32 r → SB Γ BL mt R (ce + 1) (sl + N) K (pc + 3) lv (vI r :: st) γ' (k r γ')) : SB Γ BL mt R ce sl K pc lv st0 γ (bndN o1 k) := fun z hz p e s m args below meth c H locs ls X hc hw hl hP hS => by
  cases ho : o1 with
  | none => rw [ho] at hz; cases hz
  | some z1 =>
    rw [ho] at hz
    have hM := hC z1 ho hw H.size
    have run := mx_runS (hh := tabR N) (bytes := mu.2.1) (maxL := mu.2.2.1) (ret := mu.2.2.2) (p := p) (e := e) (R := R) (s := s) (m := m) (args := args) (below := below) (meth := meth) (c := c) (H := H) (locs := locs) (cells := ce) (slots := sl) (As := As) (rest := st) (g := F0 m pc ls st0) ⟨X.x, X.b, X.ml, X.own, X.G⟩ hM (gd_consW gG_good hcw) List.mem_cons_self (X.G _ hm) (X.G _ hst) (X.G _ hin) rfl rfl hd hR
      ⟨mPre_blind, fun U hU hW => ⟨rfl, mPre_U X hP hS U hU hW⟩⟩ rfl hn hl.1 hs0 (lv_room (m := m) (pc := pc) (ls := ls) (rest := st0) hW) d hf
    intro T0 hT0 XT
    obtain ⟨v, st₀, t, T', L, h0, X', hL, e1, e2, ⟨⟨hv, hok, hwb, hPz⟩, hz1, hk1⟩, go⟩ := run T0 hT0 XT
    cases hv
    rw [h0] at hz1 hk1
    rw [← e1] at hPz hz1 hk1
    obtain ⟨t2, a1, b1⟩ := kk z1.1 z1.2 hok z hz p e s m args below meth c T'.heap (locs ++ L) ls X hf hwb hl hPz (va_S_call hS hz1 hk1 hL) T' rfl X'
    exact ⟨t2, go t2 a1, b1⟩
theorem sl_RM {index : Nat} {st0 : List Value} {k : Int → St → Option ζ} (hm : Cond.methodLink mt.1 index y_M_read ∈ gG) (hs0 : st0 = vR Γ 88 :: st) (hW : (st.map fun v => v.category).sum ≤ 8) (hR : 917 + 1 ≤ R.frames ∧ 8 + (2 + 11) + 63529 ≤ R.locals) (hf : ce + 1 ≤ R.cells ∧ sl + 9 ≤ R.slots) (d : decode mt.2.1 pc = .ok (.invokevirtual index, 3))
    (kk : ∀ r δ', i32 r → SB Γ BL mt R (ce + 1) (sl + 9) K (pc + 3) lv (vI r :: st) (cmb γ δ' w) (k r δ')) : SB Γ BL mt R ce sl K pc lv st0 (cmb γ δ w) (bndN (f_M_read δ) k) := fun z hz p e s m args below meth c H locs ls X hc hw hl hP hS => by
  obtain ⟨hPS, hPM, hPO⟩ := wL_split hP
  have hb0 := wB_at (Γ := (Γ.sh 88)) (γ := δ) (B := BM) (j := 0) rfl
  have fr9 : ∀ q, mA (Γ.sh 88) BM H.size q → mA Γ BL s.heap.size q := fun q h => h.elim (fun a => Or.inl (adM a)) (fun z => Or.inr (Nat.le_trans hS.1 z))
  cases ho : f_M_read δ with
  | none => rw [ho] at hz; cases hz
  | some z1 =>
    rw [ho] at hz
    have hM := c_M_read (Γ := Γ.sh 88) ho (WL_M hw) H.size
    have run := mx_runV (hh := [(102, 272, 275, 296)]) (bytes := b_M_read) (maxL := 2) (ret := some .int) (n := 0) (p := p) (e := e) (R := R) (s := s) (m := m) (args := args) (below := below) (meth := meth) (c := c) (H := H) (locs := locs) (cells := ce) (slots := sl) (As := []) (rest := st) (g := F0 m pc ls st0) (b := Γ.a 88) (C := R_M) ⟨X.x, X.b, X.ml, X.own, X.G⟩ hM (gd_consW gG_good cw_M_read) List.mem_cons_self (X.G _ hm) (X.G _ im_M_read) (X.G _ se_M_read) (X.G _ in_M) rfl rfl (by decide +kernel) hR
      ⟨mPre_blind, va_recv (q0 := 0) (ci := 12) X.K hPM rfl hb0, fun U hU hW => ⟨rfl, by rw [hU], by rw [hU]; exact hPM, va_K.moved hW.alike X.K, apM X.ap, by rw [hU]; exact ((X.E.kept hS.2.1).narrow fr9).moved hW⟩⟩ rfl rfl hl.1 hs0 (lv_room (m := m) (pc := pc) (ls := ls) (rest := st0) hW) d hf
    intro T0 hT0 XT
    obtain ⟨v, st₀, t, T', L, h0, X', hL, e1, e2, ⟨⟨hv, hok, hwb, hPz⟩, hz1, hk1⟩, go⟩ := run T0 hT0 XT
    cases hv
    rw [h0] at hz1 hk1
    rw [← e1] at hPz hz1 hk1
    have hX1 : ∀ q, adB Γ BS q → T'.heap[q]? = H[q]? := fun q h => hk1 q (wB_lt hPS h) (fun z => z.elim (fun a => absurd a (nSM X.ap h)) (fun b => absurd (wB_lt hPS h) (Nat.not_lt.mpr b)))
    have hO1 : va_P Γ.D kl [oC Γ w] T'.heap := hPO.kept (fun k' q' hk' => by
      match k', hk' with
      | 0, hk' =>
        cases hk'
        have hlt : Γ.a 147 < H.size := (hPO 0 _ rfl).lt
        exact hk1 _ hlt (fun z => z.elim (nMO X.ap) (fun b => absurd hlt (Nat.not_lt.mpr b)))
      | k' + 1, hk' => simp at hk')
    obtain ⟨t2, a1, b1⟩ := kk z1.1 z1.2 hok z hz p e s m args below meth c T'.heap (locs ++ L) ls X hf (WL (WL_S hw) hwb) hl (wL_join (wB_kept hPS hX1) hPz hO1) (vaL_call (fun q a => adM a) hS hz1 hk1 hL) T' rfl X'
    exact ⟨t2, go t2 a1, b1⟩
end LH
