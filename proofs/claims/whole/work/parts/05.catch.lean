/-! a call of a method that throws, and its catching by the caller -/
section XB
variable {p : Program} {l : Launch} {e : Env} {R : Room} {s : State} {m : MethodId} {args : Array Value} {below : List Frame} {meth : Method} {c : Code} {H : Heap} {locs : List Loc} {cells slots : Nat} {Q : State → Prop}
theorem xt_back {y : MethodName} {ws : List Cond} {rm : Room} {Pc : Array Value → State → Prop} {E : String} {Qx : State → Nat → State → Prop} {free : Nat → Prop} {mc ms maxL : Nat} {bytes : ByteArray} {ret : Option FieldType} {U : State} {g : JFrame} {ig : Instr} {len : Nat} {mk : MethodId} {a : Array Value}
    (hM : xt_Met l y ws rm Pc E Qx free mc ms) (X : Stand p l e R s m args below meth c U locs cells slots) (hg : g.method = m) (hsize : g.locals.size = c.maxLocals) (hdg : decode c.code g.pc = .ok (ig, len)) (hW : 2 * g.monitorRoom + (g.stack.map fun v => v.category).sum ≤ 8)
    (hn : U.methodNamed? y = some mk) (hws : (allAtoms ws).before a U = true) (hcode : (Cond.code y bytes maxL ret).before a U = true) (hini : (Cond.initialized y.cls).before a U = true) (hframes : rm.frames + 1 ≤ R.frames) (hlocals : 8 + (maxL + 11) + rm.locals ≤ R.locals)
    (hc0 : cells + rm.cells ≤ R.cells) (hs0 : slots + rm.slots ≤ R.slots) (hP : Pc a (U.calling g mk a)) :
    ∃ (q : Addr) (ce : Cell) (st₀ t U' : State) (L : List Loc), Stand p l e R s m args below meth c U' (locs ++ L) (cells + mc) (slots + ms) ∧ (∀ z ∈ L, free z.base) ∧ st₀.heap = U.heap ∧ U'.heap = t.heap ∧ U'.vm = t.vm ∧ Qx st₀ q t ∧ U.heap.size ≤ q ∧ U'.heap[q]? = some ce ∧ ce.vm.isStatics = false ∧ U.vm.findClass E = some ce.cls ∧
      Steps p.tables e below (doInvoke e (U.setTop g) [] mk a).1 ((U'.setTop g).pushFrame (.throwing q)) := by
  obtain ⟨methY, cY, hmY, hcY, -, hlY, -, -, -, -⟩ := Cond.code_spec hn hcode
  obtain ⟨kY, hkY, -⟩ := className_of_methodNamed hn
  have hinitY : kY.init = .initialized := Cond.initialized_spec (findClass_of_methodNamed hn) hkY hini
  have h : At U g.method c below := by rw [hg]; exact X.here
  have happ : (headSpec ws rm).appliesLoose y e.platform (U.calling g mk a) = true :=
    Spec.appliesLoose_calling (g := g) h hdg hn hkY hinitY (X.room_calling (g := g) (R' := rm) hsize hmY hcY hframes (by rw [hlY]; omega) hc0 hs0) hws
  obtain ⟨mid, hmid⟩ := h.above
  have hfr : (U.setTop g).frames = (.java g :: mid) ++ below := by rw [State.frames_setTop' g h.top, hmid]; rfl
  obtain ⟨o, s₂, hsteps, -, hend, hq⟩ := Steps.callFree hM p X.admits X.cas X.clock (acts := []) hfr happ hP trivial
  rw [State.frames_setTop' g h.top] at hend
  have hq2 : xt_Q E Qx free (U.calling g mk a) o s₂ mc ms := hq
  obtain ⟨q, ce, L, rfl, hqz, hce, hcv, hcl, hQx, hW₂, hsm, hL⟩ := hq2
  obtain ⟨e2, q2, q3, q4, q5, q6⟩ := hsm
  have e3 : s₂ = ({ (U.calling g mk a).setFrames s₂.frames with heap := s₂.heap, slotsUsed := s₂.slotsUsed } : State).setVm s₂.vm := by
    have z : s₂ = ({ s₂ with vm := (U.calling g mk a).vm } : State).setVm s₂.vm := rfl
    rw [e2] at z
    exact z
  have hW' : U.WarmedH s₂.vm := hW₂
  have hf₂ : s₂.frames = .throwing q :: .java g :: U.frames.tail := hend
  obtain ⟨g₀, hg0⟩ := Option.isSome_iff_exists.mp h.top
  obtain ⟨r, hr⟩ := State.topJava?_eq_some.mp hg0
  have hs₂ : s₂ = ((({ U with heap := s₂.heap, slotsUsed := s₂.slotsUsed } : State).setVm s₂.vm).setTop g).pushFrame (.throwing q) := by
    have hr' : (({ U with heap := s₂.heap, slotsUsed := s₂.slotsUsed } : State).setVm s₂.vm).frames = .java g₀ :: r := hr
    refine e3.trans ?_
    rw [hf₂, State.calling_eq h.top, State.setFrames_setFrames, State.pushFrame, State.frames_setTop _ hr', State.setTop_of_frames _ hr', State.setFrames_setFrames, hr]
    rfl
  have hsame : U.sameButNew ({ U with heap := s₂.heap, slotsUsed := s₂.slotsUsed } : State) L mc ms := by
    refine ⟨?_, q2, q3, q4, q5, q6⟩
    obtain ⟨t, ht, -⟩ := State.frames_cons hr
    show ({ U with heap := s₂.heap, slotsUsed := s₂.slotsUsed } : State) = { U.setFrames U.frames with heap := s₂.heap, slotsUsed := s₂.slotsUsed }
    rw [State.setFrames_self ht]
  subst hg
  have hX : Stand p l e R s g.method args below meth c (({ U with heap := s₂.heap, slotsUsed := s₂.slotsUsed } : State).setVm s₂.vm) (locs ++ L) (cells + mc) (slots + ms) :=
    ⟨X.admits, X.cas, X.clock, X.frames, X.room, X.hears, X.method, X.code, (X.here.setHeapUsed s₂.heap s₂.slotsUsed).setVm hW'.alike, X.tail, State.WarmedH.trans X.warmed hW', X.limits, X.bytes, X.same.trans (hsame.setVm s.vm)⟩
  refine ⟨q, ce, U.calling g mk a, s₂, ({ U with heap := s₂.heap, slotsUsed := s₂.slotsUsed } : State).setVm s₂.vm, L, hX, hL, rfl, rfl, rfl, hQx, hqz, hce, hcv, hcl, ?_⟩
  rw [← hs₂]
  exact hsteps
/-- the first row of the caller's table takes it -/
theorem xt_catch1 {T : State} (X : Stand p l e R s m args below meth c T locs cells slots) {own E : String} (hown : s.vm.findClass own = some m.cls) {g : JFrame} (hg : g.method = m) {a : Addr} {ce : Cell} (hce : T.heap[a]? = some ce) (hcv : ce.vm.isStatics = false) (hcl : s.vm.findClass E = some ce.cls)
    {sp ep hp ct : Nat} {rest : List (Nat × Nat × Nat × Nat)} (htab : c.exceptionTable.toList.map (fun h => (h.startPc, h.endPc, h.handlerPc, h.catchType)) = (sp, ep, hp, ct) :: rest) (h1 : sp ≤ g.pc) (h2 : g.pc < ep) (h0 : ct ≠ 0)
    (hlink : (Cond.classLink own ct E).before args s = true) :
    ∃ vm', Stand p l e R s m args below meth c (T.setVm vm') locs cells slots ∧ ∀ target, Steps p.tables e below ((T.setVm vm').setTop { g with pc := hp, stack := [.ref a] }) target → Steps p.tables e below ((T.setTop g).pushFrame (.throwing a)) target := by
  subst hg
  have hpl : e.platform.magicAccessors = ({} : Platform).magicAccessors := by rw [X.admits.platform]
  obtain ⟨cc, hfcc, hlk⟩ := Cond.classLink_spec hown hlink e.platform hpl
  cases hcl.symm.trans hfcc
  obtain ⟨hg₁, hwarm₁, hready₁⟩ := State.classEntry (e := e) X.warmed hlk
  have hsz : (T.vm.noted g.method.cls ct (.cls ce.cls)).classes.size ≤ T.vm.classes.size := by simp [Vm.size_noted]
  generalize T.vm.noted g.method.cls ct (.cls ce.cls) = vm₁ at hg₁ hwarm₁ hready₁ hsz
  refine ⟨vm₁, X.noted hwarm₁, fun target hrest => ?_⟩
  cases hl : c.exceptionTable.toList with
  | nil => rw [hl] at htab; simp at htab
  | cons x t =>
    rw [hl] at htab
    simp only [List.map_cons, List.cons.injEq, Prod.mk.injEq] at htab
    obtain ⟨⟨x1, x2, x3, x4⟩, -⟩ := htab
    subst x1; subst x2; subst x3; subst x4
    refine xt_caught (vm' := vm₁) (pc := x.handlerPc) X.here ?_ hrest
    intro Q E d acts
    have hvm : ((T.setTop g).pushFrame (.throwing a)).vm = T.vm := Stand.throwing_vm T g a
    have hhp : ((T.setTop g).pushFrame (.throwing a)).heap = T.heap := Stand.throwing_heap T g a
    have hk : ∃ k, vm₁.classes[ce.cls]? = some k := by
      obtain ⟨k, hk⟩ := Vm.classAt_of_findClass hfcc
      obtain ⟨k', hk', -⟩ := hwarm₁.alike.2.2 _ _ hk
      exact ⟨k', hk'⟩
    rw [W.findHandler_eq (by rw [hvm]; exact X.method') X.code, hl]
    rw [xt_go (cell := ce) (ck := ce.cls) (vm' := vm₁) (by simp [covers, h1, h2]) h0 (by rw [hvm]; exact hg₁) (by rw [hvm]; exact hsz) (by rw [hhp]; exact hce) (VmData.ne_statics_of hcv) hk hk, if_pos (va_asg vm₁ ce.cls)]
/-- the second row takes it: the object isn't of the first's class -/
theorem xt_catch2 {T : State} (X : Stand p l e R s m args below meth c T locs cells slots) {own E E1 : String} (hown : s.vm.findClass own = some m.cls) {g : JFrame} (hg : g.method = m) {a : Addr} {ce : Cell} (hce : T.heap[a]? = some ce) (hcv : ce.vm.isStatics = false) (hcl : s.vm.findClass E = some ce.cls)
    {sp ep hp ct sp1 ep1 hp1 ct1 : Nat} {rest : List (Nat × Nat × Nat × Nat)} (htab : c.exceptionTable.toList.map (fun h => (h.startPc, h.endPc, h.handlerPc, h.catchType)) = (sp1, ep1, hp1, ct1) :: (sp, ep, hp, ct) :: rest) (h11 : sp1 ≤ g.pc) (h12 : g.pc < ep1) (h10 : ct1 ≠ 0) (h1 : sp ≤ g.pc) (h2 : g.pc < ep) (h0 : ct ≠ 0)
    (hlink1 : (Cond.classLink own ct1 E1).before args s = true) (hno : va_Nc E E1 s) (hlink : (Cond.classLink own ct E).before args s = true) :
    ∃ vm', Stand p l e R s m args below meth c (T.setVm vm') locs cells slots ∧ ∀ target, Steps p.tables e below ((T.setVm vm').setTop { g with pc := hp, stack := [.ref a] }) target → Steps p.tables e below ((T.setTop g).pushFrame (.throwing a)) target := by
  subst hg
  have hpl : e.platform.magicAccessors = ({} : Platform).magicAccessors := by rw [X.admits.platform]
  obtain ⟨c1, hfc1, hlk1⟩ := Cond.classLink_spec hown hlink1 e.platform hpl
  obtain ⟨cc, hfcc, hlk⟩ := Cond.classLink_spec hown hlink e.platform hpl
  cases hcl.symm.trans hfcc
  obtain ⟨n1, n2, hn1, hn2, hn3⟩ := hno
  cases hn1.symm.trans hcl
  cases hn2.symm.trans hfc1
  obtain ⟨hg₁, hwarm₁, hready₁⟩ := State.classEntry (e := e) X.warmed hlk1
  have hsz1 : (T.vm.noted g.method.cls ct1 (.cls c1)).classes.size ≤ T.vm.classes.size := by simp [Vm.size_noted]
  generalize T.vm.noted g.method.cls ct1 (.cls c1) = vm₁ at hg₁ hwarm₁ hready₁ hsz1
  obtain ⟨hg₂, hwarm₂, hready₂⟩ := State.classEntry (e := e) hwarm₁ hlk
  have hsz2 : (vm₁.noted g.method.cls ct (.cls ce.cls)).classes.size ≤ vm₁.classes.size := by simp [Vm.size_noted]
  generalize vm₁.noted g.method.cls ct (.cls ce.cls) = vm₂ at hg₂ hwarm₂ hready₂ hsz2
  refine ⟨vm₂, X.noted hwarm₂, fun target hrest => ?_⟩
  cases hl : c.exceptionTable.toList with
  | nil => rw [hl] at htab; simp at htab
  | cons x1 t1 =>
    cases t1 with
    | nil => rw [hl] at htab; simp at htab
    | cons x t =>
      rw [hl] at htab
      simp only [List.map_cons, List.cons.injEq, Prod.mk.injEq] at htab
      obtain ⟨⟨y1, y2, y3, y4⟩, ⟨z1, z2, z3, z4⟩, -⟩ := htab
      subst y1; subst y2; subst y3; subst y4; subst z1; subst z2; subst z3; subst z4
      refine xt_caught (vm' := vm₂) (pc := x.handlerPc) X.here ?_ hrest
      intro Q E d acts
      have hvm : ((T.setTop g).pushFrame (.throwing a)).vm = T.vm := Stand.throwing_vm T g a
      have hhp : ((T.setTop g).pushFrame (.throwing a)).heap = T.heap := Stand.throwing_heap T g a
      have hat : ∀ {vm' : Vm} {name : String} {cl : ClassId}, s.WarmedH vm' → s.vm.findClass name = some cl → ∃ k, vm'.classes[cl]? = some k := by
        intro vm' name cl hw hf
        obtain ⟨k, hk⟩ := Vm.classAt_of_findClass hf
        obtain ⟨k', hk', -⟩ := hw.alike.2.2 _ _ hk
        exact ⟨k', hk'⟩
      have hna : vm₁.assignable ce.cls c1 = false := by rw [hwarm₁.alike.assignable]; exact hn3
      rw [W.findHandler_eq (by rw [hvm]; exact X.method') X.code, hl]
      rw [xt_go (cell := ce) (ck := c1) (vm' := vm₁) (by simp [covers, h11, h12]) h10 (by rw [hvm]; exact hg₁) (by rw [hvm]; exact hsz1) (by rw [hhp]; exact hce) (VmData.ne_statics_of hcv) (hat hwarm₁ hcl) (hat hwarm₁ hfc1), if_neg (by rw [hna]; decide)]
      rw [xt_go (s := ((T.setTop g).pushFrame (.throwing a)).setVm vm₁) (cell := ce) (ck := ce.cls) (vm' := vm₂) (by simp [covers, h1, h2]) h0 hg₂ hsz2 (by show ((T.setTop g).pushFrame (.throwing a)).heap[a]? = _; rw [hhp]; exact hce) (VmData.ne_statics_of hcv) (hat hwarm₂ hcl) (hat hwarm₂ hcl), if_pos (va_asg vm₂ ce.cls)]
      rfl
/-- a thrown object over the frame g: the machine comes to a state with Q -/
def xt_N (p : Program) (l : Launch) (e : Env) (R : Room) (s : State) (m : MethodId) (args : Array Value) (below : List Frame) (meth : Method) (c : Code) (H : Heap) (locs : List Loc) (cells slots : Nat) (Q : State → Prop) (g : JFrame) (a : Addr) : Prop :=
  ∀ T : State, T.heap = H → Stand p l e R s m args below meth c T locs cells slots → ∃ t, Steps p.tables e below ((T.setTop g).pushFrame (.throwing a)) t ∧ Q t
/-- 'invokevirtual' of a method that throws -/
theorem xt_callV {y : MethodName} {ws : List Cond} {rm : Room} {Pc : Array Value → State → Prop} {E : String} {Qx : State → Nat → State → Prop} {free : Nat → Prop} {mc ms maxL nL n index : Nat} {bytes cc : ByteArray} {ret : Option FieldType} {Ts : List Cond} {own C : String} {b : Addr} {As rest : List Value} {g : JFrame}
    (S : CallFix p m c cc nL s args Ts own) (hM : xt_Met l y ws rm Pc E Qx free mc ms) (cw : CallW R s args own C index y bytes maxL ret ws rm mc ms n) (hp : PreV s H C b Pc As)
    (hg : g.method = m) (hn : As.length = n) (hsize : g.locals.size = nL) (hstack : g.stack = As.reverse ++ .ref b :: rest) (hW : 2 * g.monitorRoom + (rest.map fun v => v.category).sum ≤ 8) (hdg : decode cc g.pc = .ok (.invokevirtual index, 3)) (hf : cells + mc ≤ R.cells ∧ slots + ms ≤ R.slots)
    (kk : ∀ (a : Addr) (ce : Cell) (st₀ t : State) (H1 : Heap) (L : List Loc), st₀.heap = H → t.heap = H1 → s.vm.Alike t.vm → Qx st₀ a t → (∀ z ∈ L, free z.base) → H.size ≤ a → H1[a]? = some ce → ce.vm.isStatics = false → s.vm.findClass E = some ce.cls → xt_N p l e R s m args below meth c H1 (locs ++ L) (cells + mc) (slots + ms) Q { g with stack := rest } a) :
    W p l e R s m args below meth c H locs cells slots Q g := by
  obtain ⟨⟨hrc, hrs, hfr, hlo, hws, hcw, hcode, hini, hy, hlen, hl⟩, hin, hse⟩ := cw
  obtain ⟨hx, hb, hml, ho, -⟩ := S
  obtain ⟨hbl, ⟨cellB, hcB, hoB, hclB⟩, hPc⟩ := hp
  intro T hT X
  obtain ⟨mk, methM, hnamed, hmethM, hstM, habM⟩ := Cond.instanceMethod_spec hin
  obtain ⟨methM', cM, hmethM', -, -, -, -, -, -, hsigM⟩ := Cond.code_spec hnamed hcode
  cases hmethM.symm.trans hmethM'
  obtain ⟨c2, r2, m2, q1, q2, q3, q4, kP, hkP, hkPi⟩ := Cond.selects_spec hse
  cases hclB.symm.trans q1
  cases (State.methodFound?_of_named hnamed hy).symm.trans q2
  cases hnamed.symm.trans q3
  have hselP : selectMethod e.platform s.vm cellB.cls mk = .method mk := by rw [Launch.admits_selectMethod X.admits]; exact q4
  obtain ⟨vm₁, X₁, hstep₁⟩ := X.invokevirtual hx ho hl hnamed hmethM hstM hkP hkPi hy (a := b) (cell := cellB) (by rw [hT]; exact hcB)
    (fun z h => by rw [h] at hoB; cases hoB) hselP hmethM habM hkP hkPi (g := g) hg (argsL := As) (rest := rest) (hn.trans (hlen _ hsigM)) hstack (by rw [hb]; exact hdg)
  obtain ⟨a, ce, st₀, t, U', L, X', hL, e0, e1, e2, hQ, haz, hce, hcv, hcl, hsteps⟩ := xt_back (g := { g with stack := rest }) (mk := mk) (a := (Value.ref b :: As).toArray) hM X₁ hg (hsize.trans hml.symm) (by rw [hb]; exact hdg) hW (X₁.named hnamed)
    (atoms_intro fun w hw => hws w hw _ _ X₁.warmed) (hws _ hcw _ _ X₁.warmed) (word_at X₁.warmed (Or.inl (by first | rfl | simp [Cond.onTables, Cond.keeps, Cond.steady])) hini) hfr hlo (by rw [hrc]; exact hf.1) (by rw [hrs]; exact hf.2) (hbl _ _ _ _ (hPc (T.setVm vm₁) hT X₁.warmed))
  have hT1 : (T.setVm vm₁).heap = H := hT
  rw [hT1] at e0 haz
  obtain ⟨t2, a1, b1⟩ := kk a ce st₀ t t.heap L e0 rfl (by rw [← e2]; exact X'.warmed.alike) hQ hL haz (by rw [← e1]; exact hce) hcv (by rw [← X₁.warmed.alike.findClass]; exact hcl) U' e1 X'
  exact ⟨t2, hstep₁ t2 fun acts => by rw [doInvoke_state]; exact hsteps.trans a1, b1⟩
/-- .. caught by the first row of the caller's table -/
theorem xt_N1 {own E : String} (hown : s.vm.findClass own = some m.cls) {pc : Nat} {ls : Array Slot} {st : List Value} {a : Addr} {ce : Cell} (hce : H[a]? = some ce) (hcv : ce.vm.isStatics = false) (hcl : s.vm.findClass E = some ce.cls)
    {sp ep hp ct : Nat} {rest : List (Nat × Nat × Nat × Nat)} (htab : c.exceptionTable.toList.map (fun h => (h.startPc, h.endPc, h.handlerPc, h.catchType)) = (sp, ep, hp, ct) :: rest) (h1 : sp ≤ pc) (h2 : pc < ep) (h0 : ct ≠ 0)
    (hlink : (Cond.classLink own ct E).before args s = true) (kk : W p l e R s m args below meth c H locs cells slots Q (F0 m hp ls [.ref a])) : xt_N p l e R s m args below meth c H locs cells slots Q (F0 m pc ls st) a := by
  intro T hT X
  obtain ⟨vm', X', st'⟩ := xt_catch1 X hown (g := F0 m pc ls st) rfl (by rw [hT]; exact hce) hcv hcl htab h1 h2 h0 hlink
  obtain ⟨t, a1, b1⟩ := kk (T.setVm vm') hT X'
  exact ⟨t, st' t a1, b1⟩
/-- .. by the second -/
theorem xt_N2 {own E E1 : String} (hown : s.vm.findClass own = some m.cls) {pc : Nat} {ls : Array Slot} {st : List Value} {a : Addr} {ce : Cell} (hce : H[a]? = some ce) (hcv : ce.vm.isStatics = false) (hcl : s.vm.findClass E = some ce.cls)
    {sp ep hp ct sp1 ep1 hp1 ct1 : Nat} {rest : List (Nat × Nat × Nat × Nat)} (htab : c.exceptionTable.toList.map (fun h => (h.startPc, h.endPc, h.handlerPc, h.catchType)) = (sp1, ep1, hp1, ct1) :: (sp, ep, hp, ct) :: rest) (h11 : sp1 ≤ pc) (h12 : pc < ep1) (h10 : ct1 ≠ 0) (h1 : sp ≤ pc) (h2 : pc < ep) (h0 : ct ≠ 0)
    (hlink1 : (Cond.classLink own ct1 E1).before args s = true) (hno : va_Nc E E1 s) (hlink : (Cond.classLink own ct E).before args s = true) (kk : W p l e R s m args below meth c H locs cells slots Q (F0 m hp ls [.ref a])) : xt_N p l e R s m args below meth c H locs cells slots Q (F0 m pc ls st) a := by
  intro T hT X
  obtain ⟨vm', X', st'⟩ := xt_catch2 X hown (g := F0 m pc ls st) rfl (by rw [hT]; exact hce) hcv hcl htab h11 h12 h10 h1 h2 h0 hlink1 hno hlink
  obtain ⟨t, a1, b1⟩ := kk (T.setVm vm') hT X'
  exact ⟨t, st' t a1, b1⟩
/-- .. or it leaves this method too -/
theorem xt_Nout {E : String} {Qx : State → Nat → State → Prop} {free : Nat → Prop} {pc : Nat} {ls : Array Slot} {st : List Value} {a : Addr} {ce : Cell} (haz : s.heap.size ≤ a) (hce : H[a]? = some ce) (hcv : ce.vm.isStatics = false) (hcl : s.vm.findClass E = some ce.cls)
    (hout : ∀ x ∈ c.exceptionTable.toList, covers x pc = false) (hlocks : meth.locks = false) (hL : ∀ q ∈ locs, free q.base) (hq : ∀ t : State, t.heap = H → s.WarmedH t.vm → Qx s a t) : xt_N p l e R s m args below meth c H locs cells slots (xt_MQ below s E Qx free cells slots) (F0 m pc ls st) a := by
  intro T hT X
  obtain ⟨hwalk, hrun, hended, hW, hsame⟩ := X.leaveThrown a (g := F0 m pc ls st) rfl rfl rfl hout hlocks
  exact ⟨_, hwalk, .threw a, hrun, hended, a, ce, locs, rfl, haz, by show T.heap[a]? = some ce; rw [hT]; exact hce, hcv, hcl, hq _ hT hW, hW, hsame, hL⟩
end XB
