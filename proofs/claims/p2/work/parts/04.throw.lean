/-! methods that throw: what they leave, and how a caller catches it -/
def xt_Z (A : Nat → Prop) (U : State) (H : Heap) : Prop := va_Zq Bundle.tN "UNASSIGNED_STACK" Bundle.steD A U H ∧ va_Zq Bundle.tN "SUPPRESSED_SENTINEL" Bundle.listD A U H
theorem xt_Z.moved {A : Nat → Prop} {u U : State} {H : Heap} (hvm : u.vm.Alike U.vm) (h : xt_Z A u H) : xt_Z A U H := ⟨h.1.moved hvm, h.2.moved hvm⟩
theorem xt_Z.kept {A : Nat → Prop} {U : State} {H H1 : Heap} (h : xt_Z A U H) (hq : ∀ a : Nat, a < H.size → ¬ A a → H1[a]? = H[a]?) : xt_Z A U H1 := ⟨h.1.kept hq, h.2.kept hq⟩
theorem xt_Z.narrow {A B : Nat → Prop} {U : State} {H : Heap} (h : xt_Z A U H) (hAB : ∀ q, B q → A q) : xt_Z B U H := ⟨h.1.narrow hAB, h.2.narrow hAB⟩
theorem xt_isRef {C n d : String} {A : Nat → Prop} {U : State} {args : Array Value} (h : va_Zq C n d A U U.heap) : (Cond.isRef (.static C n d)).before args U = true := by
  rcases h with ⟨cf, kf, fi, f, a, cell, h1, h2, h3, h4, h5, h6, h7, h8⟩ | ⟨t, cf, kf, fi, f, a, cell, h1, h2, h3, h4, h5, h6, h7, h8⟩
  all_goals
    have he : (Term.static C n d).eval args U none [] U = cell.slots[f.slot]? := by
      simp [Term.eval, State.fieldNamed?, h1, h2, h4, h5, h6]
    simp [Cond.before, Cond.holds, Cond.value, he, h7]
theorem xt_old {s t : State} {mc ms : Nat} (h : s.sameButNew t [] mc ms) : ∀ q : Nat, q < s.heap.size → t.heap[q]? = s.heap[q]? := by
  intro q hq
  obtain ⟨c', h1, h2, h3, h4⟩ := h.2.2.2.2.2 q s.heap[q] (Array.getElem?_eq_getElem hq)
  rw [h1, Array.getElem?_eq_getElem hq]
  have hs : c'.slots = s.heap[q].slots := by
    apply Array.ext_getElem?
    intro i
    exact h4 i (by simp)
  have e : c' = s.heap[q] := by
    calc c' = { s.heap[q] with slots := c'.slots } := h2
      _ = s.heap[q] := by rw [hs]
  rw [e]
/-- what a method that throws an object of class E leaves: the object is new; what Qx says of it and of the heap; written are old cells that 'free' names alone -/
def xt_Q (E : String) (Qx : State → Nat → State → Prop) (free : Nat → Prop) (s : State) (o : Outcome) (t : State) (mc ms : Nat) : Prop :=
  ∃ (a : Addr) (ce : Cell) (L : List Loc), o = .threw a ∧ s.heap.size ≤ a ∧ t.heap[a]? = some ce ∧ ce.vm.isStatics = false ∧ s.vm.findClass E = some ce.cls ∧ Qx s a t ∧ s.WarmedH t.vm ∧ s.sameButNew ({ t with vm := s.vm } : State) L mc ms ∧ ∀ q ∈ L, free q.base
def xt_Met (l : Launch) (y : MethodName) (ws : List Cond) (rm : Room) (Pc : Array Value → State → Prop) (E : String) (Qx : State → Nat → State → Prop) (free : Nat → Prop) (mc ms : Nat) : Prop :=
  MetFree l y (headSpec ws rm) Pc (fun _ _ _ _ _ => True) (fun _ st o t => xt_Q E Qx free st o t mc ms)
def xt_MQ (below : List Frame) (s : State) (E : String) (Qx : State → Nat → State → Prop) (free : Nat → Prop) (mc ms : Nat) : State → Prop := fun t => ∃ o, t.status = .running ∧ Ended t below o ∧ xt_Q E Qx free s o t mc ms
/-- nothing that was there has changed -/
def xt_same (s : State) (_ : Nat) (t : State) : Prop := s.heap.size ≤ t.heap.size ∧ ∀ q : Nat, q < s.heap.size → t.heap[q]? = s.heap[q]?
theorem xt_ofW {l : Launch} {y : MethodName} {ws ws' : List Cond} {rm : Room} {Pc : Array Value → State → Prop} {E : String} {Qx : State → Nat → State → Prop} {free : Nat → Prop} {mc ms : Nat} {cc : ByteArray} {maxL : Nat} {ret : Option FieldType}
    (hy : plainName y.cls = true) (hw : ws = Cond.code y cc maxL ret :: ws')
    (body : ∀ p e s m args below meth c s₁, BodyLoose p l y (headSpec ws rm) cc maxL ret e s m args below meth c s₁ → c.maxLocals = maxL → Pc args s →
      W p l e (headSpec ws rm).room s m args below meth c s.heap [] 0 0 (xt_MQ below s E Qx free mc ms) (entryFrame m args maxL)) : xt_Met l y ws rm Pc E Qx free mc ms := by
  refine MetFree.of_bodyS (code := cc) (maxLocals := maxL) (ret := ret) hy ?_ ?_
  · intro args s m h hn
    obtain ⟨meth, c, h1, h2, h3, h4, h5, h6, -, -⟩ := Cond.code_spec hn (atoms_spec (ws := ws) h _ (by rw [hw]; exact List.mem_cons_self))
    exact ⟨meth, c, h1, h2, h3, h4, h5, h6⟩
  · intro p e s m args below meth c s₁ B hml hP _
    have hh0 : s₁.heap = s.heap := by rw [B.state]; rfl
    obtain ⟨t, a1, o, b1, b2, b3⟩ := body p e s m args below meth c s₁ B hml hP s₁ hh0 (Stand.of_body B)
    exact ⟨t, o, a1, b1, b2, b3⟩
section XT
variable {p : Program} {l : Launch} {e : Env} {R : Room} {s : State} {m : MethodId} {args : Array Value} {below : List Frame} {meth : Method} {c : Code} {H : Heap} {locs : List Loc} {cells slots : Nat} {Q : State → Prop}
set_option maxHeartbeats 1000000 in
/-- 'throw new E()' out of a method without handlers -/
theorem xt_throw0 {cc : ByteArray} {pc : Nat} {ls : Array Slot} (hexec : p.tables.exec = Jvm.exec) (hb : c.code = cc) (hl : l.stackTraces = false) {own E : String} {names : List String} {ik ic : Nat} {A : Nat → Prop}
    (hown : s.vm.findClass own = some m.cls) (hE : Bundle.fit E = true) (hnames : ∀ n ∈ names, Bundle.fit n = true) (hat : ∀ a ∈ Bundle.ownAtoms0 own ic E names, a.before args s = true)
    (hcl : (Cond.classLink own ik E).before args s = true) (hini : (Cond.initialized E).before args s = true) (hout : ∀ x ∈ c.exceptionTable.toList, covers x (pc + 7) = false) (hlocks : meth.locks = false) (hml : c.maxLocals = ls.size)
    (hS : va_S A s.heap H []) (hdn : decode cc pc = .ok (.new ik, 3)) (hdd : decode cc (pc + 3) = .ok (.dup, 1)) (hd6 : decode cc (pc + 4) = .ok (.invokespecial ic, 3)) (hd9 : decode cc (pc + 7) = .ok (.athrow, 1))
    (hcells : cells + 1 ≤ R.cells) (hslots : slots + 6 ≤ R.slots) (hRf : names.length + 3 < R.frames) (hRl : 1 + (13 * (names.length + 1) + 41) ≤ R.locals) :
    W p l e R s m args below meth c H [] cells slots (xt_MQ below s E xt_same (fun _ => False) (cells + 1) (slots + 6)) (F0 m pc ls []) := by
  refine W.newc hexec hb hown hcl (hat (.instantiable E 6) (by simp [Bundle.ownAtoms0])) hini rfl hdn hcells hslots (fun cC kC h1 h2 h3 h4 => ?_)
  refine W.eq (g2 := F0 m (pc + 3) ls [.ref H.size]) rfl ?_
  refine lv_dup hexec hb hdd rfl ?_
  intro T hT X
  have htr : e.platform.stackTraces = false := (show e.platform.stackTraces = l.stackTraces by rw [X.admits.platform]).trans hl
  have hc1 : T.heap[H.size]? = some (freshCell cC kC) := by
    rw [hT]; simp [freshCell]
  obtain ⟨U, st, hrun, hend, hW, hsame, ce, hce, hown2⟩ := X.ctorThrow0 hexec htr (own := own) (cls := E) (names := names) (ic := ic) hown hE hnames hat (fun _ h => by cases h) (a := H.size) (cX := cC) (kX := kC) h1 h2 hc1 hS.1
    (g := F0 m (pc + 4) ls [.ref H.size, .ref H.size]) rfl hml.symm rfl rfl (rest := []) rfl (by rw [hb]; exact hd6) (by rw [hb]; exact hd9) hout hRf (by simpa [Value.category] using hRl) hlocks
  refine ⟨U, st, .threw H.size, hrun, hend, H.size, ce, [], rfl, hS.1, hce, ?_, ?_, ⟨hsame.2.1, fun q hq => xt_old hsame q hq⟩, hW, hsame, fun q h => by cases h⟩
  · rw [hown2.vm]; rfl
  · exact hown2.cls
end XT
section XC
variable {e : Env} {s : State} {f : JFrame} {a : Addr}
/-- a handler whose class is looked up for the first time, or again -/
theorem xt_go {Q : Handler → Pre} {E : CtlPost} {d : Bool} {acts : List Action} {x : ExceptionTableEntry} {t : List ExceptionTableEntry} {ck : ClassId} {cell : Cell} {vm' : Vm} (hx : covers x f.pc = true) (h0 : x.catchType ≠ 0)
    (hg : (Jvm.resolveClass f.method.cls x.catchType).Gives e.toSetting s.vm (.ok ck) vm') (hsz : vm'.classes.size ≤ s.vm.classes.size) (hcell : s.heap[a]? = some cell) (hobj : ∀ k, cell.vm ≠ .statics k)
    (hk : ∃ k, vm'.classes[cell.cls]? = some k) (hc : ∃ k, vm'.classes[ck]? = some k) :
    wp (findHandler.go f a (x :: t)) Q E e d acts s ↔ if vm'.assignable cell.cls ck = true then Q (.found x.handlerPc) d acts (s.setVm vm') else wp (findHandler.go f a t) Q E e d acts (s.setVm vm') := by
  simp only [covers] at hx
  obtain ⟨ha, ht⟩ := hg.op (op := VmOp.resolveClass f.method.cls x.catchType) rfl
  cases hfit : vm'.assignable cell.cls ck <;>
    simp [findHandler.go, hx, h0, ha, ht, hsz, hcell, hobj, hk, hc, hfit, VmOp.dirties, VmOp.acts]
def xt_Finds (e : Env) (s s' : State) (f : JFrame) (a : Addr) (h : Handler) : Prop :=
  ∀ (Q : Handler → Pre) (E : CtlPost) (d : Bool) (acts : List Action), wp (findHandler f a) Q E e d acts s ↔ Q h d acts s'
theorem xt_stepCatch {s' : State} {r : List Frame} {pc : Nat} (hfind : xt_Finds e s s' f a (.found pc)) :
    (stepThrowing e s a (.java f :: r)).Is (s'.setFrames (.java { f with pc := pc, stack := [.ref a] } :: r)) [] := by
  simp only [stepThrowing, searchFrame, vmDo]
  generalize hr : Sem.go _ e false [] s = res
  obtain ⟨as, rfl, ha⟩ := Sem.eq_ok_of hr (a := Handler.found pc) (s' := s') (acts' := []) (by simp [hfind _ _ _ _])
  exact ⟨rfl, ha⟩
theorem xt_caught {tb : Tables} {target : State} {g : JFrame} {c : Code} {below : List Frame} (h : At s g.method c below) {pc : Nat} {vm' : Vm}
    (hfind : xt_Finds e ((s.setTop g).pushFrame (.throwing a)) (((s.setTop g).pushFrame (.throwing a)).setVm vm') g a (.found pc))
    (hrest : Steps tb e below ((s.setVm vm').setTop { g with pc := pc, stack := [.ref a] }) target) :
    Steps tb e below ((s.setTop g).pushFrame (.throwing a)) target := by
  obtain ⟨hgo, hw⟩ := h.throwing a
  refine Steps.head hgo hw ?_
  rw [stepThread_throwing (frames_entered h.top _), (xt_stepCatch (s := (s.setTop g).pushFrame (.throwing a)) hfind).1]
  obtain ⟨g₀, hg⟩ := Option.isSome_iff_exists.mp h.top
  obtain ⟨r, hr⟩ := State.topJava?_eq_some.mp hg
  have hr' : (s.setVm vm').frames = .java g₀ :: r := hr
  rw [State.setTop_of_frames _ hr'] at hrest
  have e1 : (((s.setTop g).pushFrame (.throwing a)).setVm vm').setFrames (.java { g with pc := pc, stack := [.ref a] } :: s.frames.tail) = (s.setVm vm').setFrames (.java { g with pc := pc, stack := [.ref a] } :: r) := by
    rw [hr]
    show (((s.setTop g).pushFrame (.throwing a)).setFrames _).setVm vm' = ((s.setFrames _)).setVm vm'
    rw [State.pushFrame, State.setFrames_setFrames, State.setTop_of_frames _ hr, State.setFrames_setFrames]
    rfl
  rw [e1]
  exact hrest
end XC
