/-! methods that return or throw: their contracts, and a call of one -/
section BM
variable {p : Program} {l : Launch} {e : Env} {R : Room} {s : State} {m : MethodId} {args : Array Value} {below : List Frame} {meth : Method} {c : Code} {H : Heap} {locs : List Loc} {cells slots : Nat} {Q : State → Prop}
theorem bm_mono {Q2 : State → Prop} {g : JFrame} (h : ∀ t, Q t → Q2 t) (k : W p l e R s m args below meth c H locs cells slots Q g) : W p l e R s m args below meth c H locs cells slots Q2 g := fun T hT X => by
  obtain ⟨t, a, b⟩ := k T hT X
  exact ⟨t, a, h t b⟩
theorem bm_monoN {Q2 : State → Prop} {g : JFrame} {a : Addr} (h : ∀ t, Q t → Q2 t) (k : xt_N p l e R s m args below meth c H locs cells slots Q g a) : xt_N p l e R s m args below meth c H locs cells slots Q2 g a := fun T hT X => by
  obtain ⟨t, a, b⟩ := k T hT X
  exact ⟨t, a, h t b⟩
def bm_Q (Qc : Array Value → State → Outcome → State → Prop) (E : String) (Qx : State → Nat → State → Prop) (free : Nat → Prop) (mc ms mx sx : Nat) (a : Array Value) (st : State) (o : Outcome) (t : State) : Prop :=
  (Qc a st o t ∧ ∃ L, FrameEnd st o t L mc ms ∧ ∀ q ∈ L, free q.base) ∨ xt_Q E Qx free st o t mx sx
def bm_Met (l : Launch) (y : MethodName) (ws : List Cond) (rm : Room) (Pc : Array Value → State → Prop) (Qc : Array Value → State → Outcome → State → Prop) (E : String) (Qx : State → Nat → State → Prop) (free : Nat → Prop) (mc ms mx sx : Nat) : Prop :=
  MetFree l y (headSpec ws rm) Pc (fun _ _ _ _ _ => True) (bm_Q Qc E Qx free mc ms mx sx)
def bm_MQ (below : List Frame) (Qc : Array Value → State → Outcome → State → Prop) (a : Array Value) (s : State) (E : String) (Qx : State → Nat → State → Prop) (free : Nat → Prop) (mc ms mx sx : Nat) : State → Prop := fun t =>
  ∃ o, t.status = .running ∧ Ended t below o ∧ bm_Q Qc E Qx free mc ms mx sx a s o t
theorem bm_R {Qc : Array Value → State → Outcome → State → Prop} {E : String} {Qx : State → Nat → State → Prop} {free : Nat → Prop} {mc ms mx sx : Nat} (t : State) (h : MQ below Qc args s mc ms free t) : bm_MQ below Qc args s E Qx free mc ms mx sx t := by
  obtain ⟨o, h1, h2, h3⟩ := h
  exact ⟨o, h1, h2, Or.inl h3⟩
theorem bm_T {Qc : Array Value → State → Outcome → State → Prop} {E : String} {Qx : State → Nat → State → Prop} {free : Nat → Prop} {mc ms mx sx : Nat} (t : State) (h : xt_MQ below s E Qx free mx sx t) : bm_MQ below Qc args s E Qx free mc ms mx sx t := by
  obtain ⟨o, h1, h2, h3⟩ := h
  exact ⟨o, h1, h2, Or.inr h3⟩
theorem bm_ofW {y : MethodName} {ws ws' : List Cond} {rm : Room} {Pc : Array Value → State → Prop} {Qc : Array Value → State → Outcome → State → Prop} {E : String} {Qx : State → Nat → State → Prop} {free : Nat → Prop} {mc ms mx sx : Nat} {cc : ByteArray} {maxL : Nat} {ret : Option FieldType}
    (hy : plainName y.cls = true) (hw : ws = Cond.code y cc maxL ret :: ws')
    (body : ∀ p e s m args below meth c s₁, BodyLoose p l y (headSpec ws rm) cc maxL ret e s m args below meth c s₁ → c.maxLocals = maxL → Pc args s →
      W p l e (headSpec ws rm).room s m args below meth c s.heap [] 0 0 (bm_MQ below Qc args s E Qx free mc ms mx sx) (entryFrame m args maxL)) : bm_Met l y ws rm Pc Qc E Qx free mc ms mx sx := by
  refine MetFree.of_bodyS (code := cc) (maxLocals := maxL) (ret := ret) hy ?_ ?_
  · intro args s m h hn
    obtain ⟨meth, c, h1, h2, h3, h4, h5, h6, -, -⟩ := Cond.code_spec hn (atoms_spec (ws := ws) h _ (by rw [hw]; exact List.mem_cons_self))
    exact ⟨meth, c, h1, h2, h3, h4, h5, h6⟩
  · intro p e s m args below meth c s₁ B hml hP _
    have hh0 : s₁.heap = s.heap := by rw [B.state]; rfl
    obtain ⟨t, a1, o, b1, b2, b3⟩ := body p e s m args below meth c s₁ B hml hP s₁ hh0 (Stand.of_body B)
    exact ⟨t, o, a1, b1, b2, b3⟩
set_option maxHeartbeats 1000000 in
theorem bm_back {y : MethodName} {ws : List Cond} {rm : Room} {Pc : Array Value → State → Prop} {Qc : Array Value → State → Outcome → State → Prop} {E : String} {Qx : State → Nat → State → Prop} {free : Nat → Prop} {mc ms mx sx maxL : Nat} {bytes : ByteArray} {ret : Option FieldType} {U : State} {g : JFrame} {ig : Instr} {mk : MethodId} {a : Array Value}
    (hM : bm_Met l y ws rm Pc Qc E Qx free mc ms mx sx) (X : Stand p l e R s m args below meth c U locs cells slots) (hg : g.method = m) (hsize : g.locals.size = c.maxLocals) (hdg : decode c.code g.pc = .ok (ig, 3)) (hW : 2 * g.monitorRoom + (g.stack.map fun v => v.category).sum ≤ 8)
    (hn : U.methodNamed? y = some mk) (hws : (allAtoms ws).before a U = true) (hcode : (Cond.code y bytes maxL ret).before a U = true) (hini : (Cond.initialized y.cls).before a U = true) (hframes : rm.frames + 1 ≤ R.frames) (hlocals : 8 + (maxL + 11) + rm.locals ≤ R.locals)
    (hc0 : cells + rm.cells ≤ R.cells) (hs0 : slots + rm.slots ≤ R.slots) (hP : Pc a (U.calling g mk a)) :
    (∃ (v : Option Value) (st₀ t U' : State) (L : List Loc), Stand p l e R s m args below meth c U' (locs ++ L) (cells + mc) (slots + ms) ∧ (∀ z ∈ L, free z.base) ∧ st₀.heap = U.heap ∧ U'.heap = t.heap ∧ U'.vm = t.vm ∧ Qc a st₀ (.returned v) t ∧
      Steps p.tables e below (doInvoke e (U.setTop g) [] mk a).1 (U'.setTop { g with pc := g.pc + 3, stack := v.toList ++ g.stack })) ∨
    (∃ (q : Addr) (ce : Cell) (st₀ t U' : State) (L : List Loc), Stand p l e R s m args below meth c U' (locs ++ L) (cells + mx) (slots + sx) ∧ (∀ z ∈ L, free z.base) ∧ st₀.heap = U.heap ∧ U'.heap = t.heap ∧ U'.vm = t.vm ∧ Qx st₀ q t ∧ U.heap.size ≤ q ∧ U'.heap[q]? = some ce ∧ ce.vm.isStatics = false ∧ U.vm.findClass E = some ce.cls ∧
      Steps p.tables e below (doInvoke e (U.setTop g) [] mk a).1 ((U'.setTop g).pushFrame (.throwing q))) := by
  obtain ⟨methY, cY, hmY, hcY, -, hlY, -, -, -, -⟩ := Cond.code_spec hn hcode
  obtain ⟨kY, hkY, -⟩ := className_of_methodNamed hn
  have hinitY : kY.init = .initialized := Cond.initialized_spec (findClass_of_methodNamed hn) hkY hini
  have h : At U g.method c below := by rw [hg]; exact X.here
  have happ : (headSpec ws rm).appliesLoose y e.platform (U.calling g mk a) = true :=
    Spec.appliesLoose_calling (g := g) h hdg hn hkY hinitY (X.room_calling (g := g) (R' := rm) hsize hmY hcY hframes (by rw [hlY]; omega) hc0 hs0) hws
  obtain ⟨mid, hmid⟩ := h.above
  have hfr : (U.setTop g).frames = (.java g :: mid) ++ below := by rw [State.frames_setTop' g h.top, hmid]; rfl
  obtain ⟨o, s₂, hsteps, -, hend, hq⟩ := Steps.callFree hM p X.admits X.cas X.clock (acts := []) hfr happ hP trivial
  rw [State.frames_setTop' g h.top] at hend
  have hq2 : bm_Q Qc E Qx free mc ms mx sx a (U.calling g mk a) o s₂ := hq
  rcases hq2 with ⟨hQ, L, hfe, hL⟩ | ⟨q, ce, L, rfl, hqz, hce, hcv, hcl, hQx, hW₂, hsm, hL⟩
  · left
    obtain ⟨⟨v, rfl⟩, hW₂, e2, q2, q3, q4, q5, q6⟩ := hfe
    have e3 : s₂ = ({ (U.calling g mk a).setFrames s₂.frames with heap := s₂.heap, slotsUsed := s₂.slotsUsed } : State).setVm s₂.vm := by
      have z : s₂ = ({ s₂ with vm := (U.calling g mk a).vm } : State).setVm s₂.vm := rfl
      rw [e2] at z
      exact z
    obtain ⟨c₂, i₂, len₂, hc₂, hd₂, hf₂⟩ := hend
    have hW' : U.WarmedH s₂.vm := hW₂
    have hcc : c₂ = c := by
      have h1 : s₂.code? g.method = U.code? g.method := by
        rw [State.code?_eq, State.code?_eq, hW'.alike.method?]
      exact Option.some.inj (hc₂.symm.trans (h1.trans h.code))
    subst hcc
    have hlen : len₂ = 3 := by rw [hdg] at hd₂; cases hd₂; rfl
    subst hlen
    obtain ⟨g₀, hg0⟩ := Option.isSome_iff_exists.mp h.top
    obtain ⟨r, hr⟩ := State.topJava?_eq_some.mp hg0
    have hs₂ : s₂ = (({ U with heap := s₂.heap, slotsUsed := s₂.slotsUsed } : State).setVm s₂.vm).setTop { g with pc := g.pc + 3, stack := v.toList ++ g.stack } := by
      have hr' : (({ U with heap := s₂.heap, slotsUsed := s₂.slotsUsed } : State).setVm s₂.vm).frames = .java g₀ :: r := hr
      refine e3.trans ?_
      rw [hf₂, State.calling_eq h.top, State.setFrames_setFrames, State.setTop_of_frames _ hr', hr]
      rfl
    have hsame : U.sameButNew ({ U with heap := s₂.heap, slotsUsed := s₂.slotsUsed } : State) L mc ms := by
      refine ⟨?_, q2, q3, q4, q5, q6⟩
      obtain ⟨t, ht, -⟩ := State.frames_cons hr
      show ({ U with heap := s₂.heap, slotsUsed := s₂.slotsUsed } : State) = { U.setFrames U.frames with heap := s₂.heap, slotsUsed := s₂.slotsUsed }
      rw [State.setFrames_self ht]
    subst hg
    refine ⟨v, U.calling g mk a, s₂, ({ U with heap := s₂.heap, slotsUsed := s₂.slotsUsed } : State).setVm s₂.vm, L,
      ⟨X.admits, X.cas, X.clock, X.frames, X.room, X.hears, X.method, X.code, (X.here.setHeapUsed s₂.heap s₂.slotsUsed).setVm hW'.alike, X.tail, State.WarmedH.trans X.warmed hW', X.limits, X.bytes, X.same.trans (hsame.setVm s.vm)⟩, hL, rfl, rfl, rfl, hQ, ?_⟩
    rw [← hs₂]
    exact hsteps
  · right
    obtain ⟨e2, q2, q3, q4, q5, q6⟩ := hsm
    have e3 : s₂ = ({ (U.calling g mk a).setFrames s₂.frames with heap := s₂.heap, slotsUsed := s₂.slotsUsed } : State).setVm s₂.vm := by
      have z : s₂ = ({ s₂ with vm := (U.calling g mk a).vm } : State).setVm s₂.vm := rfl
      rw [e2] at z
      exact z
    have hW' : U.WarmedH s₂.vm := hW₂
    have hf₂ : s₂.frames = .throwing q :: .java g :: U.frames.tail := hend
    obtain ⟨g₀, hg0⟩ := Option.isSome_iff_exists.mp h.top
    obtain ⟨r, hr⟩ := State.topJava?_eq_some.mp hg0
    have hs₂ : s₂ = ((({ U with heap := s₂.heap, slotsUsed := s₂.slotsUsed } : State).setVm s₂.vm).setTop g).pushFrame (.throwing q) := by
      have hr' : (({ U with heap := s₂.heap, slotsUsed := s₂.slotsUsed } : State).setVm s₂.vm).frames = .java g₀ :: r := hr
      refine e3.trans ?_
      rw [hf₂, State.calling_eq h.top, State.setFrames_setFrames, State.pushFrame, State.frames_setTop _ hr', State.setTop_of_frames _ hr', State.setFrames_setFrames, hr]
      rfl
    have hsame : U.sameButNew ({ U with heap := s₂.heap, slotsUsed := s₂.slotsUsed } : State) L mx sx := by
      refine ⟨?_, q2, q3, q4, q5, q6⟩
      obtain ⟨t, ht, -⟩ := State.frames_cons hr
      show ({ U with heap := s₂.heap, slotsUsed := s₂.slotsUsed } : State) = { U.setFrames U.frames with heap := s₂.heap, slotsUsed := s₂.slotsUsed }
      rw [State.setFrames_self ht]
    subst hg
    have hX : Stand p l e R s g.method args below meth c (({ U with heap := s₂.heap, slotsUsed := s₂.slotsUsed } : State).setVm s₂.vm) (locs ++ L) (cells + mx) (slots + sx) :=
      ⟨X.admits, X.cas, X.clock, X.frames, X.room, X.hears, X.method, X.code, (X.here.setHeapUsed s₂.heap s₂.slotsUsed).setVm hW'.alike, X.tail, State.WarmedH.trans X.warmed hW', X.limits, X.bytes, X.same.trans (hsame.setVm s.vm)⟩
    refine ⟨q, ce, U.calling g mk a, s₂, ({ U with heap := s₂.heap, slotsUsed := s₂.slotsUsed } : State).setVm s₂.vm, L, hX, hL, rfl, rfl, rfl, hQx, hqz, hce, hcv, hcl, ?_⟩
    rw [← hs₂]
    exact hsteps
/-- 'invokevirtual' of a method that returns or throws -/
theorem bm_callV {y : MethodName} {ws : List Cond} {rm : Room} {Pc : Array Value → State → Prop} {Qc : Array Value → State → Outcome → State → Prop} {E : String} {Qx : State → Nat → State → Prop} {free : Nat → Prop} {mc ms mx sx maxL nL n index : Nat} {bytes cc : ByteArray} {ret : Option FieldType} {Ts : List Cond} {own C : String} {b : Addr} {As rest : List Value} {g : JFrame}
    (S : CallFix p m c cc nL s args Ts own) (hM : bm_Met l y ws rm Pc Qc E Qx free mc ms mx sx) (cw : CallW R s args own C index y bytes maxL ret ws rm mx sx n) (hp : PreV s H C b Pc As)
    (hg : g.method = m) (hn : As.length = n) (hsize : g.locals.size = nL) (hstack : g.stack = As.reverse ++ .ref b :: rest) (hW : 2 * g.monitorRoom + (rest.map fun v => v.category).sum ≤ 8) (hdg : decode cc g.pc = .ok (.invokevirtual index, 3)) (hf : cells + mx ≤ R.cells ∧ slots + sx ≤ R.slots)
    (kr : ∀ (v : Option Value) (st₀ t : State) (H1 : Heap) (L : List Loc), st₀.heap = H → t.heap = H1 → s.vm.Alike t.vm → Qc (Value.ref b :: As).toArray st₀ (.returned v) t → (∀ z ∈ L, free z.base) → W p l e R s m args below meth c H1 (locs ++ L) (cells + mc) (slots + ms) Q { g with pc := g.pc + 3, stack := v.toList ++ rest })
    (kt : ∀ (a : Addr) (ce : Cell) (st₀ t : State) (H1 : Heap) (L : List Loc), st₀.heap = H → t.heap = H1 → s.vm.Alike t.vm → Qx st₀ a t → (∀ z ∈ L, free z.base) → H.size ≤ a → H1[a]? = some ce → ce.vm.isStatics = false → s.vm.findClass E = some ce.cls → xt_N p l e R s m args below meth c H1 (locs ++ L) (cells + mx) (slots + sx) Q { g with stack := rest } a) :
    W p l e R s m args below meth c H locs cells slots Q g := by
  obtain ⟨⟨hrc, hrs, hfr, hlo, hws, hcw, hcode, hini, hy, hlen, hl⟩, hin, hse⟩ := cw
  obtain ⟨hx, hb, hml, ho, -⟩ := S
  obtain ⟨hbl, ⟨cellB, hcB, hoB, hclB⟩, hPc⟩ := hp
  intro T hT X
  obtain ⟨mk, methM, hnamed, hmethM, hstM, habM⟩ := Cond.instanceMethod_spec hin
  obtain ⟨methM', cM, hmethM', -, -, -, -, -, -, hsigM⟩ := Cond.code_spec hnamed hcode
  cases hmethM.symm.trans hmethM'
  obtain ⟨c2, r2, m2, q1, q2, q3, q4, kP, hkP, hkPi⟩ := Cond.selects_spec hse
  cases hclB.symm.trans q1
  cases (State.methodFound?_of_named hnamed hy).symm.trans q2
  cases hnamed.symm.trans q3
  have hselP : selectMethod e.platform s.vm cellB.cls mk = .method mk := by rw [Launch.admits_selectMethod X.admits]; exact q4
  obtain ⟨vm₁, X₁, hstep₁⟩ := X.invokevirtual hx ho hl hnamed hmethM hstM hkP hkPi hy (a := b) (cell := cellB) (by rw [hT]; exact hcB)
    (fun z h => by rw [h] at hoB; cases hoB) hselP hmethM habM hkP hkPi (g := g) hg (argsL := As) (rest := rest) (hn.trans (hlen _ hsigM)) hstack (by rw [hb]; exact hdg)
  have hT1 : (T.setVm vm₁).heap = H := hT
  rcases bm_back (g := { g with stack := rest }) (mk := mk) (a := (Value.ref b :: As).toArray) hM X₁ hg (hsize.trans hml.symm) (by rw [hb]; exact hdg) hW (X₁.named hnamed)
    (atoms_intro fun w hw => hws w hw _ _ X₁.warmed) (hws _ hcw _ _ X₁.warmed) (word_at X₁.warmed (Or.inl (by first | rfl | simp [Cond.onTables, Cond.keeps, Cond.steady])) hini) hfr hlo (by rw [hrc]; exact hf.1) (by rw [hrs]; exact hf.2) (hbl _ _ _ _ (hPc (T.setVm vm₁) hT X₁.warmed)) with
    ⟨v, st₀, t, U', L, X', hL, e0, e1, e2, hQ, hsteps⟩ | ⟨a, ce, st₀, t, U', L, X', hL, e0, e1, e2, hQ, haz, hce, hcv, hcl, hsteps⟩
  · rw [hT1] at e0
    obtain ⟨t2, a1, b1⟩ := kr v st₀ t t.heap L e0 rfl (by rw [← e2]; exact X'.warmed.alike) hQ hL U' e1 X'
    exact ⟨t2, hstep₁ t2 fun acts => by rw [doInvoke_state]; exact hsteps.trans a1, b1⟩
  · rw [hT1] at e0 haz
    obtain ⟨t2, a1, b1⟩ := kt a ce st₀ t t.heap L e0 rfl (by rw [← e2]; exact X'.warmed.alike) hQ hL haz (by rw [← e1]; exact hce) hcv (by rw [← X₁.warmed.alike.findClass]; exact hcl) U' e1 X'
    exact ⟨t2, hstep₁ t2 fun acts => by rw [doInvoke_state]; exact hsteps.trans a1, b1⟩
end BM
