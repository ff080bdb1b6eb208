/-! the law: rows with its script -/
def R_law : String := "StreamNodesLaw"
def lw_P (b : Addr) (xs : List Int32) (args : Array Value) (s : State) : Prop := args = #[.ref b] ∧ s.IntsAt b xs ∧ xs.length ≤ 3072 ∧ (Jvm.Cond.and given_1 narrow_1).before args s = true
def lw_Q (_ : Array Value) (s : State) (o : Outcome) (t : State) : Prop := o = .returned (some (.int 1)) ∧ Framed s o t [] 601024 7293034
def lw_Z (below : List Frame) (a : Array Value) (s : State) : State → Prop := fun t => ∃ o, t.status = .running ∧ Ended t below o ∧ lw_Q a s o t
/-- the law's own end, with 1 on the stack, nothing written that was there before, its room as the claim has it -/
theorem lw_ret {p : Program} {l : Launch} {e : Env} {s : State} {m : MethodId} {below : List Frame} {meth : Method} {c : Code} {b : Nat} (hx : p.tables.exec = Jvm.exec) (hb : c.code = code) (hr : meth.sig.returnType = ret) (hlocks : meth.locks = false) {pc : Nat} {H : Heap} {ls : Array Slot} (hdg : decode code pc = .ok (.ireturn, 1)) : W p l e room_1 s m #[Value.ref b] below meth c H [] 601024 7293034 (lw_Z below #[Value.ref b] s) (F0 m pc ls [.int 1]) := by
  intro T hT X
  obtain ⟨fs, hret, hrun, hended, hW, hframe⟩ := X.leave (v := some (.int 1)) (hlocks := hlocks) (fun h => by rw [hr] at h; cases h)
  have hmeth' : T.vm.method? m = some meth := X.method'
  refine ⟨T.setFrames fs, ?_, .returned (some (.int 1)), hrun, hended, rfl, ⟨_, rfl⟩, hW, hframe⟩
  jvm_step X.here [X.here.top, hx, hb, hdg, hmeth', hr, ret, narrow_b1]
  (try refine ⟨rfl, ?_⟩); (try refine ⟨rfl, ?_⟩)
  first | (intro acts; rw [hret _ acts rfl rfl rfl]) | rw [hret _ _ rfl rfl rfl]
  exact Steps.refl _
/-- what holds at the law's entry: the machine, the code, the tables' words (any of lw_tbl by 'hts w (by decide +kernel)'), the script of L ints xs at the cell b, what the Statement gives of the start (any of its parts by flat_of_before) -/
def lw_At (p : Program) (s : State) (m : MethodId) (meth : Method) (c : Code) (b L : Nat) (xs : Nat → Int32) : Prop :=
  p.tables.exec = Jvm.exec ∧ c.code = code ∧ meth.sig.returnType = ret ∧ c.maxLocals = 8 ∧ s.vm.findClass R_law = some m.cls ∧ (∀ w ∈ lw_tbl, w.before #[Value.ref b] s = true) ∧ va_X b L xs s s.heap ∧ b < s.heap.size ∧ meth.locks = false ∧ (Jvm.Cond.and given_1 narrow_1).before #[Value.ref b] s = true
abbrev Scr : Type := Nat × Nat × (Nat → Int32)
def SY (Γ : Ctx) (Y : Scr) (args : Array Value) (s : State) : Prop := va_X Y.1 Y.2.1 Y.2.2 s s.heap ∧ Y.1 < s.heap.size ∧ (∀ q, adB Γ BL q → s.heap.size ≤ q) ∧ args = #[.ref Y.1]
def SL (Γ : Ctx) (Y : Scr) (mt : MT) (R : Room) (ce sl : Nat) {ζ : Type} (K : Kd ζ) (pc : Nat) (lv : List (Nat × Value)) (st : List Value) (γ : St) (o : Option ζ) : Prop :=
  ∀ z, o = some z → ∀ (p : Program) (e : Env) (s : State) (m : MethodId) (args : Array Value) (below : List Frame) (meth : Method) (c : Code) (H : Heap) (locs : List Loc) (ls : Array Slot),
    CX Γ BL mt R p s m args meth c → (ce ≤ R.cells ∧ sl ≤ R.slots) → WB BL γ → lv_has ls mt.2.2.1 lv → va_P Γ.D kl (wB Γ γ 0 BL) H → va_S (mA Γ BL s.heap.size) s.heap H locs → SY Γ Y args s → W p Γ.l e R s m args below meth c H locs ce sl (K below args s z) (F0 m pc ls st)
section SLR
variable {Γ : Ctx} {Y : Scr} {mt : MT} {R : Room} {ce sl : Nat} {ζ : Type} {K : Kd ζ} {pc : Nat} {lv lv' : List (Nat × Value)} {st : List Value} {γ : St} {o : Option ζ}
theorem sm_none : SL Γ Y mt R ce sl K pc lv st γ none := fun z hz => by cases hz
theorem sm_eq {o' : Option ζ} (h : o = o') (k : SL Γ Y mt R ce sl K pc lv st γ o') : SL Γ Y mt R ce sl K pc lv st γ o := h ▸ k
theorem sm_chk {c : Prop} {inst : Decidable c} (k : c → SL Γ Y mt R ce sl K pc lv st γ o) : SL Γ Y mt R ce sl K pc lv st γ (@chk c ζ inst o) := fun z hz => k (chk_e hz).1 z (chk_e hz).2
theorem sm_lv (ks : List Nat) (hl' : lv_pick lv ks = lv') (k : SL Γ Y mt R ce sl K pc lv' st γ o) : SL Γ Y mt R ce sl K pc lv st γ o := fun z hz p e s m args below meth c H locs ls X hc hw hl hP hS hY => k z hz p e s m args below meth c H locs ls X hc hw (lv_sub hl ks hl') hP hS hY
theorem sm_iconst {n : Int} (d : decode mt.2.1 pc = .ok (.iconst n, 1)) (k : SL Γ Y mt R ce sl K (pc + 1) lv (vI n :: st) γ o) : SL Γ Y mt R ce sl K pc lv st γ o := fun z hz p e s m args below meth c H locs ls X hc hw hl hP hS hY => lv_iconst X.x X.b d rfl (k z hz p e s m args below meth c H locs ls X hc hw hl hP hS hY)
theorem sm_bipush {n : Int} (d : decode mt.2.1 pc = .ok (.bipush n, 2)) (hv : (Int8.ofInt n).toInt32 = iI n) (k : SL Γ Y mt R ce sl K (pc + 2) lv (vI n :: st) γ o) : SL Γ Y mt R ce sl K pc lv st γ o := fun z hz p e s m args below meth c H locs ls X hc hw hl hP hS hY => lv_bipush X.x X.b d hv (k z hz p e s m args below meth c H locs ls X hc hw hl hP hS hY)
theorem sm_sipush {n : Int} (d : decode mt.2.1 pc = .ok (.sipush n, 3)) (hv : (Int16.ofInt n).toInt32 = iI n) (k : SL Γ Y mt R ce sl K (pc + 3) lv (vI n :: st) γ o) : SL Γ Y mt R ce sl K pc lv st γ o := fun z hz p e s m args below meth c H locs ls X hc hw hl hP hS hY => lv_sipush X.x X.b d hv (k z hz p e s m args below meth c H locs ls X hc hw hl hP hS hY)
theorem sm_ldc {index : Nat} {v : Int32} (n : Int) (ev : v = iI n) (hk : Cond.constant mt.1 index v ∈ gG) (d : decode mt.2.1 pc = .ok (.ldc index, 2)) (k : SL Γ Y mt R ce sl K (pc + 2) lv (vI n :: st) γ o) : SL Γ Y mt R ce sl K pc lv st γ o := fun z hz p e s m args below meth c H locs ls X hc hw hl hP hS hY => lv_ldc X.x X.b X.own (X.G _ hk) d (by rw [ev]; exact k z hz p e s m args below meth c H locs ls X hc hw hl hP hS hY)
theorem sm_ldcw {index : Nat} {v : Int32} (n : Int) (ev : v = iI n) (hk : Cond.constant mt.1 index v ∈ gG) (d : decode mt.2.1 pc = .ok (.ldc_w index, 3)) (k : SL Γ Y mt R ce sl K (pc + 3) lv (vI n :: st) γ o) : SL Γ Y mt R ce sl K pc lv st γ o := fun z hz p e s m args below meth c H locs ls X hc hw hl hP hS hY => lv_ldcw X.x X.b X.own (X.G _ hk) d (by rw [ev]; exact k z hz p e s m args below meth c H locs ls X hc hw hl hP hS hY)
theorem sm_iload {i : Nat} {x : Int32} (n : Nat) (d : decode mt.2.1 pc = .ok (.iload i, 2)) (h : lv[n]? = some (i, .int x)) (k : SL Γ Y mt R ce sl K (pc + 2) lv (.int x :: st) γ o) : SL Γ Y mt R ce sl K pc lv st γ o := fun z hz p e s m args below meth c H locs ls X hc hw hl hP hS hY => lv_iload X.x X.b d (lv_at hl n h) (k z hz p e s m args below meth c H locs ls X hc hw hl hP hS hY)
theorem sm_iload_n {q : Fin 4} {x : Int32} (n : Nat) (d : decode mt.2.1 pc = .ok (.iload_n q, 1)) (h : lv[n]? = some ((q : Nat), .int x)) (k : SL Γ Y mt R ce sl K (pc + 1) lv (.int x :: st) γ o) : SL Γ Y mt R ce sl K pc lv st γ o := fun z hz p e s m args below meth c H locs ls X hc hw hl hP hS hY => lv_iload_n X.x X.b d rfl (lv_at hl n h) (k z hz p e s m args below meth c H locs ls X hc hw hl hP hS hY)
theorem sm_lload {i : Nat} {x : Int64} (n : Nat) (d : decode mt.2.1 pc = .ok (.lload i, 2)) (h : lv[n]? = some (i, .long x)) (k : SL Γ Y mt R ce sl K (pc + 2) lv (.long x :: st) γ o) : SL Γ Y mt R ce sl K pc lv st γ o := fun z hz p e s m args below meth c H locs ls X hc hw hl hP hS hY => lv_lload X.x X.b d (lv_at hl n h) (k z hz p e s m args below meth c H locs ls X hc hw hl hP hS hY)
theorem sm_aload {i : Nat} {x : Nat} (n : Nat) (d : decode mt.2.1 pc = .ok (.aload i, 2)) (h : lv[n]? = some (i, .ref x)) (k : SL Γ Y mt R ce sl K (pc + 2) lv (.ref x :: st) γ o) : SL Γ Y mt R ce sl K pc lv st γ o := fun z hz p e s m args below meth c H locs ls X hc hw hl hP hS hY => lv_aload X.x X.b d (lv_at hl n h) (k z hz p e s m args below meth c H locs ls X hc hw hl hP hS hY)
theorem sm_aload_n {q : Fin 4} {x : Nat} (n : Nat) (d : decode mt.2.1 pc = .ok (.aload_n q, 1)) (h : lv[n]? = some ((q : Nat), .ref x)) (k : SL Γ Y mt R ce sl K (pc + 1) lv (.ref x :: st) γ o) : SL Γ Y mt R ce sl K pc lv st γ o := fun z hz p e s m args below meth c H locs ls X hc hw hl hP hS hY => lv_aload_n X.x X.b d rfl (lv_at hl n h) (k z hz p e s m args below meth c H locs ls X hc hw hl hP hS hY)
theorem sm_istore {i : Nat} {x : Int32} (lv' : List (Nat × Value)) (d : decode mt.2.1 pc = .ok (.istore i, 2)) (hn : i < mt.2.2.1) (hl' : (i, Value.int x) :: lv.filter (fun q => !(q.1 == i) && !(q.1 + 1 == i && q.2.category == 2)) = lv') (k : SL Γ Y mt R ce sl K (pc + 2) lv' st γ o) : SL Γ Y mt R ce sl K pc lv (.int x :: st) γ o := fun z hz p e s m args below meth c H locs ls X hc hw hl hP hS hY => lv_istore X.x X.b d hl hn hl' (fun ls hl => k z hz p e s m args below meth c H locs ls X hc hw hl hP hS hY)
theorem sm_istore_n {q : Fin 4} {x : Int32} (lv' : List (Nat × Value)) (d : decode mt.2.1 pc = .ok (.istore_n q, 1)) (hn : (q : Nat) < mt.2.2.1) (hl' : ((q : Nat), Value.int x) :: lv.filter (fun r => !(r.1 == (q : Nat)) && !(r.1 + 1 == (q : Nat) && r.2.category == 2)) = lv') (k : SL Γ Y mt R ce sl K (pc + 1) lv' st γ o) : SL Γ Y mt R ce sl K pc lv (.int x :: st) γ o := fun z hz p e s m args below meth c H locs ls X hc hw hl hP hS hY => lv_istore_n X.x X.b d rfl hl hn hl' (fun ls hl => k z hz p e s m args below meth c H locs ls X hc hw hl hP hS hY)
theorem sm_iinc {i : Nat} {n x : Int} (q : Nat) (lv' : List (Nat × Value)) (d : decode mt.2.1 pc = .ok (.iinc i n, 3)) (h : lv[q]? = some (i, vI x)) (hn : i < mt.2.2.1) (hl' : (i, vI (x + n)) :: lv.filter (fun q => !(q.1 == i) && !(q.1 + 1 == i && q.2.category == 2)) = lv') (k : SL Γ Y mt R ce sl K (pc + 3) lv' st γ o) : SL Γ Y mt R ce sl K pc lv st γ o := fun z hz p e s m args below meth c H locs ls X hc hw hl hP hS hY => lv_iinc X.x X.b d hl h (Int32.ofInt_add x n).symm hn hl' (fun ls hl => k z hz p e s m args below meth c H locs ls X hc hw hl hP hS hY)
theorem sm_iadd {x y : Int} (d : decode mt.2.1 pc = .ok (.iadd, 1)) (k : SL Γ Y mt R ce sl K (pc + 1) lv (vI (x + y) :: st) γ o) : SL Γ Y mt R ce sl K pc lv (vI y :: vI x :: st) γ o := fun z hz p e s m args below meth c H locs ls X hc hw hl hP hS hY => lv_iadd X.x X.b d (by rw [show iI x + iI y = iI (x + y) from (Int32.ofInt_add x y).symm]; exact k z hz p e s m args below meth c H locs ls X hc hw hl hP hS hY)
theorem sm_isub {x y : Int} (d : decode mt.2.1 pc = .ok (.isub, 1)) (k : SL Γ Y mt R ce sl K (pc + 1) lv (vI (x - y) :: st) γ o) : SL Γ Y mt R ce sl K pc lv (vI y :: vI x :: st) γ o := fun z hz p e s m args below meth c H locs ls X hc hw hl hP hS hY => lv_isub X.x X.b d (by rw [show iI x - iI y = iI (x - y) from (Int32.ofInt_sub x y).symm]; exact k z hz p e s m args below meth c H locs ls X hc hw hl hP hS hY)
theorem sm_imul {x y : Int} (d : decode mt.2.1 pc = .ok (.imul, 1)) (k : SL Γ Y mt R ce sl K (pc + 1) lv (vI (x * y) :: st) γ o) : SL Γ Y mt R ce sl K pc lv (vI y :: vI x :: st) γ o := fun z hz p e s m args below meth c H locs ls X hc hw hl hP hS hY => lv_imul X.x X.b d (by rw [show iI x * iI y = iI (x * y) from (Int32.ofInt_mul x y).symm]; exact k z hz p e s m args below meth c H locs ls X hc hw hl hP hS hY)
theorem sm_ineg {x : Int} (d : decode mt.2.1 pc = .ok (.ineg, 1)) (k : SL Γ Y mt R ce sl K (pc + 1) lv (vI (-x) :: st) γ o) : SL Γ Y mt R ce sl K pc lv (vI x :: st) γ o := fun z hz p e s m args below meth c H locs ls X hc hw hl hP hS hY => lv_ineg X.x X.b d (by rw [show -iI x = iI (-x) from (Int32.ofInt_neg x).symm]; exact k z hz p e s m args below meth c H locs ls X hc hw hl hP hS hY)
theorem sm_wr {x : Int} (k : SL Γ Y mt R ce sl K pc lv (vI (wr x) :: st) γ o) : SL Γ Y mt R ce sl K pc lv (vI x :: st) γ o := by
  have h : vI (wr x) = vI x := congrArg Value.int (iI_wr x)
  rw [← h]
  exact k
/-- any int as the whole number that it is -/
theorem sm_nm {x : Int32} (k : SL Γ Y mt R ce sl K pc lv (vI x.toInt :: st) γ o) : SL Γ Y mt R ce sl K pc lv (.int x :: st) γ o := by
  have h : vI x.toInt = .int x := congrArg Value.int (iI_of x)
  rw [← h]
  exact k
theorem sm_iand {x y : Int} (d : decode mt.2.1 pc = .ok (.iand, 1)) (k : SL Γ Y mt R ce sl K (pc + 1) lv (vI (iand x y) :: st) γ o) : SL Γ Y mt R ce sl K pc lv (vI y :: vI x :: st) γ o := fun z hz p e s m args below meth c H locs ls X hc hw hl hP hS hY => lv_iand X.x X.b d (sm_nm k z hz p e s m args below meth c H locs ls X hc hw hl hP hS hY)
theorem sm_ior {x y : Int} (d : decode mt.2.1 pc = .ok (.ior, 1)) (k : SL Γ Y mt R ce sl K (pc + 1) lv (vI (ior x y) :: st) γ o) : SL Γ Y mt R ce sl K pc lv (vI y :: vI x :: st) γ o := fun z hz p e s m args below meth c H locs ls X hc hw hl hP hS hY => lv_ior X.x X.b d (sm_nm k z hz p e s m args below meth c H locs ls X hc hw hl hP hS hY)
theorem sm_ixor {x y : Int} (d : decode mt.2.1 pc = .ok (.ixor, 1)) (k : SL Γ Y mt R ce sl K (pc + 1) lv (vI (ixor x y) :: st) γ o) : SL Γ Y mt R ce sl K pc lv (vI y :: vI x :: st) γ o := fun z hz p e s m args below meth c H locs ls X hc hw hl hP hS hY => lv_ixor X.x X.b d (sm_nm k z hz p e s m args below meth c H locs ls X hc hw hl hP hS hY)
theorem sm_ishr {x y : Int} (d : decode mt.2.1 pc = .ok (.ishr, 1)) (k : SL Γ Y mt R ce sl K (pc + 1) lv (vI (ishr x y) :: st) γ o) : SL Γ Y mt R ce sl K pc lv (vI y :: vI x :: st) γ o := fun z hz p e s m args below meth c H locs ls X hc hw hl hP hS hY => lv_ishr X.x X.b d (sm_nm k z hz p e s m args below meth c H locs ls X hc hw hl hP hS hY)
theorem sm_idiv {x y : Int} {inst : Decidable (y ≠ 0)} (hy : i32 y) (d : decode mt.2.1 pc = .ok (.idiv, 1)) (k : y ≠ 0 → SL Γ Y mt R ce sl K (pc + 1) lv (vI (idiv x y) :: st) γ o) : SL Γ Y mt R ce sl K pc lv (vI y :: vI x :: st) γ (@chk (y ≠ 0) ζ inst o) := sm_chk fun h z hz p e s m args below meth c H locs ls X hc hw hl hP hS hY => lv_idiv X.x X.b d (fun q => h ((iI_eq hy (by decide : i32 0)).mp q)) (sm_nm (k h) z hz p e s m args below meth c H locs ls X hc hw hl hP hS hY)
theorem sm_irem {x y : Int} {inst : Decidable (y ≠ 0)} (hy : i32 y) (d : decode mt.2.1 pc = .ok (.irem, 1)) (k : y ≠ 0 → SL Γ Y mt R ce sl K (pc + 1) lv (vI (irem x y) :: st) γ o) : SL Γ Y mt R ce sl K pc lv (vI y :: vI x :: st) γ (@chk (y ≠ 0) ζ inst o) := sm_chk fun h z hz p e s m args below meth c H locs ls X hc hw hl hP hS hY => lv_irem X.x X.b d (fun q => h ((iI_eq hy (by decide : i32 0)).mp q)) (sm_nm (k h) z hz p e s m args below meth c H locs ls X hc hw hl hP hS hY)
theorem sm_dup {v : Value} (d : decode mt.2.1 pc = .ok (.dup, 1)) (hv : v.category = 1) (k : SL Γ Y mt R ce sl K (pc + 1) lv (v :: v :: st) γ o) : SL Γ Y mt R ce sl K pc lv (v :: st) γ o := fun z hz p e s m args below meth c H locs ls X hc hw hl hP hS hY => lv_dup X.x X.b d hv (k z hz p e s m args below meth c H locs ls X hc hw hl hP hS hY)
theorem sm_pop {v : Value} (d : decode mt.2.1 pc = .ok (.pop, 1)) (hv : v.category = 1) (k : SL Γ Y mt R ce sl K (pc + 1) lv st γ o) : SL Γ Y mt R ce sl K pc lv (v :: st) γ o := fun z hz p e s m args below meth c H locs ls X hc hw hl hP hS hY => lv_pop X.x X.b d hv (k z hz p e s m args below meth c H locs ls X hc hw hl hP hS hY)
theorem sm_dup_x1 {v w : Value} (d : decode mt.2.1 pc = .ok (.dup_x1, 1)) (hv : v.category = 1) (hw' : w.category = 1) (k : SL Γ Y mt R ce sl K (pc + 1) lv (v :: w :: v :: st) γ o) : SL Γ Y mt R ce sl K pc lv (v :: w :: st) γ o := fun z hz p e s m args below meth c H locs ls X hc hw hl hP hS hY => lv_dup_x1 X.x X.b d hv hw' (k z hz p e s m args below meth c H locs ls X hc hw hl hP hS hY)
theorem sm_dup2 {v w : Value} (d : decode mt.2.1 pc = .ok (.dup2, 1)) (hv : v.category = 1) (hw' : w.category = 1) (k : SL Γ Y mt R ce sl K (pc + 1) lv (v :: w :: v :: w :: st) γ o) : SL Γ Y mt R ce sl K pc lv (v :: w :: st) γ o := fun z hz p e s m args below meth c H locs ls X hc hw hl hP hS hY => lv_dup2_11 X.x X.b d hv hw' (k z hz p e s m args below meth c H locs ls X hc hw hl hP hS hY)
theorem sm_goto {off : Int} (tgt : Nat) (d : decode mt.2.1 pc = .ok (.goto off, 3)) (ht : (pc : Int) + off = (tgt : Int)) (k : SL Γ Y mt R ce sl K tgt lv st γ o) : SL Γ Y mt R ce sl K pc lv st γ o := fun z hz p e s m args below meth c H locs ls X hc hw hl hP hS hY => lv_goto X.x X.b d ht (k z hz p e s m args below meth c H locs ls X hc hw hl hP hS hY)
theorem sm_icmp_eq {x y : Int} {off : Int} {inst : Decidable (x = y)} {o1 o2 : Option ζ} (tgt : Nat) (hx : i32 x) (hy : i32 y) (d : decode mt.2.1 pc = .ok (.if_icmp .eq off, 3)) (ht : (pc : Int) + off = (tgt : Int)) (kt : x = y → SL Γ Y mt R ce sl K tgt lv st γ o1) (kf : ¬ (x = y) → SL Γ Y mt R ce sl K (pc + 3) lv st γ o2) : SL Γ Y mt R ce sl K pc lv (vI y :: vI x :: st) γ (@ite _ (x = y) inst o1 o2) := fun z hz p e s m args below meth c H locs ls X hc hw hl hP hS hY => by
  by_cases q : x = y
  · rw [if_pos q] at hz
    exact lv_icmp_eq X.x X.b d ht (fun _ => kt q z hz p e s m args below meth c H locs ls X hc hw hl hP hS hY) (fun w => absurd ((iI_eq hx hy).mpr q) w)
  · rw [if_neg q] at hz
    exact lv_icmp_eq X.x X.b d ht (fun w => absurd ((iI_eq hx hy).mp w) q) (fun _ => kf q z hz p e s m args below meth c H locs ls X hc hw hl hP hS hY)
theorem sm_if_eq {x : Int} {off : Int} {inst : Decidable (x = 0)} {o1 o2 : Option ζ} (tgt : Nat) (hx : i32 x) (d : decode mt.2.1 pc = .ok (.ifCond .eq off, 3)) (ht : (pc : Int) + off = (tgt : Int)) (kt : x = 0 → SL Γ Y mt R ce sl K tgt lv st γ o1) (kf : ¬ (x = 0) → SL Γ Y mt R ce sl K (pc + 3) lv st γ o2) : SL Γ Y mt R ce sl K pc lv (vI x :: st) γ (@ite _ (x = 0) inst o1 o2) := fun z hz p e s m args below meth c H locs ls X hc hw hl hP hS hY => by
  by_cases q : x = 0
  · rw [if_pos q] at hz
    exact lv_if_eq X.x X.b d ht (fun _ => kt q z hz p e s m args below meth c H locs ls X hc hw hl hP hS hY) (fun w => absurd ((iI_eq hx (by decide : i32 0)).mpr q) w)
  · rw [if_neg q] at hz
    exact lv_if_eq X.x X.b d ht (fun w => absurd ((iI_eq hx (by decide : i32 0)).mp w) q) (fun _ => kf q z hz p e s m args below meth c H locs ls X hc hw hl hP hS hY)
theorem sm_icmp_ne {x y : Int} {off : Int} {inst : Decidable (x ≠ y)} {o1 o2 : Option ζ} (tgt : Nat) (hx : i32 x) (hy : i32 y) (d : decode mt.2.1 pc = .ok (.if_icmp .ne off, 3)) (ht : (pc : Int) + off = (tgt : Int)) (kt : x ≠ y → SL Γ Y mt R ce sl K tgt lv st γ o1) (kf : ¬ (x ≠ y) → SL Γ Y mt R ce sl K (pc + 3) lv st γ o2) : SL Γ Y mt R ce sl K pc lv (vI y :: vI x :: st) γ (@ite _ (x ≠ y) inst o1 o2) := fun z hz p e s m args below meth c H locs ls X hc hw hl hP hS hY => by
  by_cases q : x ≠ y
  · rw [if_pos q] at hz
    exact lv_icmp_ne X.x X.b d ht (fun _ => kt q z hz p e s m args below meth c H locs ls X hc hw hl hP hS hY) (fun w => absurd ((iI_eq hx hy).mp w) q)
  · rw [if_neg q] at hz
    exact lv_icmp_ne X.x X.b d ht (fun w => absurd ((iI_eq hx hy).mpr (Classical.byContradiction q)) w) (fun _ => kf q z hz p e s m args below meth c H locs ls X hc hw hl hP hS hY)
theorem sm_if_ne {x : Int} {off : Int} {inst : Decidable (x ≠ 0)} {o1 o2 : Option ζ} (tgt : Nat) (hx : i32 x) (d : decode mt.2.1 pc = .ok (.ifCond .ne off, 3)) (ht : (pc : Int) + off = (tgt : Int)) (kt : x ≠ 0 → SL Γ Y mt R ce sl K tgt lv st γ o1) (kf : ¬ (x ≠ 0) → SL Γ Y mt R ce sl K (pc + 3) lv st γ o2) : SL Γ Y mt R ce sl K pc lv (vI x :: st) γ (@ite _ (x ≠ 0) inst o1 o2) := fun z hz p e s m args below meth c H locs ls X hc hw hl hP hS hY => by
  by_cases q : x ≠ 0
  · rw [if_pos q] at hz
    exact lv_if_ne X.x X.b d ht (fun _ => kt q z hz p e s m args below meth c H locs ls X hc hw hl hP hS hY) (fun w => absurd ((iI_eq hx (by decide : i32 0)).mp w) q)
  · rw [if_neg q] at hz
    exact lv_if_ne X.x X.b d ht (fun w => absurd ((iI_eq hx (by decide : i32 0)).mpr (Classical.byContradiction q)) w) (fun _ => kf q z hz p e s m args below meth c H locs ls X hc hw hl hP hS hY)
theorem sm_icmp_lt {x y : Int} {off : Int} {inst : Decidable (x < y)} {o1 o2 : Option ζ} (tgt : Nat) (hx : i32 x) (hy : i32 y) (d : decode mt.2.1 pc = .ok (.if_icmp .lt off, 3)) (ht : (pc : Int) + off = (tgt : Int)) (kt : x < y → SL Γ Y mt R ce sl K tgt lv st γ o1) (kf : ¬ (x < y) → SL Γ Y mt R ce sl K (pc + 3) lv st γ o2) : SL Γ Y mt R ce sl K pc lv (vI y :: vI x :: st) γ (@ite _ (x < y) inst o1 o2) := fun z hz p e s m args below meth c H locs ls X hc hw hl hP hS hY => by
  by_cases q : x < y
  · rw [if_pos q] at hz
    exact lv_icmp_lt X.x X.b d ht (fun _ => kt q z hz p e s m args below meth c H locs ls X hc hw hl hP hS hY) (fun w => absurd ((iI_lt hx hy).mpr q) w)
  · rw [if_neg q] at hz
    exact lv_icmp_lt X.x X.b d ht (fun w => absurd ((iI_lt hx hy).mp w) q) (fun _ => kf q z hz p e s m args below meth c H locs ls X hc hw hl hP hS hY)
theorem sm_if_lt {x : Int} {off : Int} {inst : Decidable (x < 0)} {o1 o2 : Option ζ} (tgt : Nat) (hx : i32 x) (d : decode mt.2.1 pc = .ok (.ifCond .lt off, 3)) (ht : (pc : Int) + off = (tgt : Int)) (kt : x < 0 → SL Γ Y mt R ce sl K tgt lv st γ o1) (kf : ¬ (x < 0) → SL Γ Y mt R ce sl K (pc + 3) lv st γ o2) : SL Γ Y mt R ce sl K pc lv (vI x :: st) γ (@ite _ (x < 0) inst o1 o2) := fun z hz p e s m args below meth c H locs ls X hc hw hl hP hS hY => by
  by_cases q : x < 0
  · rw [if_pos q] at hz
    exact lv_if_lt X.x X.b d ht (fun _ => kt q z hz p e s m args below meth c H locs ls X hc hw hl hP hS hY) (fun w => absurd ((iI_lt hx (by decide : i32 0)).mpr q) w)
  · rw [if_neg q] at hz
    exact lv_if_lt X.x X.b d ht (fun w => absurd ((iI_lt hx (by decide : i32 0)).mp w) q) (fun _ => kf q z hz p e s m args below meth c H locs ls X hc hw hl hP hS hY)
theorem sm_icmp_ge {x y : Int} {off : Int} {inst : Decidable (y ≤ x)} {o1 o2 : Option ζ} (tgt : Nat) (hx : i32 x) (hy : i32 y) (d : decode mt.2.1 pc = .ok (.if_icmp .ge off, 3)) (ht : (pc : Int) + off = (tgt : Int)) (kt : y ≤ x → SL Γ Y mt R ce sl K tgt lv st γ o1) (kf : ¬ (y ≤ x) → SL Γ Y mt R ce sl K (pc + 3) lv st γ o2) : SL Γ Y mt R ce sl K pc lv (vI y :: vI x :: st) γ (@ite _ (y ≤ x) inst o1 o2) := fun z hz p e s m args below meth c H locs ls X hc hw hl hP hS hY => by
  by_cases q : y ≤ x
  · rw [if_pos q] at hz
    exact lv_icmp_ge X.x X.b d ht (fun _ => kt q z hz p e s m args below meth c H locs ls X hc hw hl hP hS hY) (fun w => absurd ((iI_le hy hx).mpr q) w)
  · rw [if_neg q] at hz
    exact lv_icmp_ge X.x X.b d ht (fun w => absurd ((iI_le hy hx).mp w) q) (fun _ => kf q z hz p e s m args below meth c H locs ls X hc hw hl hP hS hY)
theorem sm_if_ge {x : Int} {off : Int} {inst : Decidable (0 ≤ x)} {o1 o2 : Option ζ} (tgt : Nat) (hx : i32 x) (d : decode mt.2.1 pc = .ok (.ifCond .ge off, 3)) (ht : (pc : Int) + off = (tgt : Int)) (kt : 0 ≤ x → SL Γ Y mt R ce sl K tgt lv st γ o1) (kf : ¬ (0 ≤ x) → SL Γ Y mt R ce sl K (pc + 3) lv st γ o2) : SL Γ Y mt R ce sl K pc lv (vI x :: st) γ (@ite _ (0 ≤ x) inst o1 o2) := fun z hz p e s m args below meth c H locs ls X hc hw hl hP hS hY => by
  by_cases q : 0 ≤ x
  · rw [if_pos q] at hz
    exact lv_if_ge X.x X.b d ht (fun _ => kt q z hz p e s m args below meth c H locs ls X hc hw hl hP hS hY) (fun w => absurd ((iI_le (by decide : i32 0) hx).mpr q) w)
  · rw [if_neg q] at hz
    exact lv_if_ge X.x X.b d ht (fun w => absurd ((iI_le (by decide : i32 0) hx).mp w) q) (fun _ => kf q z hz p e s m args below meth c H locs ls X hc hw hl hP hS hY)
theorem sm_icmp_gt {x y : Int} {off : Int} {inst : Decidable (y < x)} {o1 o2 : Option ζ} (tgt : Nat) (hx : i32 x) (hy : i32 y) (d : decode mt.2.1 pc = .ok (.if_icmp .gt off, 3)) (ht : (pc : Int) + off = (tgt : Int)) (kt : y < x → SL Γ Y mt R ce sl K tgt lv st γ o1) (kf : ¬ (y < x) → SL Γ Y mt R ce sl K (pc + 3) lv st γ o2) : SL Γ Y mt R ce sl K pc lv (vI y :: vI x :: st) γ (@ite _ (y < x) inst o1 o2) := fun z hz p e s m args below meth c H locs ls X hc hw hl hP hS hY => by
  by_cases q : y < x
  · rw [if_pos q] at hz
    exact lv_icmp_gt X.x X.b d ht (fun _ => kt q z hz p e s m args below meth c H locs ls X hc hw hl hP hS hY) (fun w => absurd ((iI_lt hy hx).mpr q) w)
  · rw [if_neg q] at hz
    exact lv_icmp_gt X.x X.b d ht (fun w => absurd ((iI_lt hy hx).mp w) q) (fun _ => kf q z hz p e s m args below meth c H locs ls X hc hw hl hP hS hY)
theorem sm_if_gt {x : Int} {off : Int} {inst : Decidable (0 < x)} {o1 o2 : Option ζ} (tgt : Nat) (hx : i32 x) (d : decode mt.2.1 pc = .ok (.ifCond .gt off, 3)) (ht : (pc : Int) + off = (tgt : Int)) (kt : 0 < x → SL Γ Y mt R ce sl K tgt lv st γ o1) (kf : ¬ (0 < x) → SL Γ Y mt R ce sl K (pc + 3) lv st γ o2) : SL Γ Y mt R ce sl K pc lv (vI x :: st) γ (@ite _ (0 < x) inst o1 o2) := fun z hz p e s m args below meth c H locs ls X hc hw hl hP hS hY => by
  by_cases q : 0 < x
  · rw [if_pos q] at hz
    exact lv_if_gt X.x X.b d ht (fun _ => kt q z hz p e s m args below meth c H locs ls X hc hw hl hP hS hY) (fun w => absurd ((iI_lt (by decide : i32 0) hx).mpr q) w)
  · rw [if_neg q] at hz
    exact lv_if_gt X.x X.b d ht (fun w => absurd ((iI_lt (by decide : i32 0) hx).mp w) q) (fun _ => kf q z hz p e s m args below meth c H locs ls X hc hw hl hP hS hY)
theorem sm_icmp_le {x y : Int} {off : Int} {inst : Decidable (x ≤ y)} {o1 o2 : Option ζ} (tgt : Nat) (hx : i32 x) (hy : i32 y) (d : decode mt.2.1 pc = .ok (.if_icmp .le off, 3)) (ht : (pc : Int) + off = (tgt : Int)) (kt : x ≤ y → SL Γ Y mt R ce sl K tgt lv st γ o1) (kf : ¬ (x ≤ y) → SL Γ Y mt R ce sl K (pc + 3) lv st γ o2) : SL Γ Y mt R ce sl K pc lv (vI y :: vI x :: st) γ (@ite _ (x ≤ y) inst o1 o2) := fun z hz p e s m args below meth c H locs ls X hc hw hl hP hS hY => by
  by_cases q : x ≤ y
  · rw [if_pos q] at hz
    exact lv_icmp_le X.x X.b d ht (fun _ => kt q z hz p e s m args below meth c H locs ls X hc hw hl hP hS hY) (fun w => absurd ((iI_le hx hy).mpr q) w)
  · rw [if_neg q] at hz
    exact lv_icmp_le X.x X.b d ht (fun w => absurd ((iI_le hx hy).mp w) q) (fun _ => kf q z hz p e s m args below meth c H locs ls X hc hw hl hP hS hY)
theorem sm_if_le {x : Int} {off : Int} {inst : Decidable (x ≤ 0)} {o1 o2 : Option ζ} (tgt : Nat) (hx : i32 x) (d : decode mt.2.1 pc = .ok (.ifCond .le off, 3)) (ht : (pc : Int) + off = (tgt : Int)) (kt : x ≤ 0 → SL Γ Y mt R ce sl K tgt lv st γ o1) (kf : ¬ (x ≤ 0) → SL Γ Y mt R ce sl K (pc + 3) lv st γ o2) : SL Γ Y mt R ce sl K pc lv (vI x :: st) γ (@ite _ (x ≤ 0) inst o1 o2) := fun z hz p e s m args below meth c H locs ls X hc hw hl hP hS hY => by
  by_cases q : x ≤ 0
  · rw [if_pos q] at hz
    exact lv_if_le X.x X.b d ht (fun _ => kt q z hz p e s m args below meth c H locs ls X hc hw hl hP hS hY) (fun w => absurd ((iI_le hx (by decide : i32 0)).mpr q) w)
  · rw [if_neg q] at hz
    exact lv_if_le X.x X.b d ht (fun w => absurd ((iI_le hx (by decide : i32 0)).mp w) q) (fun _ => kf q z hz p e s m args below meth c H locs ls X hc hw hl hP hS hY)
/-- switches: a case, the rest -/
theorem sm_tc {x dflt lo hi off : Int} {offs : Array Int} {len : Nat} {o1 o2 : Option ζ} (q : Int) {inst : Decidable (x = q)} (tgt : Nat) (hx : i32 x) (d : decode mt.2.1 pc = .ok (.tableswitch dflt lo hi offs, len)) (h : ¬ q < lo ∧ ¬ hi < q ∧ offs[(q - lo).toNat]? = some off) (ht : (pc : Int) + off = (tgt : Int)) (kt : x = q → SL Γ Y mt R ce sl K tgt lv st γ o1) (kf : ¬ x = q → SL Γ Y mt R ce sl K pc lv (vI x :: st) γ o2) : SL Γ Y mt R ce sl K pc lv (vI x :: st) γ (@ite _ (x = q) inst o1 o2) := fun z hz p e s m args below meth c H locs ls X hc hw hl hP hS hY => by
  by_cases w : x = q
  · rw [if_pos w] at hz
    have e1 : (iI x).toInt = q := (iI_toInt hx).trans w
    exact lv_tableIn X.x X.b d (by rw [e1]; exact h.1) (by rw [e1]; exact h.2.1) (by rw [e1]; exact h.2.2) ht (kt w z hz p e s m args below meth c H locs ls X hc hw hl hP hS hY)
  · rw [if_neg w] at hz
    exact kf w z hz p e s m args below meth c H locs ls X hc hw hl hP hS hY
theorem sm_td {x dflt lo hi : Int} {offs : Array Int} {len : Nat} (tgt : Nat) (hx : i32 x) (d : decode mt.2.1 pc = .ok (.tableswitch dflt lo hi offs, len)) (h : x < lo ∨ hi < x) (ht : (pc : Int) + dflt = (tgt : Int)) (k : SL Γ Y mt R ce sl K tgt lv st γ o) : SL Γ Y mt R ce sl K pc lv (vI x :: st) γ o := fun z hz p e s m args below meth c H locs ls X hc hw hl hP hS hY =>
  lv_tableOut X.x X.b d (by rw [iI_toInt hx]; exact h) ht (k z hz p e s m args below meth c H locs ls X hc hw hl hP hS hY)
theorem sm_lc {x dflt : Int} {off : Int} {ps : Array (Int × Int)} {len : Nat} {o1 o2 : Option ζ} (q : Int) {inst : Decidable (x = q)} (tgt : Nat) (hx : i32 x) (d : decode mt.2.1 pc = .ok (.lookupswitch dflt ps, len)) (h : (ps.toList.zip (ps.toList.drop 1)).all (fun (a, next) => a.1 < next.1) = true ∧ Op.lookupswitch.offset ps.toList dflt q = off) (ht : (pc : Int) + off = (tgt : Int)) (kt : x = q → SL Γ Y mt R ce sl K tgt lv st γ o1) (kf : ¬ x = q → SL Γ Y mt R ce sl K pc lv (vI x :: st) γ o2) : SL Γ Y mt R ce sl K pc lv (vI x :: st) γ (@ite _ (x = q) inst o1 o2) := fun z hz p e s m args below meth c H locs ls X hc hw hl hP hS hY => by
  by_cases w : x = q
  · rw [if_pos w] at hz
    have e1 : (iI x).toInt = q := (iI_toInt hx).trans w
    exact lv_lookup X.x X.b d h.1 (by rw [e1]; exact h.2) ht (kt w z hz p e s m args below meth c H locs ls X hc hw hl hP hS hY)
  · rw [if_neg w] at hz
    exact kf w z hz p e s m args below meth c H locs ls X hc hw hl hP hS hY
theorem sm_ld {x dflt : Int} {ps : Array (Int × Int)} {len : Nat} (tgt : Nat) (hx : i32 x) (d : decode mt.2.1 pc = .ok (.lookupswitch dflt ps, len)) (h : (ps.toList.zip (ps.toList.drop 1)).all (fun (a, next) => a.1 < next.1) = true) (hq : ∀ q ∈ ps.toList, x ≠ q.1) (ht : (pc : Int) + dflt = (tgt : Int)) (k : SL Γ Y mt R ce sl K tgt lv st γ o) : SL Γ Y mt R ce sl K pc lv (vI x :: st) γ o := fun z hz p e s m args below meth c H locs ls X hc hw hl hP hS hY =>
  lv_lookup X.x X.b d h (by rw [iI_toInt hx]; exact lk_dflt hq) ht (k z hz p e s m args below meth c H locs ls X hc hw hl hP hS hY)

variable {δ : St} {w : Int}
theorem sm_nme {b : Int → Option ζ} {e : Int} (lw : Int → List (Nat × Value)) (he : i32 e) (k : ∀ x, i32 x → SL Γ Y mt R ce sl K pc (lw x) st γ (b x)) : SL Γ Y mt R ce sl K pc (lw e) st γ (ap e b) := k e he
theorem sm_tg {x dflt lo hi off : Int} {offs : Array Int} {len : Nat} (q : Int) (tgt : Nat) (hx : i32 x) (d : decode mt.2.1 pc = .ok (.tableswitch dflt lo hi offs, len)) (h : ¬ q < lo ∧ ¬ hi < q ∧ offs[(q - lo).toNat]? = some off) (ht : (pc : Int) + off = (tgt : Int)) (kt : x = q → SL Γ Y mt R ce sl K tgt lv st γ o) (kf : ¬ x = q → SL Γ Y mt R ce sl K pc lv (vI x :: st) γ o) : SL Γ Y mt R ce sl K pc lv (vI x :: st) γ o := by
  have := sm_tc (o1 := o) (o2 := o) (inst := inferInstance) q tgt hx d h ht kt kf
  rwa [ite_self] at this
theorem sm_i2l {x : Int} (hx : i32 x) (d : decode mt.2.1 pc = .ok (.i2l, 1)) (k : SL Γ Y mt R ce sl K (pc + 1) lv (.long (iL x) :: st) γ o) : SL Γ Y mt R ce sl K pc lv (vI x :: st) γ o := fun z hz p e s m args below meth c H locs ls X hc hw hl hP hS hY => lv_i2l X.x X.b d (iI_iL hx) (k z hz p e s m args below meth c H locs ls X hc hw hl hP hS hY)
theorem sm_lconst {n : Fin 2} (q : Int) (d : decode mt.2.1 pc = .ok (.lconst n, 1)) (hq : Int64.ofNat (n : Nat) = iL q) (k : SL Γ Y mt R ce sl K (pc + 1) lv (.long (iL q) :: st) γ o) : SL Γ Y mt R ce sl K pc lv st γ o := fun z hz p e s m args below meth c H locs ls X hc hw hl hP hS hY => lv_lconst X.x X.b d hq (k z hz p e s m args below meth c H locs ls X hc hw hl hP hS hY)
theorem sm_lstore {i : Nat} {x : Int64} (lv' : List (Nat × Value)) (d : decode mt.2.1 pc = .ok (.lstore i, 2)) (hn : i + 1 < mt.2.2.1) (hl' : (i, Value.long x) :: lv.filter (fun q => !(q.1 == i) && (!(q.1 == i + 1) && !(q.1 + 1 == i && q.2.category == 2))) = lv') (k : SL Γ Y mt R ce sl K (pc + 2) lv' st γ o) : SL Γ Y mt R ce sl K pc lv (.long x :: st) γ o := fun z hz p e s m args below meth c H locs ls X hc hw hl hP hS hY => lv_lstore X.x X.b d hl hn hl' (fun ls hl => k z hz p e s m args below meth c H locs ls X hc hw hl hP hS hY)
theorem lg_cmp_0 {x y : Int64} : lg_cmp x y = 0 ↔ x = y := by
  unfold lg_cmp
  by_cases h : x > y
  · rw [if_pos h]
    constructor
    · intro q; exact absurd q (by decide)
    · intro q; subst q; exact absurd h (by simp [Int64.lt_iff_toInt_lt])
  · rw [if_neg h]
    by_cases q : x = y
    · rw [if_pos q]; simp [q]
    · rw [if_neg q]
      constructor
      · intro w; exact absurd w (by decide)
      · intro w; exact absurd w q
/-- two longs are compared: equal, or not -/
theorem sm_leq {x y : Int64} {off : Int} {o1 o2 : Option ζ} (tgt : Nat) (d : decode mt.2.1 pc = .ok (.lcmp, 1)) (d2 : decode mt.2.1 (pc + 1) = .ok (.ifCond .eq off, 3)) (ht : ((pc + 1 : Nat) : Int) + off = (tgt : Int)) (kt : SL Γ Y mt R ce sl K tgt lv st γ o1) (kf : SL Γ Y mt R ce sl K (pc + 4) lv st γ o2) : SL Γ Y mt R ce sl K pc lv (.long y :: .long x :: st) γ (if x = y then o1 else o2) := fun z hz p e s m args below meth c H locs ls X hc hw hl hP hS hY => by
  refine W.lcmp X.x X.b d ?_
  refine lv_if_eq X.x X.b d2 ht (fun q => ?_) (fun q => ?_)
  · rw [if_pos (lg_cmp_0.mp q)] at hz
    exact kt z hz p e s m args below meth c H locs ls X hc hw hl hP hS hY
  · rw [if_neg (fun w => q (lg_cmp_0.mpr w))] at hz
    exact kf z hz p e s m args below meth c H locs ls X hc hw hl hP hS hY
/-- the script -/
def sv (xs : Nat → Int32) (i : Int) : Int := (xs i.toNat).toInt
theorem sv_b (xs : Nat → Int32) (i : Int) : i32 (sv xs i) := i32_of _
theorem SY.nA {args : Array Value} {s : State} (h : SY Γ Y args s) : ¬ mA Γ BL s.heap.size Y.1 := fun q => q.elim (fun a => absurd h.2.1 (Nat.not_lt.mpr (h.2.2.1 _ a))) (fun b => absurd h.2.1 (Nat.not_lt.mpr b))
theorem sm_slen {b L : Nat} {xs : Nat → Int32} (d : decode mt.2.1 pc = .ok (.arraylength, 1)) (k : SL Γ (b, L, xs) mt R ce sl K (pc + 1) lv (vI L :: st) γ o) : SL Γ (b, L, xs) mt R ce sl K pc lv (.ref b :: st) γ o := fun z hz p e s m args below meth c H locs ls X hc hw hl hP hS hY => by
  refine va_slen X.x X.b hY.1 hY.2.1 hY.nA hS d ?_
  have e9 : Int32.ofNat L = iI (L : Int) := Int32.ofInt_eq_ofNat.symm
  show W p Γ.l e R s m args below meth c H locs ce sl (K below args s z) (F0 m (pc + 1) ls (.int (Int32.ofNat L) :: st))
  rw [e9]
  exact k z hz p e s m args below meth c H locs ls X hc hw hl hP hS hY
theorem sm_sld {b L : Nat} {xs : Nat → Int32} {i : Int} {inst : Decidable (inb i L)} (hL : L ≤ 3072) (d : decode mt.2.1 pc = .ok (.iaload, 1)) (k : SL Γ (b, L, xs) mt R ce sl K (pc + 1) lv (vI (sv xs i) :: st) γ o) : SL Γ (b, L, xs) mt R ce sl K pc lv (vI i :: .ref b :: st) γ (@chk (inb i L) ζ inst o) := fun z hz p e s m args below meth c H locs ls X hc hw hl hP hS hY => by
  obtain ⟨hi, hz⟩ := chk_e hz
  refine va_sld X.x X.b hY.1 hY.2.1 hY.nA hS (iI_in hi (show L < 2 ^ 31 by omega)) d ?_
  have e9 : (iI i).toNatClampNeg = i.toNat := iI_tn (by omega)
  show W p Γ.l e R s m args below meth c H locs ce sl (K below args s z) (F0 m (pc + 1) ls (.int (xs (iI i).toNatClampNeg) :: st))
  rw [e9, ← iI_of (xs i.toNat)]
  exact k z hz p e s m args below meth c H locs ls X hc hw hl hP hS hY
def KW : Kd Int := fun below args s _ => lw_Z below args s
abbrev mt_L_law : MT := (R_L, code, 8, ret)
theorem sm_end {γ : St} (d : decode code pc = .ok (.ireturn, 1)) : SL Γ Y mt_L_law room_1 ce sl KW pc lv [vI 1] γ (some 1) := fun z hz p e s m args below meth c H locs ls X hc hw hl hP hS hY => by
  obtain ⟨h1, h2, h3, h4⟩ := hY
  subst h4
  refine va_forget (fun q hq => (hS.2.2 q hq).elim (fun a => h3 _ a) (fun b => b)) ?_
  exact W.widen (k := 601024) (n := 7293034) hc.1 hc.2 (lw_ret X.x X.b X.rt X.lk d)
theorem sm_ol (d : decode mt.2.1 pc = .ok (.laload, 1)) (k : SL Γ Y mt R ce sl K (pc + 1) lv (.long (iL w) :: st) (cmb γ δ w) o) : SL Γ Y mt R ce sl K pc lv (vI 0 :: vR Γ 147 :: st) (cmb γ δ w) o := fun z hz p e s m args below meth c H locs ls X hc hw hl hP hS hY =>
  va_lald X.x X.b X.K hP 147 2 (wB_atl BL_o) rfl (iI_in (z := 0) (n := 1) (by decide) (by decide)) d (by
    have e9 : ((iI 0).toNatClampNeg : Int) = 0 := by decide
    show W p Γ.l e R s m args below meth c H locs ce sl (K below args s z) (F0 m (pc + 1) ls (.long (iL (cmb γ δ w 147 ((iI 0).toNatClampNeg : Int))) :: st))
    rw [e9, cmb_o]
    exact k z hz p e s m args below meth c H locs ls X hc hw hl hP hS hY)
theorem sm_VS {y : MethodName} {mu : MT} {fr lo n index : Nat} {As st0 : List Value} {o1 : Option (Int × St)} {k : Int → St → Option ζ} (F : VF y mu 0 n) (hC : NC Γ BS y mu fr lo (.ref (Γ.a 0) :: As) γ o1) (hm : Cond.methodLink mt.1 index y ∈ gG) (hn : As.length = n) (hst : st0 = As.reverse ++ vR Γ 0 :: st) (hW : (st.map fun v => v.category).sum ≤ 8) (hR : fr + 1 ≤ R.frames ∧ 8 + (mu.2.2.1 + 11) + lo ≤ R.locals) (d : decode mt.2.1 pc = .ok (.invokevirtual index, 3))
    (kk : ∀ r γ', rOK mu.2.2.2 r → SL Γ Y mt R ce sl K (pc + 3) lv (pR mu.2.2.2 r st) (cmb γ' δ w) (k r γ')) : SL Γ Y mt R ce sl K pc lv st0 (cmb γ δ w) (bndN o1 k) := fun z hz p e s m args below meth c H locs ls X hc hw hl hP hS hY => by
  obtain ⟨f1, f2, f3, f4, f5, T, N, f6⟩ := F
  obtain ⟨hPS, hPM, hPO⟩ := wL_split hP
  have hb0 := wB_at (Γ := Γ) (γ := γ) (B := BS) (j := 0) rfl
  have fr9 : ∀ q, mA Γ BS H.size q → mA Γ BL s.heap.size q := fun q h => h.elim (fun a => Or.inl (adS a)) (fun z => Or.inr (Nat.le_trans hS.1 z))
  cases ho : o1 with
  | none => rw [ho] at hz; cases hz
  | some z1 =>
    rw [ho] at hz
    have hM := hC z1 ho (WL_S hw) H.size
    have run := va_runV (p := p) (e := e) (R := R) (s := s) (m := m) (args := args) (below := below) (meth := meth) (c := c) (H := H) (locs := locs) (cells := ce) (slots := sl) (As := As) (rest := st) (g := F0 m pc ls st0) (b := Γ.a 0) (C := mu.1) ⟨X.x, X.b, X.ml, X.own, X.G⟩ hM (gcV n gG_good X.G hm f1 f2 f3 f4 rfl rfl f5 hR)
      ⟨mPre_blind, va_recv (q0 := 0) X.K hPS f6 hb0, fun U hU hW => ⟨rfl, by rw [hU], by rw [hU]; exact hPS, va_K.moved hW.alike X.K, apS X.ap, by rw [hU]; exact ((X.E.kept hS.2.1).narrow fr9).moved hW⟩⟩ rfl hn hl.1 hst (lv_room (m := m) (pc := pc) (ls := ls) (rest := st0) hW) d hc
    intro T0 hT0 XT
    obtain ⟨v, st₀, t, T', L, h0, X', hL, e1, e2, ⟨⟨hv, hok, hwb, hPz⟩, hz1, hk1⟩, go⟩ := run T0 hT0 XT
    cases hv
    rw [h0] at hz1 hk1
    rw [← e1] at hPz hz1 hk1
    have hX1 : ∀ q, adB (Γ.sh 88) BM q → T'.heap[q]? = H[q]? := fun q h => hk1 q (wB_lt hPM h) (fun z => z.elim (fun a => absurd h (nSM X.ap a)) (fun b => absurd (wB_lt hPM h) (Nat.not_lt.mpr b)))
    have hO1 : va_P Γ.D kl [oC Γ w] T'.heap := hPO.kept (fun k' q' hk' => by
      match k', hk' with
      | 0, hk' =>
        cases hk'
        have hlt : Γ.a 147 < H.size := (hPO 0 _ rfl).lt
        exact hk1 _ hlt (fun z => z.elim (nSO X.ap) (fun b => absurd hlt (Nat.not_lt.mpr b)))
      | k' + 1, hk' => simp at hk')
    obtain ⟨t2, a1, b1⟩ := kk z1.1 z1.2 hok z hz p e s m args below meth c T'.heap (locs ++ L) ls X hc (WL hwb (WL_M hw)) hl (wL_join hPz (wB_kept hPM hX1) hO1) (vaL_call (fun q a => adS a) hS hz1 hk1 hL) hY T' rfl X'
    exact ⟨t2, go t2 a1, b1⟩

theorem sm_VM {y : MethodName} {mu : MT} {fr lo n index : Nat} {As st0 : List Value} {o1 : Option (Int × St)} {k : Int → St → Option ζ} (F : VF y mu 12 n) (hC : NC (Γ.sh 88) BM y mu fr lo (.ref (Γ.a 88) :: As) δ o1) (hm : Cond.methodLink mt.1 index y ∈ gG) (hn : As.length = n) (hst : st0 = As.reverse ++ vR Γ 88 :: st) (hW : (st.map fun v => v.category).sum ≤ 8) (hR : fr + 1 ≤ R.frames ∧ 8 + (mu.2.2.1 + 11) + lo ≤ R.locals) (d : decode mt.2.1 pc = .ok (.invokevirtual index, 3))
    (kk : ∀ r δ', rOK mu.2.2.2 r → SL Γ Y mt R ce sl K (pc + 3) lv (pR mu.2.2.2 r st) (cmb γ δ' w) (k r δ')) : SL Γ Y mt R ce sl K pc lv st0 (cmb γ δ w) (bndN o1 k) := fun z hz p e s m args below meth c H locs ls X hc hw hl hP hS hY => by
  obtain ⟨f1, f2, f3, f4, f5, T, N, f6⟩ := F
  obtain ⟨hPS, hPM, hPO⟩ := wL_split hP
  have hb0 := wB_at (Γ := (Γ.sh 88)) (γ := δ) (B := BM) (j := 0) rfl
  have fr9 : ∀ q, mA (Γ.sh 88) BM H.size q → mA Γ BL s.heap.size q := fun q h => h.elim (fun a => Or.inl (adM a)) (fun z => Or.inr (Nat.le_trans hS.1 z))
  cases ho : o1 with
  | none => rw [ho] at hz; cases hz
  | some z1 =>
    rw [ho] at hz
    have hM := hC z1 ho (WL_M hw) H.size
    have run := va_runV (p := p) (e := e) (R := R) (s := s) (m := m) (args := args) (below := below) (meth := meth) (c := c) (H := H) (locs := locs) (cells := ce) (slots := sl) (As := As) (rest := st) (g := F0 m pc ls st0) (b := Γ.a 88) (C := mu.1) ⟨X.x, X.b, X.ml, X.own, X.G⟩ hM (gcV n gG_good X.G hm f1 f2 f3 f4 rfl rfl f5 hR)
      ⟨mPre_blind, va_recv (q0 := 0) X.K hPM f6 hb0, fun U hU hW => ⟨rfl, by rw [hU], by rw [hU]; exact hPM, va_K.moved hW.alike X.K, apM X.ap, by rw [hU]; exact ((X.E.kept hS.2.1).narrow fr9).moved hW⟩⟩ rfl hn hl.1 hst (lv_room (m := m) (pc := pc) (ls := ls) (rest := st0) hW) d hc
    intro T0 hT0 XT
    obtain ⟨v, st₀, t, T', L, h0, X', hL, e1, e2, ⟨⟨hv, hok, hwb, hPz⟩, hz1, hk1⟩, go⟩ := run T0 hT0 XT
    cases hv
    rw [h0] at hz1 hk1
    rw [← e1] at hPz hz1 hk1
    have hX1 : ∀ q, adB Γ BS q → T'.heap[q]? = H[q]? := fun q h => hk1 q (wB_lt hPS h) (fun z => z.elim (fun a => absurd a (nSM X.ap h)) (fun b => absurd (wB_lt hPS h) (Nat.not_lt.mpr b)))
    have hO1 : va_P Γ.D kl [oC Γ w] T'.heap := hPO.kept (fun k' q' hk' => by
      match k', hk' with
      | 0, hk' =>
        cases hk'
        have hlt : Γ.a 147 < H.size := (hPO 0 _ rfl).lt
        exact hk1 _ hlt (fun z => z.elim (nMO X.ap) (fun b => absurd hlt (Nat.not_lt.mpr b)))
      | k' + 1, hk' => simp at hk')
    obtain ⟨t2, a1, b1⟩ := kk z1.1 z1.2 hok z hz p e s m args below meth c T'.heap (locs ++ L) ls X hc (WL (WL_S hw) hwb) hl (wL_join (wB_kept hPS hX1) hPz hO1) (vaL_call (fun q a => adM a) hS hz1 hk1 hL) hY T' rfl X'
    exact ⟨t2, go t2 a1, b1⟩

theorem sm_H {y : MethodName} {mu : MT} {N fr lo n index : Nat} {As st0 : List Value} {γ : St} {o1 : Option (Int × St)} {k : Int → St → Option ζ} (hC : HC Γ y mu N fr lo As γ o1) (hcw : Cond.codeWith y mu.2.1 mu.2.2.1 mu.2.2.2 (tabR N) ∈ gG) (hm : Cond.methodLink mt.1 index y ∈ gG) (hst : Cond.static y ∈ gG) (hin : Cond.initialized y.cls ∈ gG) (hd : y.cls ≠ "java/lang/invoke/MethodHandle" ∧ y.cls ≠ "java/lang/invoke/VarHandle" ∧ (parseMethodDescriptor y.desc).map (fun d => d.parameters.length) = some n) (hn : As.length = n) (hs0 : st0 = As.reverse ++ st) (hW : (st.map fun v => v.category).sum ≤ 8) (hR : fr + 1 ≤ R.frames ∧ 8 + (mu.2.2.1 + 11) + lo ≤ R.locals) (hf : ce + 1 ≤ R.cells ∧ sl + N ≤ R.slots) (d : decode mt.2.1 pc = .ok (.invokestatic index, 3))
    (kk : ∀ r γ', o1 = some (r, γ') → i32 r → SL Γ Y mt R (ce + 1) (sl + N) K (pc + 3) lv (vI r :: st) γ' (k r γ')) : SL Γ Y mt R ce sl K pc lv st0 γ (bndN o1 k) := fun z hz p e s m args below meth c H locs ls X hc hw hl hP hS hY => by
  cases ho : o1 with
  | none => rw [ho] at hz; cases hz
  | some z1 =>
    rw [ho] at hz
    have hM := hC z1 ho hw H.size
    have run := mx_runS (hh := tabR N) (bytes := mu.2.1) (maxL := mu.2.2.1) (ret := mu.2.2.2) (p := p) (e := e) (R := R) (s := s) (m := m) (args := args) (below := below) (meth := meth) (c := c) (H := H) (locs := locs) (cells := ce) (slots := sl) (As := As) (rest := st) (g := F0 m pc ls st0) ⟨X.x, X.b, X.ml, X.own, X.G⟩ hM (gd_consW gG_good hcw) List.mem_cons_self (X.G _ hm) (X.G _ hst) (X.G _ hin) rfl rfl hd hR
      ⟨mPre_blind, fun U hU hW => ⟨rfl, mPre_U X hP hS U hU hW⟩⟩ rfl hn hl.1 hs0 (lv_room (m := m) (pc := pc) (ls := ls) (rest := st0) hW) d hf
    intro T0 hT0 XT
    obtain ⟨v, st₀, t, T', L, h0, X', hL, e1, e2, ⟨⟨hv, hok, hwb, hPz⟩, hz1, hk1⟩, go⟩ := run T0 hT0 XT
    cases hv
    rw [h0] at hz1 hk1
    rw [← e1] at hPz hz1 hk1
    obtain ⟨t2, a1, b1⟩ := kk z1.1 z1.2 ho hok z hz p e s m args below meth c T'.heap (locs ++ L) ls X hf hwb hl hPz (va_S_call hS hz1 hk1 hL) hY T' rfl X'
    exact ⟨t2, go t2 a1, b1⟩

theorem sm_RM {index : Nat} {st0 : List Value} {k : Int → St → Option ζ} (hm : Cond.methodLink mt.1 index y_M_read ∈ gG) (hs0 : st0 = vR Γ 88 :: st) (hW : (st.map fun v => v.category).sum ≤ 8) (hR : 917 + 1 ≤ R.frames ∧ 8 + (2 + 11) + 63529 ≤ R.locals) (hf : ce + 1 ≤ R.cells ∧ sl + 9 ≤ R.slots) (d : decode mt.2.1 pc = .ok (.invokevirtual index, 3))
    (kk : ∀ r δ', i32 r → SL Γ Y mt R (ce + 1) (sl + 9) K (pc + 3) lv (vI r :: st) (cmb γ δ' w) (k r δ')) : SL Γ Y mt R ce sl K pc lv st0 (cmb γ δ w) (bndN (f_M_read δ) k) := fun z hz p e s m args below meth c H locs ls X hc hw hl hP hS hY => by
  obtain ⟨hPS, hPM, hPO⟩ := wL_split hP
  have hb0 := wB_at (Γ := (Γ.sh 88)) (γ := δ) (B := BM) (j := 0) rfl
  have fr9 : ∀ q, mA (Γ.sh 88) BM H.size q → mA Γ BL s.heap.size q := fun q h => h.elim (fun a => Or.inl (adM a)) (fun z => Or.inr (Nat.le_trans hS.1 z))
  cases ho : f_M_read δ with
  | none => rw [ho] at hz; cases hz
  | some z1 =>
    rw [ho] at hz
    have hM := c_M_read (Γ := Γ.sh 88) ho (WL_M hw) H.size
    have run := mx_runV (hh := [(102, 272, 275, 296)]) (bytes := b_M_read) (maxL := 2) (ret := some .int) (n := 0) (p := p) (e := e) (R := R) (s := s) (m := m) (args := args) (below := below) (meth := meth) (c := c) (H := H) (locs := locs) (cells := ce) (slots := sl) (As := []) (rest := st) (g := F0 m pc ls st0) (b := Γ.a 88) (C := R_M) ⟨X.x, X.b, X.ml, X.own, X.G⟩ hM (gd_consW gG_good cw_M_read) List.mem_cons_self (X.G _ hm) (X.G _ im_M_read) (X.G _ se_M_read) (X.G _ in_M) rfl rfl (by decide +kernel) hR
      ⟨mPre_blind, va_recv (q0 := 0) (ci := 12) X.K hPM rfl hb0, fun U hU hW => ⟨rfl, by rw [hU], by rw [hU]; exact hPM, va_K.moved hW.alike X.K, apM X.ap, by rw [hU]; exact ((X.E.kept hS.2.1).narrow fr9).moved hW⟩⟩ rfl rfl hl.1 hs0 (lv_room (m := m) (pc := pc) (ls := ls) (rest := st0) hW) d hf
    intro T0 hT0 XT
    obtain ⟨v, st₀, t, T', L, h0, X', hL, e1, e2, ⟨⟨hv, hok, hwb, hPz⟩, hz1, hk1⟩, go⟩ := run T0 hT0 XT
    cases hv
    rw [h0] at hz1 hk1
    rw [← e1] at hPz hz1 hk1
    have hX1 : ∀ q, adB Γ BS q → T'.heap[q]? = H[q]? := fun q h => hk1 q (wB_lt hPS h) (fun z => z.elim (fun a => absurd a (nSM X.ap h)) (fun b => absurd (wB_lt hPS h) (Nat.not_lt.mpr b)))
    have hO1 : va_P Γ.D kl [oC Γ w] T'.heap := hPO.kept (fun k' q' hk' => by
      match k', hk' with
      | 0, hk' =>
        cases hk'
        have hlt : Γ.a 147 < H.size := (hPO 0 _ rfl).lt
        exact hk1 _ hlt (fun z => z.elim (nMO X.ap) (fun b => absurd hlt (Nat.not_lt.mpr b)))
      | k' + 1, hk' => simp at hk')
    obtain ⟨t2, a1, b1⟩ := kk z1.1 z1.2 hok z hz p e s m args below meth c T'.heap (locs ++ L) ls X hf (WL (WL_S hw) hwb) hl (wL_join (wB_kept hPS hX1) hPz hO1) (vaL_call (fun q a => adM a) hS hz1 hk1 hL) hY T' rfl X'
    exact ⟨t2, go t2 a1, b1⟩

theorem sm_VSi {y : MethodName} {O : String} {b : ByteArray} {nl fr lo n index : Nat} {As st0 : List Value} {o1 : Option (Int × St)} {k : Int → St → Option ζ} (F : VF y (O, b, nl, some .int) 0 n) (hC : NC Γ BS y (O, b, nl, some .int) fr lo (.ref (Γ.a 0) :: As) γ o1) (hm : Cond.methodLink mt.1 index y ∈ gG) (hn : As.length = n) (hst : st0 = As.reverse ++ vR Γ 0 :: st) (hW : (st.map fun v => v.category).sum ≤ 8) (hR : fr + 1 ≤ R.frames ∧ 8 + (nl + 11) + lo ≤ R.locals) (d : decode mt.2.1 pc = .ok (.invokevirtual index, 3)) (kk : ∀ r γ', i32 r → SL Γ Y mt R ce sl K (pc + 3) lv (vI r :: st) (cmb γ' δ w) (k r γ')) : SL Γ Y mt R ce sl K pc lv st0 (cmb γ δ w) (bndN o1 k) := sm_VS F hC hm hn hst hW hR d (fun r γ' h9 => kk r γ' h9)
theorem sm_VMi {y : MethodName} {O : String} {b : ByteArray} {nl fr lo n index : Nat} {As st0 : List Value} {o1 : Option (Int × St)} {k : Int → St → Option ζ} (F : VF y (O, b, nl, some .int) 12 n) (hC : NC (Γ.sh 88) BM y (O, b, nl, some .int) fr lo (.ref (Γ.a 88) :: As) δ o1) (hm : Cond.methodLink mt.1 index y ∈ gG) (hn : As.length = n) (hst : st0 = As.reverse ++ vR Γ 88 :: st) (hW : (st.map fun v => v.category).sum ≤ 8) (hR : fr + 1 ≤ R.frames ∧ 8 + (nl + 11) + lo ≤ R.locals) (d : decode mt.2.1 pc = .ok (.invokevirtual index, 3)) (kk : ∀ r δ', i32 r → SL Γ Y mt R ce sl K (pc + 3) lv (vI r :: st) (cmb γ δ' w) (k r δ')) : SL Γ Y mt R ce sl K pc lv st0 (cmb γ δ w) (bndN o1 k) := sm_VM F hC hm hn hst hW hR d (fun r δ' h9 => kk r δ' h9)
theorem sm_VMz {y : MethodName} {O : String} {b : ByteArray} {nl fr lo n index : Nat} {As st0 : List Value} {o1 : Option (Int × St)} {k : Int → St → Option ζ} (F : VF y (O, b, nl, some .boolean) 12 n) (hC : NC (Γ.sh 88) BM y (O, b, nl, some .boolean) fr lo (.ref (Γ.a 88) :: As) δ o1) (hm : Cond.methodLink mt.1 index y ∈ gG) (hn : As.length = n) (hst : st0 = As.reverse ++ vR Γ 88 :: st) (hW : (st.map fun v => v.category).sum ≤ 8) (hR : fr + 1 ≤ R.frames ∧ 8 + (nl + 11) + lo ≤ R.locals) (d : decode mt.2.1 pc = .ok (.invokevirtual index, 3)) (kk : ∀ r δ', (r = 0 ∨ r = 1) → SL Γ Y mt R ce sl K (pc + 3) lv (vI r :: st) (cmb γ δ' w) (k r δ')) : SL Γ Y mt R ce sl K pc lv st0 (cmb γ δ w) (bndN o1 k) := sm_VM F hC hm hn hst hW hR d (fun r δ' h9 => kk r δ' h9)
theorem sm_VMl {y : MethodName} {O : String} {b : ByteArray} {nl fr lo n index : Nat} {As st0 : List Value} {o1 : Option (Int × St)} {k : Int → St → Option ζ} (F : VF y (O, b, nl, some .long) 12 n) (hC : NC (Γ.sh 88) BM y (O, b, nl, some .long) fr lo (.ref (Γ.a 88) :: As) δ o1) (hm : Cond.methodLink mt.1 index y ∈ gG) (hn : As.length = n) (hst : st0 = As.reverse ++ vR Γ 88 :: st) (hW : (st.map fun v => v.category).sum ≤ 8) (hR : fr + 1 ≤ R.frames ∧ 8 + (nl + 11) + lo ≤ R.locals) (d : decode mt.2.1 pc = .ok (.invokevirtual index, 3)) (kk : ∀ r δ', SL Γ Y mt R ce sl K (pc + 3) lv (.long (iL r) :: st) (cmb γ δ' w) (k r δ')) : SL Γ Y mt R ce sl K pc lv st0 (cmb γ δ w) (bndN o1 k) := sm_VM F hC hm hn hst hW hR d (fun r δ' h9 => kk r δ')
theorem sm_VMv {y : MethodName} {O : String} {b : ByteArray} {nl fr lo n index : Nat} {As st0 : List Value} {o1 : Option (Int × St)} {k : Int → St → Option ζ} (F : VF y (O, b, nl, none) 12 n) (hC : NC (Γ.sh 88) BM y (O, b, nl, none) fr lo (.ref (Γ.a 88) :: As) δ o1) (hm : Cond.methodLink mt.1 index y ∈ gG) (hn : As.length = n) (hst : st0 = As.reverse ++ vR Γ 88 :: st) (hW : (st.map fun v => v.category).sum ≤ 8) (hR : fr + 1 ≤ R.frames ∧ 8 + (nl + 11) + lo ≤ R.locals) (d : decode mt.2.1 pc = .ok (.invokevirtual index, 3)) (kk : ∀ r δ', SL Γ Y mt R ce sl K (pc + 3) lv (st) (cmb γ δ' w) (k r δ')) : SL Γ Y mt R ce sl K pc lv st0 (cmb γ δ w) (bndN o1 k) := sm_VM F hC hm hn hst hW hR d (fun r δ' h9 => kk r δ')
end SLR
