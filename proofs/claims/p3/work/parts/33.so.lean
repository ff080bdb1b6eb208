/-! a stretch of code answers o; a row an instruction -/
abbrev vI (z : Int) : Value := .int (iI z)
abbrev vR (Γ : Ctx) (j : Nat) : Value := .ref (Γ.a j)
abbrev Kd (ζ : Type) : Type := List Frame → Array Value → State → ζ → State → Prop
def SB (Γ : Ctx) (B : Tb) (mt : MT) (R : Room) (ce sl : Nat) {ζ : Type} (K : Kd ζ) (pc : Nat) (lv : List (Nat × Value)) (st : List Value) (γ : St) (o : Option ζ) : Prop :=
  ∀ z, o = some z → ∀ (p : Program) (e : Env) (s : State) (m : MethodId) (args : Array Value) (below : List Frame) (meth : Method) (c : Code) (H : Heap) (locs : List Loc) (ls : Array Slot),
    CX Γ B mt R p s m args meth c → (ce ≤ R.cells ∧ sl ≤ R.slots) → WB B γ → lv_has ls mt.2.2.1 lv → va_P Γ.D kl (wB Γ γ 0 B) H → va_S (mA Γ B s.heap.size) s.heap H locs → W p Γ.l e R s m args below meth c H locs ce sl (K below args s z) (F0 m pc ls st)
section SB
variable {Γ : Ctx} {B : Tb} {mt : MT} {R : Room} {ce sl : Nat} {ζ : Type} {K : Kd ζ} {pc : Nat} {lv lv' : List (Nat × Value)} {st : List Value} {γ : St} {o : Option ζ}
theorem sb_none : SB Γ B mt R ce sl K pc lv st γ none := fun z hz => by cases hz
theorem sb_eq {o' : Option ζ} (h : o = o') (k : SB Γ B mt R ce sl K pc lv st γ o') : SB Γ B mt R ce sl K pc lv st γ o := h ▸ k
theorem sb_chk {c : Prop} {inst : Decidable c} (k : c → SB Γ B mt R ce sl K pc lv st γ o) : SB Γ B mt R ce sl K pc lv st γ (@chk c ζ inst o) := fun z hz => k (chk_e hz).1 z (chk_e hz).2
theorem sb_bd {j : Nat} {i : Int} (hj : lgB B j = false) (k : i32 (γ j i) → SB Γ B mt R ce sl K pc lv st γ o) : SB Γ B mt R ce sl K pc lv st γ o := fun z hz p e s m args below meth c H locs ls X hc hw hl hP hS => k (hw j i hj) z hz p e s m args below meth c H locs ls X hc hw hl hP hS
theorem sb_lv (ks : List Nat) (hl' : lv_pick lv ks = lv') (k : SB Γ B mt R ce sl K pc lv' st γ o) : SB Γ B mt R ce sl K pc lv st γ o := fun z hz p e s m args below meth c H locs ls X hc hw hl hP hS => k z hz p e s m args below meth c H locs ls X hc hw (lv_sub hl ks hl') hP hS
theorem sb_iconst {n : Int} (d : decode mt.2.1 pc = .ok (.iconst n, 1)) (k : SB Γ B mt R ce sl K (pc + 1) lv (vI n :: st) γ o) : SB Γ B mt R ce sl K pc lv st γ o := fun z hz p e s m args below meth c H locs ls X hc hw hl hP hS => lv_iconst X.x X.b d rfl (k z hz p e s m args below meth c H locs ls X hc hw hl hP hS)
theorem sb_bipush {n : Int} (d : decode mt.2.1 pc = .ok (.bipush n, 2)) (hv : (Int8.ofInt n).toInt32 = iI n) (k : SB Γ B mt R ce sl K (pc + 2) lv (vI n :: st) γ o) : SB Γ B mt R ce sl K pc lv st γ o := fun z hz p e s m args below meth c H locs ls X hc hw hl hP hS => lv_bipush X.x X.b d hv (k z hz p e s m args below meth c H locs ls X hc hw hl hP hS)
theorem sb_sipush {n : Int} (d : decode mt.2.1 pc = .ok (.sipush n, 3)) (hv : (Int16.ofInt n).toInt32 = iI n) (k : SB Γ B mt R ce sl K (pc + 3) lv (vI n :: st) γ o) : SB Γ B mt R ce sl K pc lv st γ o := fun z hz p e s m args below meth c H locs ls X hc hw hl hP hS => lv_sipush X.x X.b d hv (k z hz p e s m args below meth c H locs ls X hc hw hl hP hS)
theorem sb_ldc {index : Nat} {v : Int32} (n : Int) (ev : v = iI n) (hk : Cond.constant mt.1 index v ∈ gG) (d : decode mt.2.1 pc = .ok (.ldc index, 2)) (k : SB Γ B mt R ce sl K (pc + 2) lv (vI n :: st) γ o) : SB Γ B mt R ce sl K pc lv st γ o := fun z hz p e s m args below meth c H locs ls X hc hw hl hP hS => lv_ldc X.x X.b X.own (X.G _ hk) d (by rw [ev]; exact k z hz p e s m args below meth c H locs ls X hc hw hl hP hS)
theorem sb_ldcw {index : Nat} {v : Int32} (n : Int) (ev : v = iI n) (hk : Cond.constant mt.1 index v ∈ gG) (d : decode mt.2.1 pc = .ok (.ldc_w index, 3)) (k : SB Γ B mt R ce sl K (pc + 3) lv (vI n :: st) γ o) : SB Γ B mt R ce sl K pc lv st γ o := fun z hz p e s m args below meth c H locs ls X hc hw hl hP hS => lv_ldcw X.x X.b X.own (X.G _ hk) d (by rw [ev]; exact k z hz p e s m args below meth c H locs ls X hc hw hl hP hS)
theorem sb_iload {i : Nat} {x : Int32} (n : Nat) (d : decode mt.2.1 pc = .ok (.iload i, 2)) (h : lv[n]? = some (i, .int x)) (k : SB Γ B mt R ce sl K (pc + 2) lv (.int x :: st) γ o) : SB Γ B mt R ce sl K pc lv st γ o := fun z hz p e s m args below meth c H locs ls X hc hw hl hP hS => lv_iload X.x X.b d (lv_at hl n h) (k z hz p e s m args below meth c H locs ls X hc hw hl hP hS)
theorem sb_iload_n {q : Fin 4} {x : Int32} (n : Nat) (d : decode mt.2.1 pc = .ok (.iload_n q, 1)) (h : lv[n]? = some ((q : Nat), .int x)) (k : SB Γ B mt R ce sl K (pc + 1) lv (.int x :: st) γ o) : SB Γ B mt R ce sl K pc lv st γ o := fun z hz p e s m args below meth c H locs ls X hc hw hl hP hS => lv_iload_n X.x X.b d rfl (lv_at hl n h) (k z hz p e s m args below meth c H locs ls X hc hw hl hP hS)
theorem sb_lload {i : Nat} {x : Int64} (n : Nat) (d : decode mt.2.1 pc = .ok (.lload i, 2)) (h : lv[n]? = some (i, .long x)) (k : SB Γ B mt R ce sl K (pc + 2) lv (.long x :: st) γ o) : SB Γ B mt R ce sl K pc lv st γ o := fun z hz p e s m args below meth c H locs ls X hc hw hl hP hS => lv_lload X.x X.b d (lv_at hl n h) (k z hz p e s m args below meth c H locs ls X hc hw hl hP hS)
theorem sb_aload {i : Nat} {x : Nat} (n : Nat) (d : decode mt.2.1 pc = .ok (.aload i, 2)) (h : lv[n]? = some (i, .ref x)) (k : SB Γ B mt R ce sl K (pc + 2) lv (.ref x :: st) γ o) : SB Γ B mt R ce sl K pc lv st γ o := fun z hz p e s m args below meth c H locs ls X hc hw hl hP hS => lv_aload X.x X.b d (lv_at hl n h) (k z hz p e s m args below meth c H locs ls X hc hw hl hP hS)
theorem sb_aload_n {q : Fin 4} {x : Nat} (n : Nat) (d : decode mt.2.1 pc = .ok (.aload_n q, 1)) (h : lv[n]? = some ((q : Nat), .ref x)) (k : SB Γ B mt R ce sl K (pc + 1) lv (.ref x :: st) γ o) : SB Γ B mt R ce sl K pc lv st γ o := fun z hz p e s m args below meth c H locs ls X hc hw hl hP hS => lv_aload_n X.x X.b d rfl (lv_at hl n h) (k z hz p e s m args below meth c H locs ls X hc hw hl hP hS)
theorem sb_istore {i : Nat} {x : Int32} (lv' : List (Nat × Value)) (d : decode mt.2.1 pc = .ok (.istore i, 2)) (hn : i < mt.2.2.1) (hl' : (i, Value.int x) :: lv.filter (fun q => !(q.1 == i) && !(q.1 + 1 == i && q.2.category == 2)) = lv') (k : SB Γ B mt R ce sl K (pc + 2) lv' st γ o) : SB Γ B mt R ce sl K pc lv (.int x :: st) γ o := fun z hz p e s m args below meth c H locs ls X hc hw hl hP hS => lv_istore X.x X.b d hl hn hl' (fun ls hl => k z hz p e s m args below meth c H locs ls X hc hw hl hP hS)
theorem sb_istore_n {q : Fin 4} {x : Int32} (lv' : List (Nat × Value)) (d : decode mt.2.1 pc = .ok (.istore_n q, 1)) (hn : (q : Nat) < mt.2.2.1) (hl' : ((q : Nat), Value.int x) :: lv.filter (fun r => !(r.1 == (q : Nat)) && !(r.1 + 1 == (q : Nat) && r.2.category == 2)) = lv') (k : SB Γ B mt R ce sl K (pc + 1) lv' st γ o) : SB Γ B mt R ce sl K pc lv (.int x :: st) γ o := fun z hz p e s m args below meth c H locs ls X hc hw hl hP hS => lv_istore_n X.x X.b d rfl hl hn hl' (fun ls hl => k z hz p e s m args below meth c H locs ls X hc hw hl hP hS)
theorem sb_iinc {i : Nat} {n x : Int} (q : Nat) (lv' : List (Nat × Value)) (d : decode mt.2.1 pc = .ok (.iinc i n, 3)) (h : lv[q]? = some (i, vI x)) (hn : i < mt.2.2.1) (hl' : (i, vI (x + n)) :: lv.filter (fun q => !(q.1 == i) && !(q.1 + 1 == i && q.2.category == 2)) = lv') (k : SB Γ B mt R ce sl K (pc + 3) lv' st γ o) : SB Γ B mt R ce sl K pc lv st γ o := fun z hz p e s m args below meth c H locs ls X hc hw hl hP hS => lv_iinc X.x X.b d hl h (Int32.ofInt_add x n).symm hn hl' (fun ls hl => k z hz p e s m args below meth c H locs ls X hc hw hl hP hS)
theorem sb_iadd {x y : Int} (d : decode mt.2.1 pc = .ok (.iadd, 1)) (k : SB Γ B mt R ce sl K (pc + 1) lv (vI (x + y) :: st) γ o) : SB Γ B mt R ce sl K pc lv (vI y :: vI x :: st) γ o := fun z hz p e s m args below meth c H locs ls X hc hw hl hP hS => lv_iadd X.x X.b d (by rw [show iI x + iI y = iI (x + y) from (Int32.ofInt_add x y).symm]; exact k z hz p e s m args below meth c H locs ls X hc hw hl hP hS)
theorem sb_isub {x y : Int} (d : decode mt.2.1 pc = .ok (.isub, 1)) (k : SB Γ B mt R ce sl K (pc + 1) lv (vI (x - y) :: st) γ o) : SB Γ B mt R ce sl K pc lv (vI y :: vI x :: st) γ o := fun z hz p e s m args below meth c H locs ls X hc hw hl hP hS => lv_isub X.x X.b d (by rw [show iI x - iI y = iI (x - y) from (Int32.ofInt_sub x y).symm]; exact k z hz p e s m args below meth c H locs ls X hc hw hl hP hS)
theorem sb_imul {x y : Int} (d : decode mt.2.1 pc = .ok (.imul, 1)) (k : SB Γ B mt R ce sl K (pc + 1) lv (vI (x * y) :: st) γ o) : SB Γ B mt R ce sl K pc lv (vI y :: vI x :: st) γ o := fun z hz p e s m args below meth c H locs ls X hc hw hl hP hS => lv_imul X.x X.b d (by rw [show iI x * iI y = iI (x * y) from (Int32.ofInt_mul x y).symm]; exact k z hz p e s m args below meth c H locs ls X hc hw hl hP hS)
theorem sb_ineg {x : Int} (d : decode mt.2.1 pc = .ok (.ineg, 1)) (k : SB Γ B mt R ce sl K (pc + 1) lv (vI (-x) :: st) γ o) : SB Γ B mt R ce sl K pc lv (vI x :: st) γ o := fun z hz p e s m args below meth c H locs ls X hc hw hl hP hS => lv_ineg X.x X.b d (by rw [show -iI x = iI (-x) from (Int32.ofInt_neg x).symm]; exact k z hz p e s m args below meth c H locs ls X hc hw hl hP hS)
theorem sb_wr {x : Int} (k : SB Γ B mt R ce sl K pc lv (vI (wr x) :: st) γ o) : SB Γ B mt R ce sl K pc lv (vI x :: st) γ o := by
  have h : vI (wr x) = vI x := congrArg Value.int (iI_wr x)
  rw [← h]
  exact k
/-- any int as the whole number that it is -/
theorem sb_nm {x : Int32} (k : SB Γ B mt R ce sl K pc lv (vI x.toInt :: st) γ o) : SB Γ B mt R ce sl K pc lv (.int x :: st) γ o := by
  have h : vI x.toInt = .int x := congrArg Value.int (iI_of x)
  rw [← h]
  exact k
def iand (x y : Int) : Int := (iI x &&& iI y).toInt
def ior (x y : Int) : Int := (iI x ||| iI y).toInt
def ixor (x y : Int) : Int := (iI x ^^^ iI y).toInt
def ishr (x y : Int) : Int := (iI x >>> (iI y &&& 31)).toInt
def idiv (x y : Int) : Int := (iI x / iI y).toInt
def irem (x y : Int) : Int := (iI x - iI x / iI y * iI y).toInt
theorem sb_iand {x y : Int} (d : decode mt.2.1 pc = .ok (.iand, 1)) (k : SB Γ B mt R ce sl K (pc + 1) lv (vI (iand x y) :: st) γ o) : SB Γ B mt R ce sl K pc lv (vI y :: vI x :: st) γ o := fun z hz p e s m args below meth c H locs ls X hc hw hl hP hS => lv_iand X.x X.b d (sb_nm k z hz p e s m args below meth c H locs ls X hc hw hl hP hS)
theorem sb_ior {x y : Int} (d : decode mt.2.1 pc = .ok (.ior, 1)) (k : SB Γ B mt R ce sl K (pc + 1) lv (vI (ior x y) :: st) γ o) : SB Γ B mt R ce sl K pc lv (vI y :: vI x :: st) γ o := fun z hz p e s m args below meth c H locs ls X hc hw hl hP hS => lv_ior X.x X.b d (sb_nm k z hz p e s m args below meth c H locs ls X hc hw hl hP hS)
theorem sb_ixor {x y : Int} (d : decode mt.2.1 pc = .ok (.ixor, 1)) (k : SB Γ B mt R ce sl K (pc + 1) lv (vI (ixor x y) :: st) γ o) : SB Γ B mt R ce sl K pc lv (vI y :: vI x :: st) γ o := fun z hz p e s m args below meth c H locs ls X hc hw hl hP hS => lv_ixor X.x X.b d (sb_nm k z hz p e s m args below meth c H locs ls X hc hw hl hP hS)
theorem sb_ishr {x y : Int} (d : decode mt.2.1 pc = .ok (.ishr, 1)) (k : SB Γ B mt R ce sl K (pc + 1) lv (vI (ishr x y) :: st) γ o) : SB Γ B mt R ce sl K pc lv (vI y :: vI x :: st) γ o := fun z hz p e s m args below meth c H locs ls X hc hw hl hP hS => lv_ishr X.x X.b d (sb_nm k z hz p e s m args below meth c H locs ls X hc hw hl hP hS)
theorem sb_idiv {x y : Int} {inst : Decidable (y ≠ 0)} (hy : i32 y) (d : decode mt.2.1 pc = .ok (.idiv, 1)) (k : y ≠ 0 → SB Γ B mt R ce sl K (pc + 1) lv (vI (idiv x y) :: st) γ o) : SB Γ B mt R ce sl K pc lv (vI y :: vI x :: st) γ (@chk (y ≠ 0) ζ inst o) := sb_chk fun h z hz p e s m args below meth c H locs ls X hc hw hl hP hS => lv_idiv X.x X.b d (fun q => h ((iI_eq hy (by decide : i32 0)).mp q)) (sb_nm (k h) z hz p e s m args below meth c H locs ls X hc hw hl hP hS)
theorem sb_irem {x y : Int} {inst : Decidable (y ≠ 0)} (hy : i32 y) (d : decode mt.2.1 pc = .ok (.irem, 1)) (k : y ≠ 0 → SB Γ B mt R ce sl K (pc + 1) lv (vI (irem x y) :: st) γ o) : SB Γ B mt R ce sl K pc lv (vI y :: vI x :: st) γ (@chk (y ≠ 0) ζ inst o) := sb_chk fun h z hz p e s m args below meth c H locs ls X hc hw hl hP hS => lv_irem X.x X.b d (fun q => h ((iI_eq hy (by decide : i32 0)).mp q)) (sb_nm (k h) z hz p e s m args below meth c H locs ls X hc hw hl hP hS)
theorem sb_dup {v : Value} (d : decode mt.2.1 pc = .ok (.dup, 1)) (hv : v.category = 1) (k : SB Γ B mt R ce sl K (pc + 1) lv (v :: v :: st) γ o) : SB Γ B mt R ce sl K pc lv (v :: st) γ o := fun z hz p e s m args below meth c H locs ls X hc hw hl hP hS => lv_dup X.x X.b d hv (k z hz p e s m args below meth c H locs ls X hc hw hl hP hS)
theorem sb_pop {v : Value} (d : decode mt.2.1 pc = .ok (.pop, 1)) (hv : v.category = 1) (k : SB Γ B mt R ce sl K (pc + 1) lv st γ o) : SB Γ B mt R ce sl K pc lv (v :: st) γ o := fun z hz p e s m args below meth c H locs ls X hc hw hl hP hS => lv_pop X.x X.b d hv (k z hz p e s m args below meth c H locs ls X hc hw hl hP hS)
theorem sb_dup_x1 {v w : Value} (d : decode mt.2.1 pc = .ok (.dup_x1, 1)) (hv : v.category = 1) (hw' : w.category = 1) (k : SB Γ B mt R ce sl K (pc + 1) lv (v :: w :: v :: st) γ o) : SB Γ B mt R ce sl K pc lv (v :: w :: st) γ o := fun z hz p e s m args below meth c H locs ls X hc hw hl hP hS => lv_dup_x1 X.x X.b d hv hw' (k z hz p e s m args below meth c H locs ls X hc hw hl hP hS)
theorem sb_dup2 {v w : Value} (d : decode mt.2.1 pc = .ok (.dup2, 1)) (hv : v.category = 1) (hw' : w.category = 1) (k : SB Γ B mt R ce sl K (pc + 1) lv (v :: w :: v :: w :: st) γ o) : SB Γ B mt R ce sl K pc lv (v :: w :: st) γ o := fun z hz p e s m args below meth c H locs ls X hc hw hl hP hS => lv_dup2_11 X.x X.b d hv hw' (k z hz p e s m args below meth c H locs ls X hc hw hl hP hS)
theorem sb_goto {off : Int} (tgt : Nat) (d : decode mt.2.1 pc = .ok (.goto off, 3)) (ht : (pc : Int) + off = (tgt : Int)) (k : SB Γ B mt R ce sl K tgt lv st γ o) : SB Γ B mt R ce sl K pc lv st γ o := fun z hz p e s m args below meth c H locs ls X hc hw hl hP hS => lv_goto X.x X.b d ht (k z hz p e s m args below meth c H locs ls X hc hw hl hP hS)
theorem sb_icmp_eq {x y : Int} {off : Int} {inst : Decidable (x = y)} {o1 o2 : Option ζ} (tgt : Nat) (hx : i32 x) (hy : i32 y) (d : decode mt.2.1 pc = .ok (.if_icmp .eq off, 3)) (ht : (pc : Int) + off = (tgt : Int)) (kt : x = y → SB Γ B mt R ce sl K tgt lv st γ o1) (kf : ¬ (x = y) → SB Γ B mt R ce sl K (pc + 3) lv st γ o2) : SB Γ B mt R ce sl K pc lv (vI y :: vI x :: st) γ (@ite _ (x = y) inst o1 o2) := fun z hz p e s m args below meth c H locs ls X hc hw hl hP hS => by
  by_cases q : x = y
  · rw [if_pos q] at hz
    exact lv_icmp_eq X.x X.b d ht (fun _ => kt q z hz p e s m args below meth c H locs ls X hc hw hl hP hS) (fun w => absurd ((iI_eq hx hy).mpr q) w)
  · rw [if_neg q] at hz
    exact lv_icmp_eq X.x X.b d ht (fun w => absurd ((iI_eq hx hy).mp w) q) (fun _ => kf q z hz p e s m args below meth c H locs ls X hc hw hl hP hS)
theorem sb_if_eq {x : Int} {off : Int} {inst : Decidable (x = 0)} {o1 o2 : Option ζ} (tgt : Nat) (hx : i32 x) (d : decode mt.2.1 pc = .ok (.ifCond .eq off, 3)) (ht : (pc : Int) + off = (tgt : Int)) (kt : x = 0 → SB Γ B mt R ce sl K tgt lv st γ o1) (kf : ¬ (x = 0) → SB Γ B mt R ce sl K (pc + 3) lv st γ o2) : SB Γ B mt R ce sl K pc lv (vI x :: st) γ (@ite _ (x = 0) inst o1 o2) := fun z hz p e s m args below meth c H locs ls X hc hw hl hP hS => by
  by_cases q : x = 0
  · rw [if_pos q] at hz
    exact lv_if_eq X.x X.b d ht (fun _ => kt q z hz p e s m args below meth c H locs ls X hc hw hl hP hS) (fun w => absurd ((iI_eq hx (by decide : i32 0)).mpr q) w)
  · rw [if_neg q] at hz
    exact lv_if_eq X.x X.b d ht (fun w => absurd ((iI_eq hx (by decide : i32 0)).mp w) q) (fun _ => kf q z hz p e s m args below meth c H locs ls X hc hw hl hP hS)
theorem sb_icmp_ne {x y : Int} {off : Int} {inst : Decidable (x ≠ y)} {o1 o2 : Option ζ} (tgt : Nat) (hx : i32 x) (hy : i32 y) (d : decode mt.2.1 pc = .ok (.if_icmp .ne off, 3)) (ht : (pc : Int) + off = (tgt : Int)) (kt : x ≠ y → SB Γ B mt R ce sl K tgt lv st γ o1) (kf : ¬ (x ≠ y) → SB Γ B mt R ce sl K (pc + 3) lv st γ o2) : SB Γ B mt R ce sl K pc lv (vI y :: vI x :: st) γ (@ite _ (x ≠ y) inst o1 o2) := fun z hz p e s m args below meth c H locs ls X hc hw hl hP hS => by
  by_cases q : x ≠ y
  · rw [if_pos q] at hz
    exact lv_icmp_ne X.x X.b d ht (fun _ => kt q z hz p e s m args below meth c H locs ls X hc hw hl hP hS) (fun w => absurd ((iI_eq hx hy).mp w) q)
  · rw [if_neg q] at hz
    exact lv_icmp_ne X.x X.b d ht (fun w => absurd ((iI_eq hx hy).mpr (Classical.byContradiction q)) w) (fun _ => kf q z hz p e s m args below meth c H locs ls X hc hw hl hP hS)
theorem sb_if_ne {x : Int} {off : Int} {inst : Decidable (x ≠ 0)} {o1 o2 : Option ζ} (tgt : Nat) (hx : i32 x) (d : decode mt.2.1 pc = .ok (.ifCond .ne off, 3)) (ht : (pc : Int) + off = (tgt : Int)) (kt : x ≠ 0 → SB Γ B mt R ce sl K tgt lv st γ o1) (kf : ¬ (x ≠ 0) → SB Γ B mt R ce sl K (pc + 3) lv st γ o2) : SB Γ B mt R ce sl K pc lv (vI x :: st) γ (@ite _ (x ≠ 0) inst o1 o2) := fun z hz p e s m args below meth c H locs ls X hc hw hl hP hS => by
  by_cases q : x ≠ 0
  · rw [if_pos q] at hz
    exact lv_if_ne X.x X.b d ht (fun _ => kt q z hz p e s m args below meth c H locs ls X hc hw hl hP hS) (fun w => absurd ((iI_eq hx (by decide : i32 0)).mp w) q)
  · rw [if_neg q] at hz
    exact lv_if_ne X.x X.b d ht (fun w => absurd ((iI_eq hx (by decide : i32 0)).mpr (Classical.byContradiction q)) w) (fun _ => kf q z hz p e s m args below meth c H locs ls X hc hw hl hP hS)
theorem sb_icmp_lt {x y : Int} {off : Int} {inst : Decidable (x < y)} {o1 o2 : Option ζ} (tgt : Nat) (hx : i32 x) (hy : i32 y) (d : decode mt.2.1 pc = .ok (.if_icmp .lt off, 3)) (ht : (pc : Int) + off = (tgt : Int)) (kt : x < y → SB Γ B mt R ce sl K tgt lv st γ o1) (kf : ¬ (x < y) → SB Γ B mt R ce sl K (pc + 3) lv st γ o2) : SB Γ B mt R ce sl K pc lv (vI y :: vI x :: st) γ (@ite _ (x < y) inst o1 o2) := fun z hz p e s m args below meth c H locs ls X hc hw hl hP hS => by
  by_cases q : x < y
  · rw [if_pos q] at hz
    exact lv_icmp_lt X.x X.b d ht (fun _ => kt q z hz p e s m args below meth c H locs ls X hc hw hl hP hS) (fun w => absurd ((iI_lt hx hy).mpr q) w)
  · rw [if_neg q] at hz
    exact lv_icmp_lt X.x X.b d ht (fun w => absurd ((iI_lt hx hy).mp w) q) (fun _ => kf q z hz p e s m args below meth c H locs ls X hc hw hl hP hS)
theorem sb_if_lt {x : Int} {off : Int} {inst : Decidable (x < 0)} {o1 o2 : Option ζ} (tgt : Nat) (hx : i32 x) (d : decode mt.2.1 pc = .ok (.ifCond .lt off, 3)) (ht : (pc : Int) + off = (tgt : Int)) (kt : x < 0 → SB Γ B mt R ce sl K tgt lv st γ o1) (kf : ¬ (x < 0) → SB Γ B mt R ce sl K (pc + 3) lv st γ o2) : SB Γ B mt R ce sl K pc lv (vI x :: st) γ (@ite _ (x < 0) inst o1 o2) := fun z hz p e s m args below meth c H locs ls X hc hw hl hP hS => by
  by_cases q : x < 0
  · rw [if_pos q] at hz
    exact lv_if_lt X.x X.b d ht (fun _ => kt q z hz p e s m args below meth c H locs ls X hc hw hl hP hS) (fun w => absurd ((iI_lt hx (by decide : i32 0)).mpr q) w)
  · rw [if_neg q] at hz
    exact lv_if_lt X.x X.b d ht (fun w => absurd ((iI_lt hx (by decide : i32 0)).mp w) q) (fun _ => kf q z hz p e s m args below meth c H locs ls X hc hw hl hP hS)
theorem sb_icmp_ge {x y : Int} {off : Int} {inst : Decidable (y ≤ x)} {o1 o2 : Option ζ} (tgt : Nat) (hx : i32 x) (hy : i32 y) (d : decode mt.2.1 pc = .ok (.if_icmp .ge off, 3)) (ht : (pc : Int) + off = (tgt : Int)) (kt : y ≤ x → SB Γ B mt R ce sl K tgt lv st γ o1) (kf : ¬ (y ≤ x) → SB Γ B mt R ce sl K (pc + 3) lv st γ o2) : SB Γ B mt R ce sl K pc lv (vI y :: vI x :: st) γ (@ite _ (y ≤ x) inst o1 o2) := fun z hz p e s m args below meth c H locs ls X hc hw hl hP hS => by
  by_cases q : y ≤ x
  · rw [if_pos q] at hz
    exact lv_icmp_ge X.x X.b d ht (fun _ => kt q z hz p e s m args below meth c H locs ls X hc hw hl hP hS) (fun w => absurd ((iI_le hy hx).mpr q) w)
  · rw [if_neg q] at hz
    exact lv_icmp_ge X.x X.b d ht (fun w => absurd ((iI_le hy hx).mp w) q) (fun _ => kf q z hz p e s m args below meth c H locs ls X hc hw hl hP hS)
theorem sb_if_ge {x : Int} {off : Int} {inst : Decidable (0 ≤ x)} {o1 o2 : Option ζ} (tgt : Nat) (hx : i32 x) (d : decode mt.2.1 pc = .ok (.ifCond .ge off, 3)) (ht : (pc : Int) + off = (tgt : Int)) (kt : 0 ≤ x → SB Γ B mt R ce sl K tgt lv st γ o1) (kf : ¬ (0 ≤ x) → SB Γ B mt R ce sl K (pc + 3) lv st γ o2) : SB Γ B mt R ce sl K pc lv (vI x :: st) γ (@ite _ (0 ≤ x) inst o1 o2) := fun z hz p e s m args below meth c H locs ls X hc hw hl hP hS => by
  by_cases q : 0 ≤ x
  · rw [if_pos q] at hz
    exact lv_if_ge X.x X.b d ht (fun _ => kt q z hz p e s m args below meth c H locs ls X hc hw hl hP hS) (fun w => absurd ((iI_le (by decide : i32 0) hx).mpr q) w)
  · rw [if_neg q] at hz
    exact lv_if_ge X.x X.b d ht (fun w => absurd ((iI_le (by decide : i32 0) hx).mp w) q) (fun _ => kf q z hz p e s m args below meth c H locs ls X hc hw hl hP hS)
theorem sb_icmp_gt {x y : Int} {off : Int} {inst : Decidable (y < x)} {o1 o2 : Option ζ} (tgt : Nat) (hx : i32 x) (hy : i32 y) (d : decode mt.2.1 pc = .ok (.if_icmp .gt off, 3)) (ht : (pc : Int) + off = (tgt : Int)) (kt : y < x → SB Γ B mt R ce sl K tgt lv st γ o1) (kf : ¬ (y < x) → SB Γ B mt R ce sl K (pc + 3) lv st γ o2) : SB Γ B mt R ce sl K pc lv (vI y :: vI x :: st) γ (@ite _ (y < x) inst o1 o2) := fun z hz p e s m args below meth c H locs ls X hc hw hl hP hS => by
  by_cases q : y < x
  · rw [if_pos q] at hz
    exact lv_icmp_gt X.x X.b d ht (fun _ => kt q z hz p e s m args below meth c H locs ls X hc hw hl hP hS) (fun w => absurd ((iI_lt hy hx).mpr q) w)
  · rw [if_neg q] at hz
    exact lv_icmp_gt X.x X.b d ht (fun w => absurd ((iI_lt hy hx).mp w) q) (fun _ => kf q z hz p e s m args below meth c H locs ls X hc hw hl hP hS)
theorem sb_if_gt {x : Int} {off : Int} {inst : Decidable (0 < x)} {o1 o2 : Option ζ} (tgt : Nat) (hx : i32 x) (d : decode mt.2.1 pc = .ok (.ifCond .gt off, 3)) (ht : (pc : Int) + off = (tgt : Int)) (kt : 0 < x → SB Γ B mt R ce sl K tgt lv st γ o1) (kf : ¬ (0 < x) → SB Γ B mt R ce sl K (pc + 3) lv st γ o2) : SB Γ B mt R ce sl K pc lv (vI x :: st) γ (@ite _ (0 < x) inst o1 o2) := fun z hz p e s m args below meth c H locs ls X hc hw hl hP hS => by
  by_cases q : 0 < x
  · rw [if_pos q] at hz
    exact lv_if_gt X.x X.b d ht (fun _ => kt q z hz p e s m args below meth c H locs ls X hc hw hl hP hS) (fun w => absurd ((iI_lt (by decide : i32 0) hx).mpr q) w)
  · rw [if_neg q] at hz
    exact lv_if_gt X.x X.b d ht (fun w => absurd ((iI_lt (by decide : i32 0) hx).mp w) q) (fun _ => kf q z hz p e s m args below meth c H locs ls X hc hw hl hP hS)
theorem sb_icmp_le {x y : Int} {off : Int} {inst : Decidable (x ≤ y)} {o1 o2 : Option ζ} (tgt : Nat) (hx : i32 x) (hy : i32 y) (d : decode mt.2.1 pc = .ok (.if_icmp .le off, 3)) (ht : (pc : Int) + off = (tgt : Int)) (kt : x ≤ y → SB Γ B mt R ce sl K tgt lv st γ o1) (kf : ¬ (x ≤ y) → SB Γ B mt R ce sl K (pc + 3) lv st γ o2) : SB Γ B mt R ce sl K pc lv (vI y :: vI x :: st) γ (@ite _ (x ≤ y) inst o1 o2) := fun z hz p e s m args below meth c H locs ls X hc hw hl hP hS => by
  by_cases q : x ≤ y
  · rw [if_pos q] at hz
    exact lv_icmp_le X.x X.b d ht (fun _ => kt q z hz p e s m args below meth c H locs ls X hc hw hl hP hS) (fun w => absurd ((iI_le hx hy).mpr q) w)
  · rw [if_neg q] at hz
    exact lv_icmp_le X.x X.b d ht (fun w => absurd ((iI_le hx hy).mp w) q) (fun _ => kf q z hz p e s m args below meth c H locs ls X hc hw hl hP hS)
theorem sb_if_le {x : Int} {off : Int} {inst : Decidable (x ≤ 0)} {o1 o2 : Option ζ} (tgt : Nat) (hx : i32 x) (d : decode mt.2.1 pc = .ok (.ifCond .le off, 3)) (ht : (pc : Int) + off = (tgt : Int)) (kt : x ≤ 0 → SB Γ B mt R ce sl K tgt lv st γ o1) (kf : ¬ (x ≤ 0) → SB Γ B mt R ce sl K (pc + 3) lv st γ o2) : SB Γ B mt R ce sl K pc lv (vI x :: st) γ (@ite _ (x ≤ 0) inst o1 o2) := fun z hz p e s m args below meth c H locs ls X hc hw hl hP hS => by
  by_cases q : x ≤ 0
  · rw [if_pos q] at hz
    exact lv_if_le X.x X.b d ht (fun _ => kt q z hz p e s m args below meth c H locs ls X hc hw hl hP hS) (fun w => absurd ((iI_le hx (by decide : i32 0)).mpr q) w)
  · rw [if_neg q] at hz
    exact lv_if_le X.x X.b d ht (fun w => absurd ((iI_le hx (by decide : i32 0)).mp w) q) (fun _ => kf q z hz p e s m args below meth c H locs ls X hc hw hl hP hS)
/-- switches: a case, the rest -/
theorem sb_tc {x dflt lo hi off : Int} {offs : Array Int} {len : Nat} {o1 o2 : Option ζ} (q : Int) {inst : Decidable (x = q)} (tgt : Nat) (hx : i32 x) (d : decode mt.2.1 pc = .ok (.tableswitch dflt lo hi offs, len)) (h : ¬ q < lo ∧ ¬ hi < q ∧ offs[(q - lo).toNat]? = some off) (ht : (pc : Int) + off = (tgt : Int)) (kt : x = q → SB Γ B mt R ce sl K tgt lv st γ o1) (kf : ¬ x = q → SB Γ B mt R ce sl K pc lv (vI x :: st) γ o2) : SB Γ B mt R ce sl K pc lv (vI x :: st) γ (@ite _ (x = q) inst o1 o2) := fun z hz p e s m args below meth c H locs ls X hc hw hl hP hS => by
  by_cases w : x = q
  · rw [if_pos w] at hz
    have e1 : (iI x).toInt = q := (iI_toInt hx).trans w
    exact lv_tableIn X.x X.b d (by rw [e1]; exact h.1) (by rw [e1]; exact h.2.1) (by rw [e1]; exact h.2.2) ht (kt w z hz p e s m args below meth c H locs ls X hc hw hl hP hS)
  · rw [if_neg w] at hz
    exact kf w z hz p e s m args below meth c H locs ls X hc hw hl hP hS
theorem sb_td {x dflt lo hi : Int} {offs : Array Int} {len : Nat} (tgt : Nat) (hx : i32 x) (d : decode mt.2.1 pc = .ok (.tableswitch dflt lo hi offs, len)) (h : x < lo ∨ hi < x) (ht : (pc : Int) + dflt = (tgt : Int)) (k : SB Γ B mt R ce sl K tgt lv st γ o) : SB Γ B mt R ce sl K pc lv (vI x :: st) γ o := fun z hz p e s m args below meth c H locs ls X hc hw hl hP hS =>
  lv_tableOut X.x X.b d (by rw [iI_toInt hx]; exact h) ht (k z hz p e s m args below meth c H locs ls X hc hw hl hP hS)
theorem sb_lc {x dflt : Int} {off : Int} {ps : Array (Int × Int)} {len : Nat} {o1 o2 : Option ζ} (q : Int) {inst : Decidable (x = q)} (tgt : Nat) (hx : i32 x) (d : decode mt.2.1 pc = .ok (.lookupswitch dflt ps, len)) (h : (ps.toList.zip (ps.toList.drop 1)).all (fun (a, next) => a.1 < next.1) = true ∧ Op.lookupswitch.offset ps.toList dflt q = off) (ht : (pc : Int) + off = (tgt : Int)) (kt : x = q → SB Γ B mt R ce sl K tgt lv st γ o1) (kf : ¬ x = q → SB Γ B mt R ce sl K pc lv (vI x :: st) γ o2) : SB Γ B mt R ce sl K pc lv (vI x :: st) γ (@ite _ (x = q) inst o1 o2) := fun z hz p e s m args below meth c H locs ls X hc hw hl hP hS => by
  by_cases w : x = q
  · rw [if_pos w] at hz
    have e1 : (iI x).toInt = q := (iI_toInt hx).trans w
    exact lv_lookup X.x X.b d h.1 (by rw [e1]; exact h.2) ht (kt w z hz p e s m args below meth c H locs ls X hc hw hl hP hS)
  · rw [if_neg w] at hz
    exact kf w z hz p e s m args below meth c H locs ls X hc hw hl hP hS
theorem lk_dflt {x dflt : Int} : ∀ {ps : List (Int × Int)}, (∀ q ∈ ps, x ≠ q.1) → Op.lookupswitch.offset ps dflt x = dflt := by
  intro ps
  induction ps with
  | nil => intro _; rfl
  | cons y T ih =>
    intro h
    have h1 := h y List.mem_cons_self
    rw [Op.lookupswitch.offset_cons, if_neg (fun e => h1 e.symm)]
    exact ih (fun q hq => h q (List.mem_cons_of_mem _ hq))
theorem sb_ld {x dflt : Int} {ps : Array (Int × Int)} {len : Nat} (tgt : Nat) (hx : i32 x) (d : decode mt.2.1 pc = .ok (.lookupswitch dflt ps, len)) (h : (ps.toList.zip (ps.toList.drop 1)).all (fun (a, next) => a.1 < next.1) = true) (hq : ∀ q ∈ ps.toList, x ≠ q.1) (ht : (pc : Int) + dflt = (tgt : Int)) (k : SB Γ B mt R ce sl K tgt lv st γ o) : SB Γ B mt R ce sl K pc lv (vI x :: st) γ o := fun z hz p e s m args below meth c H locs ls X hc hw hl hP hS =>
  lv_lookup X.x X.b d h (by rw [iI_toInt hx]; exact lk_dflt hq) ht (k z hz p e s m args below meth c H locs ls X hc hw hl hP hS)
end SB
