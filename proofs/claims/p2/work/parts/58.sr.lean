/-! stretches of code that only read: the heap stays as it was -/
def SR (Γ : Ctx) (B : Tb) (mt : MT) (R : Room) (ce sl : Nat) {ζ : Type} (K : Kd ζ) (pc : Nat) (lv : List (Nat × Value)) (st : List Value) (γ : St) (o : Option ζ) : Prop :=
  ∀ z, o = some z → ∀ (p : Program) (e : Env) (s : State) (m : MethodId) (args : Array Value) (below : List Frame) (meth : Method) (c : Code) (ls : Array Slot),
    CX Γ B mt R p s m args meth c → (ce ≤ R.cells ∧ sl ≤ R.slots) → WB B γ → lv_has ls mt.2.2.1 lv → va_P Γ.D kl (wB Γ γ 0 B) s.heap → W p Γ.l e R s m args below meth c s.heap [] ce sl (K below args s z) (F0 m pc ls st)
section SR
variable {Γ : Ctx} {B : Tb} {mt : MT} {R : Room} {ce sl : Nat} {ζ : Type} {K : Kd ζ} {pc : Nat} {lv lv' : List (Nat × Value)} {st : List Value} {γ : St} {o : Option ζ}
theorem sr_none : SR Γ B mt R ce sl K pc lv st γ none := fun z hz => by cases hz
theorem sr_eq {o' : Option ζ} (h : o = o') (k : SR Γ B mt R ce sl K pc lv st γ o') : SR Γ B mt R ce sl K pc lv st γ o := h ▸ k
theorem sr_chk {c : Prop} {inst : Decidable c} (k : c → SR Γ B mt R ce sl K pc lv st γ o) : SR Γ B mt R ce sl K pc lv st γ (@chk c ζ inst o) := fun z hz => k (chk_e hz).1 z (chk_e hz).2
theorem sr_bd {j : Nat} {i : Int} (hj : lgB B j = false) (k : i32 (γ j i) → SR Γ B mt R ce sl K pc lv st γ o) : SR Γ B mt R ce sl K pc lv st γ o := fun z hz p e s m args below meth c ls X hc hw hl hP => k (hw j i hj) z hz p e s m args below meth c ls X hc hw hl hP
theorem sr_lv (ks : List Nat) (hl' : lv_pick lv ks = lv') (k : SR Γ B mt R ce sl K pc lv' st γ o) : SR Γ B mt R ce sl K pc lv st γ o := fun z hz p e s m args below meth c ls X hc hw hl hP => k z hz p e s m args below meth c ls X hc hw (lv_sub hl ks hl') hP
theorem sr_iconst {n : Int} (d : decode mt.2.1 pc = .ok (.iconst n, 1)) (k : SR Γ B mt R ce sl K (pc + 1) lv (vI n :: st) γ o) : SR Γ B mt R ce sl K pc lv st γ o := fun z hz p e s m args below meth c ls X hc hw hl hP => lv_iconst X.x X.b d rfl (k z hz p e s m args below meth c ls X hc hw hl hP)
theorem sr_bipush {n : Int} (d : decode mt.2.1 pc = .ok (.bipush n, 2)) (hv : (Int8.ofInt n).toInt32 = iI n) (k : SR Γ B mt R ce sl K (pc + 2) lv (vI n :: st) γ o) : SR Γ B mt R ce sl K pc lv st γ o := fun z hz p e s m args below meth c ls X hc hw hl hP => lv_bipush X.x X.b d hv (k z hz p e s m args below meth c ls X hc hw hl hP)
theorem sr_sipush {n : Int} (d : decode mt.2.1 pc = .ok (.sipush n, 3)) (hv : (Int16.ofInt n).toInt32 = iI n) (k : SR Γ B mt R ce sl K (pc + 3) lv (vI n :: st) γ o) : SR Γ B mt R ce sl K pc lv st γ o := fun z hz p e s m args below meth c ls X hc hw hl hP => lv_sipush X.x X.b d hv (k z hz p e s m args below meth c ls X hc hw hl hP)
theorem sr_ldc {index : Nat} {v : Int32} (n : Int) (ev : v = iI n) (hk : Cond.constant mt.1 index v ∈ gG) (d : decode mt.2.1 pc = .ok (.ldc index, 2)) (k : SR Γ B mt R ce sl K (pc + 2) lv (vI n :: st) γ o) : SR Γ B mt R ce sl K pc lv st γ o := fun z hz p e s m args below meth c ls X hc hw hl hP => lv_ldc X.x X.b X.own (X.G _ hk) d (by rw [ev]; exact k z hz p e s m args below meth c ls X hc hw hl hP)
theorem sr_ldcw {index : Nat} {v : Int32} (n : Int) (ev : v = iI n) (hk : Cond.constant mt.1 index v ∈ gG) (d : decode mt.2.1 pc = .ok (.ldc_w index, 3)) (k : SR Γ B mt R ce sl K (pc + 3) lv (vI n :: st) γ o) : SR Γ B mt R ce sl K pc lv st γ o := fun z hz p e s m args below meth c ls X hc hw hl hP => lv_ldcw X.x X.b X.own (X.G _ hk) d (by rw [ev]; exact k z hz p e s m args below meth c ls X hc hw hl hP)
theorem sr_iload {i : Nat} {x : Int32} (n : Nat) (d : decode mt.2.1 pc = .ok (.iload i, 2)) (h : lv[n]? = some (i, .int x)) (k : SR Γ B mt R ce sl K (pc + 2) lv (.int x :: st) γ o) : SR Γ B mt R ce sl K pc lv st γ o := fun z hz p e s m args below meth c ls X hc hw hl hP => lv_iload X.x X.b d (lv_at hl n h) (k z hz p e s m args below meth c ls X hc hw hl hP)
theorem sr_iload_n {q : Fin 4} {x : Int32} (n : Nat) (d : decode mt.2.1 pc = .ok (.iload_n q, 1)) (h : lv[n]? = some ((q : Nat), .int x)) (k : SR Γ B mt R ce sl K (pc + 1) lv (.int x :: st) γ o) : SR Γ B mt R ce sl K pc lv st γ o := fun z hz p e s m args below meth c ls X hc hw hl hP => lv_iload_n X.x X.b d rfl (lv_at hl n h) (k z hz p e s m args below meth c ls X hc hw hl hP)
theorem sr_lload {i : Nat} {x : Int64} (n : Nat) (d : decode mt.2.1 pc = .ok (.lload i, 2)) (h : lv[n]? = some (i, .long x)) (k : SR Γ B mt R ce sl K (pc + 2) lv (.long x :: st) γ o) : SR Γ B mt R ce sl K pc lv st γ o := fun z hz p e s m args below meth c ls X hc hw hl hP => lv_lload X.x X.b d (lv_at hl n h) (k z hz p e s m args below meth c ls X hc hw hl hP)
theorem sr_aload {i : Nat} {x : Nat} (n : Nat) (d : decode mt.2.1 pc = .ok (.aload i, 2)) (h : lv[n]? = some (i, .ref x)) (k : SR Γ B mt R ce sl K (pc + 2) lv (.ref x :: st) γ o) : SR Γ B mt R ce sl K pc lv st γ o := fun z hz p e s m args below meth c ls X hc hw hl hP => lv_aload X.x X.b d (lv_at hl n h) (k z hz p e s m args below meth c ls X hc hw hl hP)
theorem sr_aload_n {q : Fin 4} {x : Nat} (n : Nat) (d : decode mt.2.1 pc = .ok (.aload_n q, 1)) (h : lv[n]? = some ((q : Nat), .ref x)) (k : SR Γ B mt R ce sl K (pc + 1) lv (.ref x :: st) γ o) : SR Γ B mt R ce sl K pc lv st γ o := fun z hz p e s m args below meth c ls X hc hw hl hP => lv_aload_n X.x X.b d rfl (lv_at hl n h) (k z hz p e s m args below meth c ls X hc hw hl hP)
theorem sr_istore {i : Nat} {x : Int32} (lv' : List (Nat × Value)) (d : decode mt.2.1 pc = .ok (.istore i, 2)) (hn : i < mt.2.2.1) (hl' : (i, Value.int x) :: lv.filter (fun q => !(q.1 == i) && !(q.1 + 1 == i && q.2.category == 2)) = lv') (k : SR Γ B mt R ce sl K (pc + 2) lv' st γ o) : SR Γ B mt R ce sl K pc lv (.int x :: st) γ o := fun z hz p e s m args below meth c ls X hc hw hl hP => lv_istore X.x X.b d hl hn hl' (fun ls hl => k z hz p e s m args below meth c ls X hc hw hl hP)
theorem sr_istore_n {q : Fin 4} {x : Int32} (lv' : List (Nat × Value)) (d : decode mt.2.1 pc = .ok (.istore_n q, 1)) (hn : (q : Nat) < mt.2.2.1) (hl' : ((q : Nat), Value.int x) :: lv.filter (fun r => !(r.1 == (q : Nat)) && !(r.1 + 1 == (q : Nat) && r.2.category == 2)) = lv') (k : SR Γ B mt R ce sl K (pc + 1) lv' st γ o) : SR Γ B mt R ce sl K pc lv (.int x :: st) γ o := fun z hz p e s m args below meth c ls X hc hw hl hP => lv_istore_n X.x X.b d rfl hl hn hl' (fun ls hl => k z hz p e s m args below meth c ls X hc hw hl hP)
theorem sr_iinc {i : Nat} {n x : Int} (q : Nat) (lv' : List (Nat × Value)) (d : decode mt.2.1 pc = .ok (.iinc i n, 3)) (h : lv[q]? = some (i, vI x)) (hn : i < mt.2.2.1) (hl' : (i, vI (x + n)) :: lv.filter (fun q => !(q.1 == i) && !(q.1 + 1 == i && q.2.category == 2)) = lv') (k : SR Γ B mt R ce sl K (pc + 3) lv' st γ o) : SR Γ B mt R ce sl K pc lv st γ o := fun z hz p e s m args below meth c ls X hc hw hl hP => lv_iinc X.x X.b d hl h (Int32.ofInt_add x n).symm hn hl' (fun ls hl => k z hz p e s m args below meth c ls X hc hw hl hP)
theorem sr_iadd {x y : Int} (d : decode mt.2.1 pc = .ok (.iadd, 1)) (k : SR Γ B mt R ce sl K (pc + 1) lv (vI (x + y) :: st) γ o) : SR Γ B mt R ce sl K pc lv (vI y :: vI x :: st) γ o := fun z hz p e s m args below meth c ls X hc hw hl hP => lv_iadd X.x X.b d (by rw [show iI x + iI y = iI (x + y) from (Int32.ofInt_add x y).symm]; exact k z hz p e s m args below meth c ls X hc hw hl hP)
theorem sr_isub {x y : Int} (d : decode mt.2.1 pc = .ok (.isub, 1)) (k : SR Γ B mt R ce sl K (pc + 1) lv (vI (x - y) :: st) γ o) : SR Γ B mt R ce sl K pc lv (vI y :: vI x :: st) γ o := fun z hz p e s m args below meth c ls X hc hw hl hP => lv_isub X.x X.b d (by rw [show iI x - iI y = iI (x - y) from (Int32.ofInt_sub x y).symm]; exact k z hz p e s m args below meth c ls X hc hw hl hP)
theorem sr_imul {x y : Int} (d : decode mt.2.1 pc = .ok (.imul, 1)) (k : SR Γ B mt R ce sl K (pc + 1) lv (vI (x * y) :: st) γ o) : SR Γ B mt R ce sl K pc lv (vI y :: vI x :: st) γ o := fun z hz p e s m args below meth c ls X hc hw hl hP => lv_imul X.x X.b d (by rw [show iI x * iI y = iI (x * y) from (Int32.ofInt_mul x y).symm]; exact k z hz p e s m args below meth c ls X hc hw hl hP)
theorem sr_ineg {x : Int} (d : decode mt.2.1 pc = .ok (.ineg, 1)) (k : SR Γ B mt R ce sl K (pc + 1) lv (vI (-x) :: st) γ o) : SR Γ B mt R ce sl K pc lv (vI x :: st) γ o := fun z hz p e s m args below meth c ls X hc hw hl hP => lv_ineg X.x X.b d (by rw [show -iI x = iI (-x) from (Int32.ofInt_neg x).symm]; exact k z hz p e s m args below meth c ls X hc hw hl hP)
theorem sr_wr {x : Int} (k : SR Γ B mt R ce sl K pc lv (vI (wr x) :: st) γ o) : SR Γ B mt R ce sl K pc lv (vI x :: st) γ o := by
  have h : vI (wr x) = vI x := congrArg Value.int (iI_wr x)
  rw [← h]
  exact k
/-- any int as the whole number that it is -/
theorem sr_nm {x : Int32} (k : SR Γ B mt R ce sl K pc lv (vI x.toInt :: st) γ o) : SR Γ B mt R ce sl K pc lv (.int x :: st) γ o := by
  have h : vI x.toInt = .int x := congrArg Value.int (iI_of x)
  rw [← h]
  exact k
theorem sr_iand {x y : Int} (d : decode mt.2.1 pc = .ok (.iand, 1)) (k : SR Γ B mt R ce sl K (pc + 1) lv (vI (iand x y) :: st) γ o) : SR Γ B mt R ce sl K pc lv (vI y :: vI x :: st) γ o := fun z hz p e s m args below meth c ls X hc hw hl hP => lv_iand X.x X.b d (sr_nm k z hz p e s m args below meth c ls X hc hw hl hP)
theorem sr_ior {x y : Int} (d : decode mt.2.1 pc = .ok (.ior, 1)) (k : SR Γ B mt R ce sl K (pc + 1) lv (vI (ior x y) :: st) γ o) : SR Γ B mt R ce sl K pc lv (vI y :: vI x :: st) γ o := fun z hz p e s m args below meth c ls X hc hw hl hP => lv_ior X.x X.b d (sr_nm k z hz p e s m args below meth c ls X hc hw hl hP)
theorem sr_ixor {x y : Int} (d : decode mt.2.1 pc = .ok (.ixor, 1)) (k : SR Γ B mt R ce sl K (pc + 1) lv (vI (ixor x y) :: st) γ o) : SR Γ B mt R ce sl K pc lv (vI y :: vI x :: st) γ o := fun z hz p e s m args below meth c ls X hc hw hl hP => lv_ixor X.x X.b d (sr_nm k z hz p e s m args below meth c ls X hc hw hl hP)
theorem sr_ishr {x y : Int} (d : decode mt.2.1 pc = .ok (.ishr, 1)) (k : SR Γ B mt R ce sl K (pc + 1) lv (vI (ishr x y) :: st) γ o) : SR Γ B mt R ce sl K pc lv (vI y :: vI x :: st) γ o := fun z hz p e s m args below meth c ls X hc hw hl hP => lv_ishr X.x X.b d (sr_nm k z hz p e s m args below meth c ls X hc hw hl hP)
theorem sr_idiv {x y : Int} {inst : Decidable (y ≠ 0)} (hy : i32 y) (d : decode mt.2.1 pc = .ok (.idiv, 1)) (k : y ≠ 0 → SR Γ B mt R ce sl K (pc + 1) lv (vI (idiv x y) :: st) γ o) : SR Γ B mt R ce sl K pc lv (vI y :: vI x :: st) γ (@chk (y ≠ 0) ζ inst o) := sr_chk fun h z hz p e s m args below meth c ls X hc hw hl hP => lv_idiv X.x X.b d (fun q => h ((iI_eq hy (by decide : i32 0)).mp q)) (sr_nm (k h) z hz p e s m args below meth c ls X hc hw hl hP)
theorem sr_irem {x y : Int} {inst : Decidable (y ≠ 0)} (hy : i32 y) (d : decode mt.2.1 pc = .ok (.irem, 1)) (k : y ≠ 0 → SR Γ B mt R ce sl K (pc + 1) lv (vI (irem x y) :: st) γ o) : SR Γ B mt R ce sl K pc lv (vI y :: vI x :: st) γ (@chk (y ≠ 0) ζ inst o) := sr_chk fun h z hz p e s m args below meth c ls X hc hw hl hP => lv_irem X.x X.b d (fun q => h ((iI_eq hy (by decide : i32 0)).mp q)) (sr_nm (k h) z hz p e s m args below meth c ls X hc hw hl hP)
theorem sr_dup {v : Value} (d : decode mt.2.1 pc = .ok (.dup, 1)) (hv : v.category = 1) (k : SR Γ B mt R ce sl K (pc + 1) lv (v :: v :: st) γ o) : SR Γ B mt R ce sl K pc lv (v :: st) γ o := fun z hz p e s m args below meth c ls X hc hw hl hP => lv_dup X.x X.b d hv (k z hz p e s m args below meth c ls X hc hw hl hP)
theorem sr_pop {v : Value} (d : decode mt.2.1 pc = .ok (.pop, 1)) (hv : v.category = 1) (k : SR Γ B mt R ce sl K (pc + 1) lv st γ o) : SR Γ B mt R ce sl K pc lv (v :: st) γ o := fun z hz p e s m args below meth c ls X hc hw hl hP => lv_pop X.x X.b d hv (k z hz p e s m args below meth c ls X hc hw hl hP)
theorem sr_dup_x1 {v w : Value} (d : decode mt.2.1 pc = .ok (.dup_x1, 1)) (hv : v.category = 1) (hw' : w.category = 1) (k : SR Γ B mt R ce sl K (pc + 1) lv (v :: w :: v :: st) γ o) : SR Γ B mt R ce sl K pc lv (v :: w :: st) γ o := fun z hz p e s m args below meth c ls X hc hw hl hP => lv_dup_x1 X.x X.b d hv hw' (k z hz p e s m args below meth c ls X hc hw hl hP)
theorem sr_dup2 {v w : Value} (d : decode mt.2.1 pc = .ok (.dup2, 1)) (hv : v.category = 1) (hw' : w.category = 1) (k : SR Γ B mt R ce sl K (pc + 1) lv (v :: w :: v :: w :: st) γ o) : SR Γ B mt R ce sl K pc lv (v :: w :: st) γ o := fun z hz p e s m args below meth c ls X hc hw hl hP => lv_dup2_11 X.x X.b d hv hw' (k z hz p e s m args below meth c ls X hc hw hl hP)
theorem sr_goto {off : Int} (tgt : Nat) (d : decode mt.2.1 pc = .ok (.goto off, 3)) (ht : (pc : Int) + off = (tgt : Int)) (k : SR Γ B mt R ce sl K tgt lv st γ o) : SR Γ B mt R ce sl K pc lv st γ o := fun z hz p e s m args below meth c ls X hc hw hl hP => lv_goto X.x X.b d ht (k z hz p e s m args below meth c ls X hc hw hl hP)
theorem sr_icmp_eq {x y : Int} {off : Int} {inst : Decidable (x = y)} {o1 o2 : Option ζ} (tgt : Nat) (hx : i32 x) (hy : i32 y) (d : decode mt.2.1 pc = .ok (.if_icmp .eq off, 3)) (ht : (pc : Int) + off = (tgt : Int)) (kt : x = y → SR Γ B mt R ce sl K tgt lv st γ o1) (kf : ¬ (x = y) → SR Γ B mt R ce sl K (pc + 3) lv st γ o2) : SR Γ B mt R ce sl K pc lv (vI y :: vI x :: st) γ (@ite _ (x = y) inst o1 o2) := fun z hz p e s m args below meth c ls X hc hw hl hP => by
  by_cases q : x = y
  · rw [if_pos q] at hz
    exact lv_icmp_eq X.x X.b d ht (fun _ => kt q z hz p e s m args below meth c ls X hc hw hl hP) (fun w => absurd ((iI_eq hx hy).mpr q) w)
  · rw [if_neg q] at hz
    exact lv_icmp_eq X.x X.b d ht (fun w => absurd ((iI_eq hx hy).mp w) q) (fun _ => kf q z hz p e s m args below meth c ls X hc hw hl hP)
theorem sr_if_eq {x : Int} {off : Int} {inst : Decidable (x = 0)} {o1 o2 : Option ζ} (tgt : Nat) (hx : i32 x) (d : decode mt.2.1 pc = .ok (.ifCond .eq off, 3)) (ht : (pc : Int) + off = (tgt : Int)) (kt : x = 0 → SR Γ B mt R ce sl K tgt lv st γ o1) (kf : ¬ (x = 0) → SR Γ B mt R ce sl K (pc + 3) lv st γ o2) : SR Γ B mt R ce sl K pc lv (vI x :: st) γ (@ite _ (x = 0) inst o1 o2) := fun z hz p e s m args below meth c ls X hc hw hl hP => by
  by_cases q : x = 0
  · rw [if_pos q] at hz
    exact lv_if_eq X.x X.b d ht (fun _ => kt q z hz p e s m args below meth c ls X hc hw hl hP) (fun w => absurd ((iI_eq hx (by decide : i32 0)).mpr q) w)
  · rw [if_neg q] at hz
    exact lv_if_eq X.x X.b d ht (fun w => absurd ((iI_eq hx (by decide : i32 0)).mp w) q) (fun _ => kf q z hz p e s m args below meth c ls X hc hw hl hP)
theorem sr_icmp_ne {x y : Int} {off : Int} {inst : Decidable (x ≠ y)} {o1 o2 : Option ζ} (tgt : Nat) (hx : i32 x) (hy : i32 y) (d : decode mt.2.1 pc = .ok (.if_icmp .ne off, 3)) (ht : (pc : Int) + off = (tgt : Int)) (kt : x ≠ y → SR Γ B mt R ce sl K tgt lv st γ o1) (kf : ¬ (x ≠ y) → SR Γ B mt R ce sl K (pc + 3) lv st γ o2) : SR Γ B mt R ce sl K pc lv (vI y :: vI x :: st) γ (@ite _ (x ≠ y) inst o1 o2) := fun z hz p e s m args below meth c ls X hc hw hl hP => by
  by_cases q : x ≠ y
  · rw [if_pos q] at hz
    exact lv_icmp_ne X.x X.b d ht (fun _ => kt q z hz p e s m args below meth c ls X hc hw hl hP) (fun w => absurd ((iI_eq hx hy).mp w) q)
  · rw [if_neg q] at hz
    exact lv_icmp_ne X.x X.b d ht (fun w => absurd ((iI_eq hx hy).mpr (Classical.byContradiction q)) w) (fun _ => kf q z hz p e s m args below meth c ls X hc hw hl hP)
theorem sr_if_ne {x : Int} {off : Int} {inst : Decidable (x ≠ 0)} {o1 o2 : Option ζ} (tgt : Nat) (hx : i32 x) (d : decode mt.2.1 pc = .ok (.ifCond .ne off, 3)) (ht : (pc : Int) + off = (tgt : Int)) (kt : x ≠ 0 → SR Γ B mt R ce sl K tgt lv st γ o1) (kf : ¬ (x ≠ 0) → SR Γ B mt R ce sl K (pc + 3) lv st γ o2) : SR Γ B mt R ce sl K pc lv (vI x :: st) γ (@ite _ (x ≠ 0) inst o1 o2) := fun z hz p e s m args below meth c ls X hc hw hl hP => by
  by_cases q : x ≠ 0
  · rw [if_pos q] at hz
    exact lv_if_ne X.x X.b d ht (fun _ => kt q z hz p e s m args below meth c ls X hc hw hl hP) (fun w => absurd ((iI_eq hx (by decide : i32 0)).mp w) q)
  · rw [if_neg q] at hz
    exact lv_if_ne X.x X.b d ht (fun w => absurd ((iI_eq hx (by decide : i32 0)).mpr (Classical.byContradiction q)) w) (fun _ => kf q z hz p e s m args below meth c ls X hc hw hl hP)
theorem sr_icmp_lt {x y : Int} {off : Int} {inst : Decidable (x < y)} {o1 o2 : Option ζ} (tgt : Nat) (hx : i32 x) (hy : i32 y) (d : decode mt.2.1 pc = .ok (.if_icmp .lt off, 3)) (ht : (pc : Int) + off = (tgt : Int)) (kt : x < y → SR Γ B mt R ce sl K tgt lv st γ o1) (kf : ¬ (x < y) → SR Γ B mt R ce sl K (pc + 3) lv st γ o2) : SR Γ B mt R ce sl K pc lv (vI y :: vI x :: st) γ (@ite _ (x < y) inst o1 o2) := fun z hz p e s m args below meth c ls X hc hw hl hP => by
  by_cases q : x < y
  · rw [if_pos q] at hz
    exact lv_icmp_lt X.x X.b d ht (fun _ => kt q z hz p e s m args below meth c ls X hc hw hl hP) (fun w => absurd ((iI_lt hx hy).mpr q) w)
  · rw [if_neg q] at hz
    exact lv_icmp_lt X.x X.b d ht (fun w => absurd ((iI_lt hx hy).mp w) q) (fun _ => kf q z hz p e s m args below meth c ls X hc hw hl hP)
theorem sr_if_lt {x : Int} {off : Int} {inst : Decidable (x < 0)} {o1 o2 : Option ζ} (tgt : Nat) (hx : i32 x) (d : decode mt.2.1 pc = .ok (.ifCond .lt off, 3)) (ht : (pc : Int) + off = (tgt : Int)) (kt : x < 0 → SR Γ B mt R ce sl K tgt lv st γ o1) (kf : ¬ (x < 0) → SR Γ B mt R ce sl K (pc + 3) lv st γ o2) : SR Γ B mt R ce sl K pc lv (vI x :: st) γ (@ite _ (x < 0) inst o1 o2) := fun z hz p e s m args below meth c ls X hc hw hl hP => by
  by_cases q : x < 0
  · rw [if_pos q] at hz
    exact lv_if_lt X.x X.b d ht (fun _ => kt q z hz p e s m args below meth c ls X hc hw hl hP) (fun w => absurd ((iI_lt hx (by decide : i32 0)).mpr q) w)
  · rw [if_neg q] at hz
    exact lv_if_lt X.x X.b d ht (fun w => absurd ((iI_lt hx (by decide : i32 0)).mp w) q) (fun _ => kf q z hz p e s m args below meth c ls X hc hw hl hP)
theorem sr_icmp_ge {x y : Int} {off : Int} {inst : Decidable (y ≤ x)} {o1 o2 : Option ζ} (tgt : Nat) (hx : i32 x) (hy : i32 y) (d : decode mt.2.1 pc = .ok (.if_icmp .ge off, 3)) (ht : (pc : Int) + off = (tgt : Int)) (kt : y ≤ x → SR Γ B mt R ce sl K tgt lv st γ o1) (kf : ¬ (y ≤ x) → SR Γ B mt R ce sl K (pc + 3) lv st γ o2) : SR Γ B mt R ce sl K pc lv (vI y :: vI x :: st) γ (@ite _ (y ≤ x) inst o1 o2) := fun z hz p e s m args below meth c ls X hc hw hl hP => by
  by_cases q : y ≤ x
  · rw [if_pos q] at hz
    exact lv_icmp_ge X.x X.b d ht (fun _ => kt q z hz p e s m args below meth c ls X hc hw hl hP) (fun w => absurd ((iI_le hy hx).mpr q) w)
  · rw [if_neg q] at hz
    exact lv_icmp_ge X.x X.b d ht (fun w => absurd ((iI_le hy hx).mp w) q) (fun _ => kf q z hz p e s m args below meth c ls X hc hw hl hP)
theorem sr_if_ge {x : Int} {off : Int} {inst : Decidable (0 ≤ x)} {o1 o2 : Option ζ} (tgt : Nat) (hx : i32 x) (d : decode mt.2.1 pc = .ok (.ifCond .ge off, 3)) (ht : (pc : Int) + off = (tgt : Int)) (kt : 0 ≤ x → SR Γ B mt R ce sl K tgt lv st γ o1) (kf : ¬ (0 ≤ x) → SR Γ B mt R ce sl K (pc + 3) lv st γ o2) : SR Γ B mt R ce sl K pc lv (vI x :: st) γ (@ite _ (0 ≤ x) inst o1 o2) := fun z hz p e s m args below meth c ls X hc hw hl hP => by
  by_cases q : 0 ≤ x
  · rw [if_pos q] at hz
    exact lv_if_ge X.x X.b d ht (fun _ => kt q z hz p e s m args below meth c ls X hc hw hl hP) (fun w => absurd ((iI_le (by decide : i32 0) hx).mpr q) w)
  · rw [if_neg q] at hz
    exact lv_if_ge X.x X.b d ht (fun w => absurd ((iI_le (by decide : i32 0) hx).mp w) q) (fun _ => kf q z hz p e s m args below meth c ls X hc hw hl hP)
theorem sr_icmp_gt {x y : Int} {off : Int} {inst : Decidable (y < x)} {o1 o2 : Option ζ} (tgt : Nat) (hx : i32 x) (hy : i32 y) (d : decode mt.2.1 pc = .ok (.if_icmp .gt off, 3)) (ht : (pc : Int) + off = (tgt : Int)) (kt : y < x → SR Γ B mt R ce sl K tgt lv st γ o1) (kf : ¬ (y < x) → SR Γ B mt R ce sl K (pc + 3) lv st γ o2) : SR Γ B mt R ce sl K pc lv (vI y :: vI x :: st) γ (@ite _ (y < x) inst o1 o2) := fun z hz p e s m args below meth c ls X hc hw hl hP => by
  by_cases q : y < x
  · rw [if_pos q] at hz
    exact lv_icmp_gt X.x X.b d ht (fun _ => kt q z hz p e s m args below meth c ls X hc hw hl hP) (fun w => absurd ((iI_lt hy hx).mpr q) w)
  · rw [if_neg q] at hz
    exact lv_icmp_gt X.x X.b d ht (fun w => absurd ((iI_lt hy hx).mp w) q) (fun _ => kf q z hz p e s m args below meth c ls X hc hw hl hP)
theorem sr_if_gt {x : Int} {off : Int} {inst : Decidable (0 < x)} {o1 o2 : Option ζ} (tgt : Nat) (hx : i32 x) (d : decode mt.2.1 pc = .ok (.ifCond .gt off, 3)) (ht : (pc : Int) + off = (tgt : Int)) (kt : 0 < x → SR Γ B mt R ce sl K tgt lv st γ o1) (kf : ¬ (0 < x) → SR Γ B mt R ce sl K (pc + 3) lv st γ o2) : SR Γ B mt R ce sl K pc lv (vI x :: st) γ (@ite _ (0 < x) inst o1 o2) := fun z hz p e s m args below meth c ls X hc hw hl hP => by
  by_cases q : 0 < x
  · rw [if_pos q] at hz
    exact lv_if_gt X.x X.b d ht (fun _ => kt q z hz p e s m args below meth c ls X hc hw hl hP) (fun w => absurd ((iI_lt (by decide : i32 0) hx).mpr q) w)
  · rw [if_neg q] at hz
    exact lv_if_gt X.x X.b d ht (fun w => absurd ((iI_lt (by decide : i32 0) hx).mp w) q) (fun _ => kf q z hz p e s m args below meth c ls X hc hw hl hP)
theorem sr_icmp_le {x y : Int} {off : Int} {inst : Decidable (x ≤ y)} {o1 o2 : Option ζ} (tgt : Nat) (hx : i32 x) (hy : i32 y) (d : decode mt.2.1 pc = .ok (.if_icmp .le off, 3)) (ht : (pc : Int) + off = (tgt : Int)) (kt : x ≤ y → SR Γ B mt R ce sl K tgt lv st γ o1) (kf : ¬ (x ≤ y) → SR Γ B mt R ce sl K (pc + 3) lv st γ o2) : SR Γ B mt R ce sl K pc lv (vI y :: vI x :: st) γ (@ite _ (x ≤ y) inst o1 o2) := fun z hz p e s m args below meth c ls X hc hw hl hP => by
  by_cases q : x ≤ y
  · rw [if_pos q] at hz
    exact lv_icmp_le X.x X.b d ht (fun _ => kt q z hz p e s m args below meth c ls X hc hw hl hP) (fun w => absurd ((iI_le hx hy).mpr q) w)
  · rw [if_neg q] at hz
    exact lv_icmp_le X.x X.b d ht (fun w => absurd ((iI_le hx hy).mp w) q) (fun _ => kf q z hz p e s m args below meth c ls X hc hw hl hP)
theorem sr_if_le {x : Int} {off : Int} {inst : Decidable (x ≤ 0)} {o1 o2 : Option ζ} (tgt : Nat) (hx : i32 x) (d : decode mt.2.1 pc = .ok (.ifCond .le off, 3)) (ht : (pc : Int) + off = (tgt : Int)) (kt : x ≤ 0 → SR Γ B mt R ce sl K tgt lv st γ o1) (kf : ¬ (x ≤ 0) → SR Γ B mt R ce sl K (pc + 3) lv st γ o2) : SR Γ B mt R ce sl K pc lv (vI x :: st) γ (@ite _ (x ≤ 0) inst o1 o2) := fun z hz p e s m args below meth c ls X hc hw hl hP => by
  by_cases q : x ≤ 0
  · rw [if_pos q] at hz
    exact lv_if_le X.x X.b d ht (fun _ => kt q z hz p e s m args below meth c ls X hc hw hl hP) (fun w => absurd ((iI_le hx (by decide : i32 0)).mpr q) w)
  · rw [if_neg q] at hz
    exact lv_if_le X.x X.b d ht (fun w => absurd ((iI_le hx (by decide : i32 0)).mp w) q) (fun _ => kf q z hz p e s m args below meth c ls X hc hw hl hP)
/-- switches: a case, the rest -/
theorem sr_tc {x dflt lo hi off : Int} {offs : Array Int} {len : Nat} {o1 o2 : Option ζ} (q : Int) {inst : Decidable (x = q)} (tgt : Nat) (hx : i32 x) (d : decode mt.2.1 pc = .ok (.tableswitch dflt lo hi offs, len)) (h : ¬ q < lo ∧ ¬ hi < q ∧ offs[(q - lo).toNat]? = some off) (ht : (pc : Int) + off = (tgt : Int)) (kt : x = q → SR Γ B mt R ce sl K tgt lv st γ o1) (kf : ¬ x = q → SR Γ B mt R ce sl K pc lv (vI x :: st) γ o2) : SR Γ B mt R ce sl K pc lv (vI x :: st) γ (@ite _ (x = q) inst o1 o2) := fun z hz p e s m args below meth c ls X hc hw hl hP => by
  by_cases w : x = q
  · rw [if_pos w] at hz
    have e1 : (iI x).toInt = q := (iI_toInt hx).trans w
    exact lv_tableIn X.x X.b d (by rw [e1]; exact h.1) (by rw [e1]; exact h.2.1) (by rw [e1]; exact h.2.2) ht (kt w z hz p e s m args below meth c ls X hc hw hl hP)
  · rw [if_neg w] at hz
    exact kf w z hz p e s m args below meth c ls X hc hw hl hP
theorem sr_td {x dflt lo hi : Int} {offs : Array Int} {len : Nat} (tgt : Nat) (hx : i32 x) (d : decode mt.2.1 pc = .ok (.tableswitch dflt lo hi offs, len)) (h : x < lo ∨ hi < x) (ht : (pc : Int) + dflt = (tgt : Int)) (k : SR Γ B mt R ce sl K tgt lv st γ o) : SR Γ B mt R ce sl K pc lv (vI x :: st) γ o := fun z hz p e s m args below meth c ls X hc hw hl hP =>
  lv_tableOut X.x X.b d (by rw [iI_toInt hx]; exact h) ht (k z hz p e s m args below meth c ls X hc hw hl hP)
theorem sr_lc {x dflt : Int} {off : Int} {ps : Array (Int × Int)} {len : Nat} {o1 o2 : Option ζ} (q : Int) {inst : Decidable (x = q)} (tgt : Nat) (hx : i32 x) (d : decode mt.2.1 pc = .ok (.lookupswitch dflt ps, len)) (h : (ps.toList.zip (ps.toList.drop 1)).all (fun (a, next) => a.1 < next.1) = true ∧ Op.lookupswitch.offset ps.toList dflt q = off) (ht : (pc : Int) + off = (tgt : Int)) (kt : x = q → SR Γ B mt R ce sl K tgt lv st γ o1) (kf : ¬ x = q → SR Γ B mt R ce sl K pc lv (vI x :: st) γ o2) : SR Γ B mt R ce sl K pc lv (vI x :: st) γ (@ite _ (x = q) inst o1 o2) := fun z hz p e s m args below meth c ls X hc hw hl hP => by
  by_cases w : x = q
  · rw [if_pos w] at hz
    have e1 : (iI x).toInt = q := (iI_toInt hx).trans w
    exact lv_lookup X.x X.b d h.1 (by rw [e1]; exact h.2) ht (kt w z hz p e s m args below meth c ls X hc hw hl hP)
  · rw [if_neg w] at hz
    exact kf w z hz p e s m args below meth c ls X hc hw hl hP
theorem sr_ld {x dflt : Int} {ps : Array (Int × Int)} {len : Nat} (tgt : Nat) (hx : i32 x) (d : decode mt.2.1 pc = .ok (.lookupswitch dflt ps, len)) (h : (ps.toList.zip (ps.toList.drop 1)).all (fun (a, next) => a.1 < next.1) = true) (hq : ∀ q ∈ ps.toList, x ≠ q.1) (ht : (pc : Int) + dflt = (tgt : Int)) (k : SR Γ B mt R ce sl K tgt lv st γ o) : SR Γ B mt R ce sl K pc lv (vI x :: st) γ o := fun z hz p e s m args below meth c ls X hc hw hl hP =>
  lv_lookup X.x X.b d h (by rw [iI_toInt hx]; exact lk_dflt hq) ht (k z hz p e s m args below meth c ls X hc hw hl hP)
theorem sr_get {j ci N index : Nat} {ks : List Nat} {C : String} {T : u_T} {ty : Nat → FieldType} (F : KF ci C T N ty) (k : Nat) (hj : B[j]? = some (.inr (ci, ks))) (hk : ks[k]? = some 0) (hN : k < N) (hlink : Cond.fieldLink mt.1 index (T k).1 (T k).2.1 (T k).2.2.1 ∈ gG) (d : decode mt.2.1 pc = .ok (.getfield index, 3))
    (kk : i32 (γ j k) → SR Γ B mt R ce sl K (pc + 3) lv (vI (γ j k) :: st) γ o) : SR Γ B mt R ce sl K pc lv (vR Γ j :: st) γ o := fun z hz p e s m args below meth c ls X hc hw hl hP =>
  va_get X.x X.b X.G F.2.1 X.own X.K hP j (wB_at hj) F.1 k hN (X.G _ hlink) (fun _ h => h) (fvals_get hk) d (by
    have h : i32 (γ j k) := hw j k (by unfold lgB; rw [hj])
    simp only [Nat.zero_add]
    exact kk h z hz p e s m args below meth c ls X hc hw hl hP)
theorem sr_getR {j r ci N index : Nat} {ks : List Nat} {C : String} {T : u_T} {ty : Nat → FieldType} (F : KF ci C T N ty) (k : Nat) (hj : B[j]? = some (.inr (ci, ks))) (hk : ks[k]? = some (r + 1)) (hN : k < N) (hlink : Cond.fieldLink mt.1 index (T k).1 (T k).2.1 (T k).2.2.1 ∈ gG) (d : decode mt.2.1 pc = .ok (.getfield index, 3))
    (kk : SR Γ B mt R ce sl K (pc + 3) lv (vR Γ r :: st) γ o) : SR Γ B mt R ce sl K pc lv (vR Γ j :: st) γ o := fun z hz p e s m args below meth c ls X hc hw hl hP =>
  va_get X.x X.b X.G F.2.1 X.own X.K hP j (wB_at hj) F.1 k hN (X.G _ hlink) (fun _ h => h) (fvals_get hk) d (kk z hz p e s m args below meth c ls X hc hw hl hP)
theorem sr_iald {j n : Nat} {i : Int} {n0 : Int} {inst : Decidable (inb i n0)} (hj : B[j]? = some (.inl (0, n))) (hq : (n : Int) = n0) (hn : n < 2 ^ 31) (d : decode mt.2.1 pc = .ok (.iaload, 1)) (kk : inb i n0 → i32 (γ j i) → SR Γ B mt R ce sl K (pc + 1) lv (vI (γ j i) :: st) γ o) : SR Γ B mt R ce sl K pc lv (vI i :: vR Γ j :: st) γ (@chk (inb i n0) ζ inst o) := by
  subst hq
  exact sr_chk fun hi z hz p e s m args below meth c ls X hc hw hl hP =>
  va_iald X.x X.b X.K hP j 0 (wB_ati hj (by decide)) rfl (iI_in hi hn) d (by rw [iI_clamp (z := i) (by omega)]; exact kk hi (hw j i (lgB_f hj (by decide))) z hz p e s m args below meth c ls X hc hw hl hP)
theorem sr_bald {j n : Nat} {i : Int} {n0 : Int} {inst : Decidable (inb i n0)} (hj : B[j]? = some (.inl (1, n))) (hq : (n : Int) = n0) (hn : n < 2 ^ 31) (d : decode mt.2.1 pc = .ok (.baload, 1)) (kk : inb i n0 → i32 (γ j i) → SR Γ B mt R ce sl K (pc + 1) lv (vI (γ j i) :: st) γ o) : SR Γ B mt R ce sl K pc lv (vI i :: vR Γ j :: st) γ (@chk (inb i n0) ζ inst o) := by
  subst hq
  exact sr_chk fun hi z hz p e s m args below meth c ls X hc hw hl hP =>
  va_bald X.x X.b X.K hP j 1 (wB_ati hj (by decide)) rfl (iI_in hi hn) d (by rw [iI_clamp (z := i) (by omega)]; exact kk hi (hw j i (lgB_f hj (by decide))) z hz p e s m args below meth c ls X hc hw hl hP)
theorem sr_zald {j n : Nat} {i : Int} {n0 : Int} {inst : Decidable (inb i n0)} (hj : B[j]? = some (.inl (3, n))) (hq : (n : Int) = n0) (hn : n < 2 ^ 31) (d : decode mt.2.1 pc = .ok (.baload, 1)) (kk : inb i n0 → i32 (γ j i) → SR Γ B mt R ce sl K (pc + 1) lv (vI (γ j i) :: st) γ o) : SR Γ B mt R ce sl K pc lv (vI i :: vR Γ j :: st) γ (@chk (inb i n0) ζ inst o) := by
  subst hq
  exact sr_chk fun hi z hz p e s m args below meth c ls X hc hw hl hP =>
  va_zald X.x X.b X.K hP j 3 (wB_ati hj (by decide)) rfl (iI_in hi hn) d (by rw [iI_clamp (z := i) (by omega)]; exact kk hi (hw j i (lgB_f hj (by decide))) z hz p e s m args below meth c ls X hc hw hl hP)
theorem sr_lald {j n : Nat} {i : Int} {n0 : Int} {inst : Decidable (inb i n0)} (hj : B[j]? = some (.inl (2, n))) (hq : (n : Int) = n0) (hn : n < 2 ^ 31) (d : decode mt.2.1 pc = .ok (.laload, 1)) (kk : inb i n0 → SR Γ B mt R ce sl K (pc + 1) lv (.long (iL (γ j i)) :: st) γ o) : SR Γ B mt R ce sl K pc lv (vI i :: vR Γ j :: st) γ (@chk (inb i n0) ζ inst o) := by
  subst hq
  exact sr_chk fun hi z hz p e s m args below meth c ls X hc hw hl hP =>
  va_lald X.x X.b X.K hP j 2 (wB_atl hj) rfl (iI_in hi hn) d (by rw [iI_clamp (z := i) (by omega)]; exact kk hi z hz p e s m args below meth c ls X hc hw hl hP)
theorem sr_nme {b : Int → Option ζ} {e : Int} (lw : Int → List (Nat × Value)) (he : i32 e) (k : ∀ x, i32 x → SR Γ B mt R ce sl K pc (lw x) st γ (b x)) : SR Γ B mt R ce sl K pc (lw e) st γ (ap e b) := k e he
def bndR {ζ : Type} (o : Option (Int × St)) (k : Int → Option ζ) : Option ζ := match o with
  | none => none
  | some z => if z.1 = 0 ∨ z.1 = 1 then k z.1 else none
def KRd : Kd (Int × St) := fun below args s z => MQ below (QcRead (iI z.1)) args s 0 0 (fun _ => False)
def exN (n : Nat) : String := if n = 1 then "java/lang/IllegalStateException" else if n = 2 then "java/lang/IllegalArgumentException" else "java/util/NoSuchElementException"
def KX : Kd (Nat × St) := fun below args s z => xt_MQ below s (exN z.1) xt_same (fun _ => False) 1 6
abbrev RmX (fr lo : Nat) : Room := { frames := fr, cells := 1, slots := 6, locals := lo }
def RC (Γ : Ctx) (B : Tb) (y : MethodName) (mt : MT) (fr lo : Nat) (av : List Value) (γ : St) (o : Option (Int × St)) : Prop := ∀ z, o = some z → WB B γ → ∀ sz, Met Γ.l y (Cond.code y mt.2.1 mt.2.2.1 mt.2.2.2 :: gG) (RmN fr lo) (va_Pc av (mPre Γ B γ sz)) (QcRead (iI z.1)) 0 0 (fun _ => False)
def XC (Γ : Ctx) (B : Tb) (y : MethodName) (mt : MT) (fr lo : Nat) (av : List Value) (γ : St) (o : Option (Nat × St)) : Prop := ∀ z, o = some z → WB B γ → ∀ sz, xt_Met Γ.l y (Cond.code y mt.2.1 mt.2.2.1 mt.2.2.2 :: gG) (RmX fr lo) (va_Pc av (mPre Γ B γ sz)) (exN z.1) xt_same (fun _ => False) 1 6
theorem rc_of {y : MethodName} {fr lo : Nat} {av : List Value} {o : Option (Int × St)} (hy : plainName y.cls = true) (hc : y.cls = mt.1) (hlen : (lg_sl av).length ≤ mt.2.2.1) (k : SR Γ B mt (RmN fr lo) 0 0 KRd 0 (lv_args 0 av) [] γ o) : RC Γ B y mt fr lo av γ o := by
  intro z hz hw sz
  refine Met.ofW (cc := mt.2.1) (maxL := mt.2.2.1) (ret := mt.2.2.2) hy rfl ?_
  intro p e s m args below meth c s₁ B1 hml hv
  obtain ⟨rfl, hsz, hP, hK, hnd, hE⟩ := hv
  have hts := atoms_spec (ws := Cond.code y mt.2.1 mt.2.2.1 mt.2.2.2 :: gG) B1.pre
  have hnt := B1.noHandlers (hts _ List.mem_cons_self)
  have hG : ∀ w9 ∈ gG, w9.before av.toArray s = true := fun w9 h => hts w9 (List.mem_cons_of_mem _ h)
  have hown : s.vm.findClass mt.1 = some m.cls := hc ▸ findClass_of_methodNamed B1.named
  subst hsz
  have hl := lv_entry av (n := mt.2.2.1) hlen
  rw [lg_entry_eq]
  generalize (lg_sl av ++ List.replicate (mt.2.2.1 - (lg_sl av).length) Slot.unset).toArray = ls at hl ⊢
  exact k z hz p e s m _ below meth c ls ⟨B1.exec, B1.bytes, hml, hown, hG, hK, hnd, hE, B1.returns, B1.notSynchronized, fun _ => hnt, fun h => absurd (show (9 : Nat) ≤ 0 from h) (by decide), wB_ns hP⟩ ⟨Nat.zero_le _, Nat.zero_le _⟩ hw hl hP
theorem xc_of {y : MethodName} {fr lo : Nat} {av : List Value} {o : Option (Nat × St)} (hy : plainName y.cls = true) (hc : y.cls = mt.1) (hlen : (lg_sl av).length ≤ mt.2.2.1) (k : SR Γ B mt (RmX fr lo) 0 0 KX 0 (lv_args 0 av) [] γ o) : XC Γ B y mt fr lo av γ o := by
  intro z hz hw sz
  refine xt_ofW (cc := mt.2.1) (maxL := mt.2.2.1) (ret := mt.2.2.2) hy rfl ?_
  intro p e s m args below meth c s₁ B1 hml hv
  obtain ⟨rfl, hsz, hP, hK, hnd, hE⟩ := hv
  have hts := atoms_spec (ws := Cond.code y mt.2.1 mt.2.2.1 mt.2.2.2 :: gG) B1.pre
  have hnt := B1.noHandlers (hts _ List.mem_cons_self)
  have hG : ∀ w9 ∈ gG, w9.before av.toArray s = true := fun w9 h => hts w9 (List.mem_cons_of_mem _ h)
  have hown : s.vm.findClass mt.1 = some m.cls := hc ▸ findClass_of_methodNamed B1.named
  subst hsz
  have hl := lv_entry av (n := mt.2.2.1) hlen
  rw [lg_entry_eq]
  generalize (lg_sl av ++ List.replicate (mt.2.2.1 - (lg_sl av).length) Slot.unset).toArray = ls at hl ⊢
  exact k z hz p e s m _ below meth c ls ⟨B1.exec, B1.bytes, hml, hown, hG, hK, hnd, hE, B1.returns, B1.notSynchronized, fun _ => hnt, fun h => absurd (show (9 : Nat) ≤ 6 from h) (by decide), wB_ns hP⟩ ⟨Nat.zero_le _, Nat.zero_le _⟩ hw hl hP
theorem srd_z {r : Int} (hr : mt.2.2.2 = some .boolean) (h : r = 0 ∨ r = 1) (d : decode mt.2.1 pc = .ok (.ireturn, 1)) : SR Γ B mt R 0 0 KRd pc lv [vI r] γ (some (r, γ)) := fun z hz p e s m args below meth c ls X hc hw hl hP => by
  cases hz
  have hlk := X.lk
  exact W.zret X.x X.b (X.rt.trans hr) (by rcases h with rfl | rfl <;> rfl) (fun t ht _ => ⟨rfl, ht⟩) (fun q h => by cases h) d
theorem sr_call {y : MethodName} {mu : MT} {fr lo j ci n index : Nat} {ks : List Nat} {As st0 : List Value} {o1 : Option (Int × St)} {k : Int → Option ζ} (F : VF y mu ci n) (hC : RC Γ B y mu fr lo (.ref (Γ.a j) :: As) γ o1) (hj : B[j]? = some (.inr (ci, ks))) (hm : Cond.methodLink mt.1 index y ∈ gG) (hn : As.length = n) (hst : st0 = As.reverse ++ vR Γ j :: st) (hW : (st.map fun v => v.category).sum ≤ 8) (hR : fr + 1 ≤ R.frames ∧ 8 + (mu.2.2.1 + 11) + lo ≤ R.locals) (d : decode mt.2.1 pc = .ok (.invokevirtual index, 3))
    (kk : ∀ r, (r = 0 ∨ r = 1) → SR Γ B mt R ce sl K (pc + 3) lv (vI r :: st) γ (k r)) : SR Γ B mt R ce sl K pc lv st0 γ (bndR o1 k) := fun z hz p e s m args below meth c ls X hc hw hl hP => by
  obtain ⟨f1, f2, f3, f4, f5, T, N, f6⟩ := F
  cases ho : o1 with
  | none => rw [ho] at hz; cases hz
  | some z1 =>
    rw [ho] at hz
    have hz : (if z1.1 = 0 ∨ z1.1 = 1 then k z1.1 else none) = some z := hz
    by_cases q : z1.1 = 0 ∨ z1.1 = 1
    · rw [if_pos q] at hz
      have hM := hC z1 ho hw s.heap.size
      exact W.callR (W.runV (As := As) (rest := st) (g := F0 m pc ls st0) (b := Γ.a j) (C := mu.1) ⟨X.x, X.b, X.ml, X.own, X.G⟩ hM (gcV n gG_good X.G hm f1 f2 f3 f4 rfl rfl f5 hR)
        ⟨mPre_blind, va_recv X.K hP f6 (wB_at hj), fun U hU hW => ⟨rfl, mPre_U X hP va_S.rf U hU hW⟩⟩ rfl hn hl.1 hst (lv_room (m := m) (pc := pc) (ls := ls) (rest := st0) hW) d hc) (kk z1.1 q z hz p e s m args below meth c ls X hc hw hl hP)
    · rw [if_neg q] at hz
      cases hz
/-- throw new E() -/
theorem sr_thr {fr lo n ic ik : Nat} {E : String} (hno : Γ.l.stackTraces = false) (hM : mt.1 = R_S) (hE : exN n = E) (hfit : Bundle.fit E = true) (hoa : ∀ {A : Nat → Prop} {args : Array Value} {s : State}, (∀ w ∈ gG, w.before args s = true) → xs_P A s s.heap → ∀ a ∈ Bundle.ownAtoms0 "StreamNodes" ic E ["java/lang/RuntimeException", "java/lang/Exception"], a.before args s = true) (hcl : Cond.classLink R_S ik E ∈ gG) (hin : Cond.initialized E ∈ gG) (hR : 6 ≤ fr ∧ 240 ≤ lo) (d0 : decode mt.2.1 pc = .ok (.new ik, 3)) (d1 : decode mt.2.1 (pc + 3) = .ok (.dup, 1)) (d2 : decode mt.2.1 (pc + 4) = .ok (.invokespecial ic, 3)) (d3 : decode mt.2.1 (pc + 7) = .ok (.athrow, 1)) : SR Γ B mt (RmX fr lo) 0 0 KX pc lv [] γ (some (n, γ)) := fun z hz p e s m args below meth c ls X hc hw hl hP => by
  cases hz
  subst hE
  have hown : s.vm.findClass R_S = some m.cls := hM ▸ X.own
  exact xt_throw0 (A := fun _ => True) (names := ["java/lang/RuntimeException", "java/lang/Exception"]) X.x X.b hno hown hfit (by decide) (hoa X.G X.E.1) (X.G _ hcl) (X.G _ hin) (xt_none (X.nt (show (6 : Nat) < 9 by decide))) X.lk (X.ml.trans hl.1.symm) va_S.rf d0 d1 d2 d3 (Nat.le_refl _) (Nat.le_refl _) (show 2 + 3 < fr by omega) (show 1 + (13 * (2 + 1) + 41) ≤ lo by omega)
end SR
