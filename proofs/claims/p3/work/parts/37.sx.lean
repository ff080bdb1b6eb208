/-! stretches of code: what the program that writes functions needs beside -/
def FU : Nat := 1000000
def ap {α ζ : Type} (x : α) (k : α → Option ζ) : Option ζ := k x
theorem z2i {x : Int} (h : x = 0 ∨ x = 1) : i32 x := by rcases h with rfl | rfl <;> decide
theorem mm_b {x y : Int} (hx : i32 x) (hy : i32 y) : i32 (max x y) ∧ i32 (min x y) := by omega
theorem kwL_b (k : Nat) : i32 (kwL k) := by
  by_cases h : k < 22
  · have : ∀ k < 22, i32 (kwL k) := by decide +kernel
    exact this k h
  · have e : kwTx.getD k "" = "" := by
      rw [List.getD_eq_getElem?_getD, List.getElem?_eq_none_iff.mpr (by show 22 ≤ k; omega)]
      rfl
    unfold kwL kwBs
    rw [e]
    decide
theorem iand_b (x y : Int) : i32 (iand x y) := i32_of _
theorem ior_b (x y : Int) : i32 (ior x y) := i32_of _
theorem ixor_b (x y : Int) : i32 (ixor x y) := i32_of _
theorem ishr_b (x y : Int) : i32 (ishr x y) := i32_of _
theorem idiv_b (x y : Int) : i32 (idiv x y) := i32_of _
theorem irem_b (x y : Int) : i32 (irem x y) := i32_of _
theorem kwC_b (k : Nat) (i : Int) : i32 (kwC k i) := i32_of _
theorem lk_cons {x : Int} {q : Int × Int} {ps : List (Int × Int)} (h : ¬ x = q.1) (k : ∀ r ∈ ps, x ≠ r.1) : ∀ r ∈ q :: ps, x ≠ r.1 := fun r hr => by
  rcases List.mem_cons.mp hr with rfl | hr
  · exact h
  · exact k r hr
section SX
variable {Γ : Ctx} {B : Tb} {mt : MT} {R : Room} {ce sl : Nat} {ζ : Type} {K : Kd ζ} {pc : Nat} {lv lv' : List (Nat × Value)} {st : List Value} {γ : St} {o : Option ζ}
theorem sb_aps {b : St → Option ζ} (k : ∀ γ1, SB Γ B mt R ce sl K pc lv st γ1 (b γ1)) : SB Γ B mt R ce sl K pc lv st γ (ap γ b) := k γ
theorem sb_nme {b : Int → Option ζ} {e : Int} (lw : Int → List (Nat × Value)) (he : i32 e) (k : ∀ x, i32 x → SB Γ B mt R ce sl K pc (lw x) st γ (b x)) : SB Γ B mt R ce sl K pc (lw e) st γ (ap e b) := k e he
theorem sb_tg {x dflt lo hi off : Int} {offs : Array Int} {len : Nat} (q : Int) (tgt : Nat) (hx : i32 x) (d : decode mt.2.1 pc = .ok (.tableswitch dflt lo hi offs, len)) (h : ¬ q < lo ∧ ¬ hi < q ∧ offs[(q - lo).toNat]? = some off) (ht : (pc : Int) + off = (tgt : Int)) (kt : x = q → SB Γ B mt R ce sl K tgt lv st γ o) (kf : ¬ x = q → SB Γ B mt R ce sl K pc lv (vI x :: st) γ o) : SB Γ B mt R ce sl K pc lv (vI x :: st) γ o := by
  have := sb_tc (o1 := o) (o2 := o) (inst := inferInstance) q tgt hx d h ht kt kf
  rwa [ite_self] at this
theorem sb_dup_x2 {u v w : Value} (d : decode mt.2.1 pc = .ok (.dup_x2, 1)) (hu : u.category = 1) (hv : v.category = 1) (hw' : w.category = 1) (k : SB Γ B mt R ce sl K (pc + 1) lv (u :: v :: w :: u :: st) γ o) : SB Γ B mt R ce sl K pc lv (u :: v :: w :: st) γ o := fun z hz p e s m args below meth c H locs ls X hc hw hl hP hS => lv_dup_x2 X.x X.b d hu hv hw' (k z hz p e s m args below meth c H locs ls X hc hw hl hP hS)
theorem iI_iL {x : Int} (h : i32 x) : (iI x).toInt64 = iL x := by
  apply Int64.toInt_inj.mp
  rw [Int32.toInt_toInt64, iI_toInt h]
  exact (Int64.toInt_ofInt_of_le (by omega) (by omega)).symm
theorem sb_i2l {x : Int} (hx : i32 x) (d : decode mt.2.1 pc = .ok (.i2l, 1)) (k : SB Γ B mt R ce sl K (pc + 1) lv (.long (iL x) :: st) γ o) : SB Γ B mt R ce sl K pc lv (vI x :: st) γ o := fun z hz p e s m args below meth c H locs ls X hc hw hl hP hS => lv_i2l X.x X.b d (iI_iL hx) (k z hz p e s m args below meth c H locs ls X hc hw hl hP hS)
section CL
variable {y : MethodName} {O : String} {b : ByteArray} {nl fr lo j ci n index fR lR : Nat} {ks : List Nat} {As st0 : List Value} {o1 : Option (Int × St)} {o2 : Option Res} {k : Int → St → Option ζ} {k2 : Int → St → Option Res}
theorem sb_cVi (F : VF y (O, b, nl, some .int) ci n) (hC : NC Γ B y (O, b, nl, some .int) fr lo (.ref (Γ.a j) :: As) γ o1) (hj : B[j]? = some (.inr (ci, ks))) (hm : Cond.methodLink mt.1 index y ∈ gG) (hn : As.length = n) (hst : st0 = As.reverse ++ vR Γ j :: st) (hW : (st.map fun v => v.category).sum ≤ 8) (hR : fr + 1 ≤ R.frames ∧ 8 + (nl + 11) + lo ≤ R.locals) (d : decode mt.2.1 pc = .ok (.invokevirtual index, 3))
    (kk : ∀ r γ', i32 r → SB Γ B mt R ce sl K (pc + 3) lv (vI r :: st) γ' (k r γ')) : SB Γ B mt R ce sl K pc lv st0 γ (bndN o1 k) := sb_callV F hC hj hm hn hst hW hR d kk
theorem sb_cVz (F : VF y (O, b, nl, some .boolean) ci n) (hC : NC Γ B y (O, b, nl, some .boolean) fr lo (.ref (Γ.a j) :: As) γ o1) (hj : B[j]? = some (.inr (ci, ks))) (hm : Cond.methodLink mt.1 index y ∈ gG) (hn : As.length = n) (hst : st0 = As.reverse ++ vR Γ j :: st) (hW : (st.map fun v => v.category).sum ≤ 8) (hR : fr + 1 ≤ R.frames ∧ 8 + (nl + 11) + lo ≤ R.locals) (d : decode mt.2.1 pc = .ok (.invokevirtual index, 3))
    (kk : ∀ r γ', (r = 0 ∨ r = 1) → SB Γ B mt R ce sl K (pc + 3) lv (vI r :: st) γ' (k r γ')) : SB Γ B mt R ce sl K pc lv st0 γ (bndN o1 k) := sb_callV F hC hj hm hn hst hW hR d kk
theorem sb_cVv (F : VF y (O, b, nl, none) ci n) (hC : NC Γ B y (O, b, nl, none) fr lo (.ref (Γ.a j) :: As) γ o1) (hj : B[j]? = some (.inr (ci, ks))) (hm : Cond.methodLink mt.1 index y ∈ gG) (hn : As.length = n) (hst : st0 = As.reverse ++ vR Γ j :: st) (hW : (st.map fun v => v.category).sum ≤ 8) (hR : fr + 1 ≤ R.frames ∧ 8 + (nl + 11) + lo ≤ R.locals) (d : decode mt.2.1 pc = .ok (.invokevirtual index, 3))
    (kk : ∀ r γ', SB Γ B mt R ce sl K (pc + 3) lv st γ' (k r γ')) : SB Γ B mt R ce sl K pc lv st0 γ (bndN o1 k) := sb_callV F hC hj hm hn hst hW hR d (fun r γ' _ => kk r γ')
theorem sb_cSi (F : SF y (O, b, nl, some .int) n) (hu : O = mt.1) (hC : NC Γ B y (O, b, nl, some .int) fr lo As γ o1) (hm : Cond.methodLink mt.1 index y ∈ gG) (hn : As.length = n) (hst : st0 = As.reverse ++ st) (hW : (st.map fun v => v.category).sum ≤ 8) (hR : fr + 1 ≤ R.frames ∧ 8 + (nl + 11) + lo ≤ R.locals) (d : decode mt.2.1 pc = .ok (.invokestatic index, 3))
    (kk : ∀ r γ', i32 r → SB Γ B mt R ce sl K (pc + 3) lv (vI r :: st) γ' (k r γ')) : SB Γ B mt R ce sl K pc lv st0 γ (bndN o1 k) := sb_callS F hu hC hm hn hst hW hR d kk
theorem sb_cSz (F : SF y (O, b, nl, some .boolean) n) (hu : O = mt.1) (hC : NC Γ B y (O, b, nl, some .boolean) fr lo As γ o1) (hm : Cond.methodLink mt.1 index y ∈ gG) (hn : As.length = n) (hst : st0 = As.reverse ++ st) (hW : (st.map fun v => v.category).sum ≤ 8) (hR : fr + 1 ≤ R.frames ∧ 8 + (nl + 11) + lo ≤ R.locals) (d : decode mt.2.1 pc = .ok (.invokestatic index, 3))
    (kk : ∀ r γ', (r = 0 ∨ r = 1) → SB Γ B mt R ce sl K (pc + 3) lv (vI r :: st) γ' (k r γ')) : SB Γ B mt R ce sl K pc lv st0 γ (bndN o1 k) := sb_callS F hu hC hm hn hst hW hR d kk
theorem sb_cTi (F : VF y (O, b, nl, some .int) ci n) (hC : TC Γ B y (O, b, nl, some .int) fr lo (.ref (Γ.a j) :: As) γ o2) (hj : B[j]? = some (.inr (ci, ks))) (hm : Cond.methodLink mt.1 index y ∈ gG) (hn : As.length = n) (hst : st0 = As.reverse ++ vR Γ j :: st) (hW : (st.map fun v => v.category).sum ≤ 8) (hR : fr + 1 ≤ fR ∧ 8 + (nl + 11) + lo ≤ lR) (d : decode mt.2.1 pc = .ok (.invokevirtual index, 3))
    (kk : ∀ r γ', i32 r → SB Γ B mt (RmT fR lR) 0 0 (KT Γ B mt.2.2.2) (pc + 3) lv (vI r :: st) γ' (k2 r γ')) : SB Γ B mt (RmT fR lR) 0 0 (KT Γ B mt.2.2.2) pc lv st0 γ (bndT o2 k2) := sb_callT F hC hj hm hn hst hW hR d kk
theorem sb_cTz (F : VF y (O, b, nl, some .boolean) ci n) (hC : TC Γ B y (O, b, nl, some .boolean) fr lo (.ref (Γ.a j) :: As) γ o2) (hj : B[j]? = some (.inr (ci, ks))) (hm : Cond.methodLink mt.1 index y ∈ gG) (hn : As.length = n) (hst : st0 = As.reverse ++ vR Γ j :: st) (hW : (st.map fun v => v.category).sum ≤ 8) (hR : fr + 1 ≤ fR ∧ 8 + (nl + 11) + lo ≤ lR) (d : decode mt.2.1 pc = .ok (.invokevirtual index, 3))
    (kk : ∀ r γ', (r = 0 ∨ r = 1) → SB Γ B mt (RmT fR lR) 0 0 (KT Γ B mt.2.2.2) (pc + 3) lv (vI r :: st) γ' (k2 r γ')) : SB Γ B mt (RmT fR lR) 0 0 (KT Γ B mt.2.2.2) pc lv st0 γ (bndT o2 k2) := sb_callT F hC hj hm hn hst hW hR d kk
theorem sb_cTv (F : VF y (O, b, nl, none) ci n) (hC : TC Γ B y (O, b, nl, none) fr lo (.ref (Γ.a j) :: As) γ o2) (hj : B[j]? = some (.inr (ci, ks))) (hm : Cond.methodLink mt.1 index y ∈ gG) (hn : As.length = n) (hst : st0 = As.reverse ++ vR Γ j :: st) (hW : (st.map fun v => v.category).sum ≤ 8) (hR : fr + 1 ≤ fR ∧ 8 + (nl + 11) + lo ≤ lR) (d : decode mt.2.1 pc = .ok (.invokevirtual index, 3))
    (kk : ∀ r γ', SB Γ B mt (RmT fR lR) 0 0 (KT Γ B mt.2.2.2) (pc + 3) lv st γ' (k2 r γ')) : SB Γ B mt (RmT fR lR) 0 0 (KT Γ B mt.2.2.2) pc lv st0 γ (bndT o2 k2) := sb_callT F hC hj hm hn hst hW hR d (fun r γ' _ => kk r γ')
end CL
/-- throw new Wrong(kd, a call's answer) -/
theorem sb_thrC {y : MethodName} {mu : MT} {fr lo fR lR j ci index pc1 : Nat} {ks : List Nat} {x kd : Int} {q : Fin 4} {o1 : Option (Int × St)} (F : VF y mu ci 1) (hC : NC Γ B y mu fr lo [.ref (Γ.a j), vI x] γ o1) (n0 n1 : Nat) (g0 : lv[n0]? = some (0, vR Γ j)) (g1 : lv[n1]? = some ((q : Nat), vI x)) (hj : B[j]? = some (.inr (ci, ks))) (hm : Cond.methodLink mt.1 index y ∈ gG) (hr : mu.2.2.2 = some .int) (hR : fr + 1 ≤ fR ∧ 8 + (mu.2.2.1 + 11) + lo ≤ lR) (hM : mt.1 = R_M) (h0 : decode mt.2.1 pc = .ok (.new 296, 3)) (h1 : decode mt.2.1 (pc + 3) = .ok (.dup, 1)) (p1 : PU Γ B mt (RmT fR lR) lv γ γ (pc + 4) pc1 (vI kd)) (d0 : decode mt.2.1 pc1 = .ok (.aload_n 0, 1)) (d1 : decode mt.2.1 (pc1 + 1) = .ok (.iload_n q, 1)) (d2 : decode mt.2.1 (pc1 + 2) = .ok (.invokevirtual index, 3)) (h2 : decode mt.2.1 (pc1 + 5) = .ok (.invokespecial 298, 3)) (h3 : decode mt.2.1 (pc1 + 8) = .ok (.athrow, 1)) (hkd : i32 kd) (hR2 : 5 ≤ fR ∧ 122 ≤ lR) :
    SB Γ B mt (RmT fR lR) 0 0 (KT Γ B mt.2.2.2) pc lv [] γ (bndN o1 fun r γ' => chk (i32 r) (some (.inl (kd, r), γ'))) := by
  cases ho : o1 with
  | none => exact sb_none
  | some z1 =>
    obtain ⟨r, γ'⟩ := z1
    rw [ho] at hC
    exact sb_chk fun hr9 => sb_thr hM h0 h1 p1 (pu_call F hC n0 n1 g0 g1 hj hm hr hR d0 d1 d2) h2 h3 hkd hr9 hR2
end SX
