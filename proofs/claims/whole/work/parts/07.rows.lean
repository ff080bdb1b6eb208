/-! rows of this claim's own over the kit's: worlds over 'kl', calls over 'gG' -/
abbrev tyL (cI cB cJ cZ : ClassId) : List (ClassId × FieldType) := [(cI, .int), (cB, .byte), (cJ, .long), (cZ, .boolean)]
/-- a contract's start: the cells ws, the tables -/
def ct_P (D : va_G) (tys : List (ClassId × FieldType)) (ws : va_W) (sz : Nat) (U : State) : Prop := U.heap.size = sz ∧ va_P D kl ws U.heap ∧ va_K D kl tys U ∧ va_D (fun _ => True) ws
theorem ct_blind {av : List Value} {D : va_G} {tys : List (ClassId × FieldType)} {ws : va_W} {sz : Nat} : FrameBlind (va_Pc av (ct_P D tys ws sz)) := fun a U g mk q => by
  obtain ⟨q0, q1, qP, qK, qD⟩ := q
  exact ⟨q0, q1, qP, va_K.moved (u := U) (U := U.calling g mk a) (Vm.Alike.refl U.vm) qK, qD⟩
theorem ct_pre {s : State} {H : Heap} {av : List Value} {D : va_G} {tys : List (ClassId × FieldType)} {ws : va_W} {A : Nat → Prop} (hP : va_P D kl ws H) (hK : va_K D kl tys s) (hD : va_D A ws) : PreS s H (va_Pc av (ct_P D tys ws H.size)) av :=
  ⟨ct_blind, fun U hU hW => ⟨rfl, by rw [hU], by rw [hU]; exact hP, va_K.moved hW.alike hK, hD.weaken (fun _ _ _ _ => trivial)⟩⟩
theorem ct_preV {s : State} {H : Heap} {av : List Value} {D : va_G} {tys : List (ClassId × FieldType)} {ws : va_W} {A : Nat → Prop} {C : String} {T : u_T} {N ci b q0 : Nat} {fs : List Value} (hP : va_P D kl ws H) (hK : va_K D kl tys s) (hD : va_D A ws) (hc : kl[ci]? = some (C, T, N)) (he : ws[q0]? = some (b, .inr (ci, fs))) : PreV s H C b (va_Pc (.ref b :: av) (ct_P D tys ws H.size)) av :=
  ⟨ct_blind, va_recv hK hP hc he, (ct_pre hP hK hD).2⟩
/-- .. with Throwable's statics, for a method that throws -/
def ct_PZ (D : va_G) (tys : List (ClassId × FieldType)) (ws : va_W) (sz : Nat) (U : State) : Prop := U.heap.size = sz ∧ va_P D kl ws U.heap ∧ va_K D kl tys U ∧ va_D (fun _ => True) ws ∧ xt_Z (fun _ => False) U U.heap ∧ va_Nw (.castable "java/lang/IllegalStateException" "java/lang/IllegalStateException") U ∧ va_Nw (.castable "java/lang/IllegalArgumentException" "java/lang/IllegalArgumentException") U ∧ va_Nw (.castable "java/util/NoSuchElementException" "java/util/NoSuchElementException") U
section RW
variable {R : Room} {s : State} {args : Array Value} {own C : String} {index maxL mc ms : Nat} {y : MethodName} {bytes : ByteArray} {ret : Option FieldType} {rm : Room} {Ts : List Cond}
theorem gd_cons (hT : GoodIn Ts gG) (h5 : Cond.code y bytes maxL ret ∈ gG) : GoodIn Ts (Cond.code y bytes maxL ret :: gG) := fun w h => (List.mem_cons.mp h).elim (fun e => by subst e; exact hT _ h5) (hT w)
theorem gcV (n : Nat) (hT : GoodIn Ts gG) (ht : ∀ w ∈ Ts, w.before args s = true) (h1 : Cond.methodLink own index y ∈ gG) (h2 : Cond.instanceMethod y ∈ gG) (h3 : Cond.selects C y y ∈ gG) (h4 : Cond.initialized C ∈ gG) (h5 : Cond.code y bytes maxL ret ∈ gG) (hrc : rm.cells = mc) (hrs : rm.slots = ms)
    (hd : y.cls = C ∧ y.cls ≠ "java/lang/invoke/MethodHandle" ∧ y.cls ≠ "java/lang/invoke/VarHandle" ∧ (parseMethodDescriptor y.desc).map (fun d => d.parameters.length) = some n) (hR : rm.frames + 1 ≤ R.frames ∧ 8 + (maxL + 11) + rm.locals ≤ R.locals) :
    CallW R s args own C index y bytes maxL ret (Cond.code y bytes maxL ret :: gG) rm mc ms n := by
  refine cwV n ht (fun w h => ?_) rfl hrc hrs hd hR
  rcases List.mem_append.mp h with h | h
  · simp only [List.mem_cons, List.not_mem_nil, or_false] at h
    rcases h with rfl | rfl | rfl | rfl <;> exact hT _ (by assumption)
  · exact gd_cons hT h5 w h
theorem gcS (n : Nat) (hT : GoodIn Ts gG) (ht : ∀ w ∈ Ts, w.before args s = true) (h1 : Cond.methodLink own index y ∈ gG) (h2 : Cond.static y ∈ gG) (h4 : Cond.initialized own ∈ gG) (h5 : Cond.code y bytes maxL ret ∈ gG) (hrc : rm.cells = mc) (hrs : rm.slots = ms)
    (hd : y.cls = own ∧ y.cls ≠ "java/lang/invoke/MethodHandle" ∧ y.cls ≠ "java/lang/invoke/VarHandle" ∧ (parseMethodDescriptor y.desc).map (fun d => d.parameters.length) = some n) (hR : rm.frames + 1 ≤ R.frames ∧ 8 + (maxL + 11) + rm.locals ≤ R.locals) :
    CallB R s args own index y bytes maxL ret (Cond.code y bytes maxL ret :: gG) rm mc ms n ∧ (Cond.static y).before args s = true := by
  refine cwS n ht (fun w h => ?_) rfl hrc hrs hd hR
  rcases List.mem_append.mp h with h | h
  · simp only [List.mem_cons, List.not_mem_nil, or_false] at h
    rcases h with rfl | rfl | rfl <;> exact hT _ (by assumption)
  · exact gd_cons hT h5 w h
theorem gcI (n : Nat) (hT : GoodIn Ts gG) (ht : ∀ w ∈ Ts, w.before args s = true) (h1 : Cond.methodLink own index y ∈ gG) (h2 : Cond.instanceMethod y ∈ gG) (h4 : Cond.initialized y.cls ∈ gG) (h5 : Cond.code y bytes maxL none ∈ gG) (hrc : rm.cells = mc) (hrs : rm.slots = ms) (hy1 : y.name = "<init>")
    (hd : y.cls ≠ "java/lang/invoke/MethodHandle" ∧ y.cls ≠ "java/lang/invoke/VarHandle" ∧ (parseMethodDescriptor y.desc).map (fun d => d.parameters.length) = some n) (hR : rm.frames + 1 ≤ R.frames ∧ 8 + (maxL + 11) + rm.locals ≤ R.locals) :
    CallB R s args own index y bytes maxL none (Cond.code y bytes maxL none :: gG) rm mc ms n ∧ y.name = "<init>" ∧ (Cond.instanceMethod y).before args s = true :=
  cwI n ht (gd_cons hT h5) rfl hrc hrs (ht _ (hT _ h4).1) (ht _ (hT _ h1).1) (ht _ (hT _ h2).1) hy1 hd hR
end RW
section RA
variable {p : Program} {l : Launch} {e : Env} {R : Room} {s : State} {m : MethodId} {args : Array Value} {below : List Frame} {meth : Method} {c : Code} {H : Heap} {locs : List Loc} {cells slots : Nat} {Q : State → Prop}
variable {cc : ByteArray} {pc : Nat} {ls : Array Slot} {rest : List Value} {D : va_G} {A : Nat → Prop} {tys : List (ClassId × FieldType)} {ws : va_W} {H0 : Heap}
/-- a new array of the type whose class is at place t0 of tys -/
theorem ra_new (hexec : p.tables.exec = Jvm.exec) (hb : c.code = cc) {atype : ArrayType} (harr : (Cond.arrayClass (newarray.typeOf atype)).before args s = true) {ty : FieldType} (hty : newarray.typeOf atype = ty) (hob : ∀ C, ty ≠ .object C) (hK : va_K D kl tys s) (hP : va_P D kl ws H) (hD : va_D A ws) (hS : va_S A H0 H locs) (hA : ∀ q, H0.size ≤ q → A q)
    (t0 : Nat) {cA : ClassId} (ht : tys[t0]? = some (cA, ty)) {n : Int32} {N' : Nat} (a0 : vp_A) (ha : ∀ cA : ClassId, vp_cell cA a0 = arrV cA N' (fun _ => defaultValue ty)) (hn : ¬ n < 0) (hN : n.toNatClampNeg = N') (hbytes : N' * componentBytes ty ≤ 536870912) (hcells : cells + 1 ≤ R.cells) (hslots : slots + N' ≤ R.slots) (hdg : decode cc pc = .ok (.newarray atype, 2))
    (kk : ∀ (q : Nat) (H1 : Heap), va_P D kl (ws ++ [(q, .inl (cA, a0))]) H1 → va_D A (ws ++ [(q, .inl (cA, a0))]) → va_S A H0 H1 locs → W p l e R s m args below meth c H1 locs (cells + 1) (slots + N') Q (F0 m (pc + 2) ls (.ref q :: rest))) :
    W p l e R s m args below meth c H locs cells slots Q (F0 m pc ls (.int n :: rest)) := by
  refine va_newa hexec hb harr hty hK hP hD hS hA ha hn hN hbytes hcells hslots hdg (fun q cA' H1 hK1 hP1 hD1 hS1 => ?_)
  have h1 : va_RA s cA ty := (hK.2 t0 _ ht).2
  have h2 : va_RA s cA' ty := (hK1.2 tys.length (cA', ty) (by simp)).2
  have e : cA' = cA := by
    cases ty with
    | object C => exact absurd rfl (hob C)
    | _ => exact Option.some.inj (h2.symm.trans h1)
  subst e
  exact kk q H1 hP1 hD1 hS1
end RA
