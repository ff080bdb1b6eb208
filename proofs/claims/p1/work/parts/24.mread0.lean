/-! the reference at an empty text: what it throws to itself -/
theorem cz_blind {av : List Value} {D : va_G} {tys : List (ClassId × FieldType)} {ws : va_W} {sz : Nat} {A : Nat → Prop} : FrameBlind (va_Pc av (fun U => ct_P D tys ws sz U ∧ xt_Z A U U.heap)) := fun a U g mk q => ⟨q.1, (ct_blind (av := av) a U g mk ⟨q.1, q.2.1⟩).2, q.2.2.moved (U := U.calling g mk a) (Vm.Alike.refl U.vm)⟩
theorem cz_pre {s : State} {H : Heap} {av : List Value} {D : va_G} {tys : List (ClassId × FieldType)} {ws : va_W} {A B : Nat → Prop} {locs : List Loc} (hP : va_P D kl ws H) (hK : va_K D kl tys s) (hD : va_D A ws) (hZ : xt_Z B s s.heap) (hS : va_S B s.heap H locs) (hF : ∀ q, va_A ws H.size q → B q) : PreS s H (va_Pc av (fun U => ct_P D tys ws H.size U ∧ xt_Z (va_A ws H.size) U U.heap)) av :=
  ⟨cz_blind, fun U hU hW => ⟨rfl, ((ct_pre (av := av) hP hK hD).2 U hU hW).2, by rw [hU]; exact ((hZ.kept hS.2.1).narrow hF).moved hW.alike⟩⟩
theorem cz_preV {s : State} {H : Heap} {av : List Value} {D : va_G} {tys : List (ClassId × FieldType)} {ws : va_W} {A B : Nat → Prop} {locs : List Loc} {C : String} {T : u_T} {N ci b q0 : Nat} {fs : List Value} (hP : va_P D kl ws H) (hK : va_K D kl tys s) (hD : va_D A ws) (hZ : xt_Z B s s.heap) (hS : va_S B s.heap H locs) (hF : ∀ q, va_A ws H.size q → B q) (hc : kl[ci]? = some (C, T, N)) (he : ws[q0]? = some (b, .inr (ci, fs))) : PreV s H C b (va_Pc (.ref b :: av) (fun U => ct_P D tys ws H.size U ∧ xt_Z (va_A ws H.size) U U.heap)) av :=
  ⟨cz_blind, va_recv hK hP hc he, (cz_pre hP hK hD hZ hS hF).2⟩
/-- .. with a text of the reference's -/
theorem cr_blind {av : List Value} {D : va_G} {tys : List (ClassId × FieldType)} {ws : va_W} {sz : Nat} {A : Nat → Prop} {own tx : String} {k a0 : Nat} : FrameBlind (va_Pc av (fun U => ct_P D tys ws sz U ∧ xt_Z A U U.heap ∧ vk_R own k tx a0 U)) := fun a U g mk q => ⟨q.1, (ct_blind (av := av) a U g mk ⟨q.1, q.2.1⟩).2, q.2.2.1.moved (U := U.calling g mk a) (Vm.Alike.refl U.vm), q.2.2.2.same (u := U) rfl⟩
theorem cr_preV {s : State} {H : Heap} {av : List Value} {D : va_G} {tys : List (ClassId × FieldType)} {ws : va_W} {A B : Nat → Prop} {locs : List Loc} {C : String} {T : u_T} {N ci b q0 : Nat} {fs : List Value} {own tx : String} {k a0 : Nat} (hP : va_P D kl ws H) (hK : va_K D kl tys s) (hD : va_D A ws) (hZ : xt_Z B s s.heap) (hS : va_S B s.heap H locs) (hF : ∀ q, va_A ws H.size q → B q) (hR : vk_R own k tx a0 s) (hc : kl[ci]? = some (C, T, N)) (he : ws[q0]? = some (b, .inr (ci, fs))) : PreV s H C b (va_Pc (.ref b :: av) (fun U => ct_P D tys ws H.size U ∧ xt_Z (va_A ws H.size) U U.heap ∧ vk_R own k tx a0 U)) av :=
  ⟨cr_blind, va_recv hK hP hc he, fun U hU hW => ⟨rfl, ((ct_pre (av := .ref b :: av) hP hK hD).2 U hU hW).2, by rw [hU]; exact ((hZ.kept hS.2.1).narrow hF).moved hW.alike, hR.warm hW⟩⟩
/-- athrow of an object that this method, or one that it called, has made -/
theorem xt_athrow {p : Program} {l : Launch} {e : Env} {R : Room} {s : State} {m : MethodId} {args : Array Value} {below : List Frame} {meth : Method} {c : Code} {H : Heap} {locs : List Loc} {cells slots : Nat} {cc : ByteArray} (hexec : p.tables.exec = Jvm.exec) (hb : c.code = cc) {E : String} {Qx : State → Nat → State → Prop} {free : Nat → Prop} {pc : Nat} {ls : Array Slot} {rest : List Value} {a : Addr} {ce : Cell} (haz : s.heap.size ≤ a) (hce : H[a]? = some ce) (hcv : ce.vm.isStatics = false) (hcl : s.vm.findClass E = some ce.cls)
    (hout : ∀ x ∈ c.exceptionTable.toList, covers x pc = false) (hlocks : meth.locks = false) (hL : ∀ q ∈ locs, free q.base) (hq : ∀ t : State, t.heap = H → s.WarmedH t.vm → Qx s a t) (hdg : decode cc pc = .ok (.athrow, 1)) : W p l e R s m args below meth c H locs cells slots (xt_MQ below s E Qx free cells slots) (F0 m pc ls (.ref a :: rest)) := by
  intro T hT X
  obtain ⟨hwalk, hrun, hended, hW, hsame⟩ := X.athrowLeaves hexec (g := F0 m pc ls (.ref a :: rest)) rfl rfl rfl hout (a := a) (rest := rest) rfl (by rw [hb]; exact hdg) hlocks
  exact ⟨_, hwalk, .threw a, hrun, hended, a, ce, locs, rfl, haz, by show T.heap[a]? = some ce; rw [hT]; exact hce, hcv, hcl, hq _ hT hW, hW, hsame, hL⟩
/-- the second of two cells is new, where the start had the first alone -/
theorem va_new1 {A : Nat → Prop} {g q sz : Nat} {x x1 y : va_E} (hA : va_A [(g, x)] sz = A) (hD : va_D A [(g, x1), (q, y)]) : sz ≤ q := by
  have h := hD.2 1 _ rfl
  rw [← hA] at h
  rcases h with ⟨k, e, hk⟩ | h
  · match k, hk with
    | 0, hk => have h1 : g = q := congrArg Prod.fst (Option.some.inj hk); exact absurd (hD.1 0 1 _ _ rfl rfl h1) (by decide)
    | k + 1, hk => simp at hk
  · exact h
abbrev b_java_lang_Throwable_init_1 : ByteArray := prog_25_method_5_code
abbrev y_java_lang_Throwable_init_1 : MethodName := ⟨"java/lang/Throwable", "<init>", "(Ljava/lang/String;Ljava/lang/Throwable;ZZ)V"⟩
theorem d_java_lang_Throwable_init_1_0 : decode b_java_lang_Throwable_init_1 0 = .ok (.aload_n 0, 1) := by decide +kernel
theorem d_java_lang_Throwable_init_1_1 : decode b_java_lang_Throwable_init_1 1 = .ok (.invokespecial 1, 3) := by decide +kernel
theorem d_java_lang_Throwable_init_1_4 : decode b_java_lang_Throwable_init_1 4 = .ok (.aload_n 0, 1) := by decide +kernel
theorem d_java_lang_Throwable_init_1_5 : decode b_java_lang_Throwable_init_1 5 = .ok (.aload_n 0, 1) := by decide +kernel
theorem d_java_lang_Throwable_init_1_6 : decode b_java_lang_Throwable_init_1 6 = .ok (.putfield 7, 3) := by decide +kernel
theorem d_java_lang_Throwable_init_1_9 : decode b_java_lang_Throwable_init_1 9 = .ok (.aload_n 0, 1) := by decide +kernel
theorem d_java_lang_Throwable_init_1_10 : decode b_java_lang_Throwable_init_1 10 = .ok (.getstatic 13, 3) := by decide +kernel
theorem d_java_lang_Throwable_init_1_13 : decode b_java_lang_Throwable_init_1 13 = .ok (.putfield 17, 3) := by decide +kernel
theorem d_java_lang_Throwable_init_1_16 : decode b_java_lang_Throwable_init_1 16 = .ok (.aload_n 0, 1) := by decide +kernel
theorem d_java_lang_Throwable_init_1_17 : decode b_java_lang_Throwable_init_1 17 = .ok (.getstatic 20, 3) := by decide +kernel
theorem d_java_lang_Throwable_init_1_20 : decode b_java_lang_Throwable_init_1 20 = .ok (.putfield 24, 3) := by decide +kernel
theorem d_java_lang_Throwable_init_1_23 : decode b_java_lang_Throwable_init_1 23 = .ok (.iload 4, 2) := by decide +kernel
theorem d_java_lang_Throwable_init_1_25 : decode b_java_lang_Throwable_init_1 25 = .ok (.ifCond .eq 11, 3) := by decide +kernel
theorem d_java_lang_Throwable_init_1_28 : decode b_java_lang_Throwable_init_1 28 = .ok (.aload_n 0, 1) := by decide +kernel
theorem d_java_lang_Throwable_init_1_29 : decode b_java_lang_Throwable_init_1 29 = .ok (.invokevirtual 27, 3) := by decide +kernel
theorem d_java_lang_Throwable_init_1_32 : decode b_java_lang_Throwable_init_1 32 = .ok (.pop, 1) := by decide +kernel
theorem d_java_lang_Throwable_init_1_33 : decode b_java_lang_Throwable_init_1 33 = .ok (.goto 8, 3) := by decide +kernel
theorem d_java_lang_Throwable_init_1_36 : decode b_java_lang_Throwable_init_1 36 = .ok (.aload_n 0, 1) := by decide +kernel
theorem d_java_lang_Throwable_init_1_37 : decode b_java_lang_Throwable_init_1 37 = .ok (.aconst_null, 1) := by decide +kernel
theorem d_java_lang_Throwable_init_1_38 : decode b_java_lang_Throwable_init_1 38 = .ok (.putfield 17, 3) := by decide +kernel
theorem d_java_lang_Throwable_init_1_41 : decode b_java_lang_Throwable_init_1 41 = .ok (.aload_n 0, 1) := by decide +kernel
theorem d_java_lang_Throwable_init_1_42 : decode b_java_lang_Throwable_init_1 42 = .ok (.aload_n 1, 1) := by decide +kernel
theorem d_java_lang_Throwable_init_1_43 : decode b_java_lang_Throwable_init_1 43 = .ok (.putfield 31, 3) := by decide +kernel
theorem d_java_lang_Throwable_init_1_46 : decode b_java_lang_Throwable_init_1 46 = .ok (.aload_n 0, 1) := by decide +kernel
theorem d_java_lang_Throwable_init_1_47 : decode b_java_lang_Throwable_init_1 47 = .ok (.aload_n 2, 1) := by decide +kernel
theorem d_java_lang_Throwable_init_1_48 : decode b_java_lang_Throwable_init_1 48 = .ok (.putfield 7, 3) := by decide +kernel
theorem d_java_lang_Throwable_init_1_51 : decode b_java_lang_Throwable_init_1 51 = .ok (.iload_n 3, 1) := by decide +kernel
theorem d_java_lang_Throwable_init_1_52 : decode b_java_lang_Throwable_init_1 52 = .ok (.ifCond .ne 8, 3) := by decide +kernel
theorem d_java_lang_Throwable_init_1_55 : decode b_java_lang_Throwable_init_1 55 = .ok (.aload_n 0, 1) := by decide +kernel
theorem d_java_lang_Throwable_init_1_56 : decode b_java_lang_Throwable_init_1 56 = .ok (.aconst_null, 1) := by decide +kernel
theorem d_java_lang_Throwable_init_1_57 : decode b_java_lang_Throwable_init_1 57 = .ok (.putfield 24, 3) := by decide +kernel
theorem d_java_lang_Throwable_init_1_60 : decode b_java_lang_Throwable_init_1 60 = .ok (.return_, 1) := by decide +kernel
abbrev b_java_lang_Exception_init_1 : ByteArray := prog_16_method_5_code
abbrev y_java_lang_Exception_init_1 : MethodName := ⟨"java/lang/Exception", "<init>", "(Ljava/lang/String;Ljava/lang/Throwable;ZZ)V"⟩
theorem d_java_lang_Exception_init_1_0 : decode b_java_lang_Exception_init_1 0 = .ok (.aload_n 0, 1) := by decide +kernel
theorem d_java_lang_Exception_init_1_1 : decode b_java_lang_Exception_init_1 1 = .ok (.aload_n 1, 1) := by decide +kernel
theorem d_java_lang_Exception_init_1_2 : decode b_java_lang_Exception_init_1 2 = .ok (.aload_n 2, 1) := by decide +kernel
theorem d_java_lang_Exception_init_1_3 : decode b_java_lang_Exception_init_1 3 = .ok (.iload_n 3, 1) := by decide +kernel
theorem d_java_lang_Exception_init_1_4 : decode b_java_lang_Exception_init_1 4 = .ok (.iload 4, 2) := by decide +kernel
theorem d_java_lang_Exception_init_1_6 : decode b_java_lang_Exception_init_1 6 = .ok (.invokespecial 16, 3) := by decide +kernel
theorem d_java_lang_Exception_init_1_9 : decode b_java_lang_Exception_init_1 9 = .ok (.return_, 1) := by decide +kernel
abbrev b_java_lang_RuntimeException_init_1 : ByteArray := prog_20_method_5_code
abbrev y_java_lang_RuntimeException_init_1 : MethodName := ⟨"java/lang/RuntimeException", "<init>", "(Ljava/lang/String;Ljava/lang/Throwable;ZZ)V"⟩
theorem d_java_lang_RuntimeException_init_1_0 : decode b_java_lang_RuntimeException_init_1 0 = .ok (.aload_n 0, 1) := by decide +kernel
theorem d_java_lang_RuntimeException_init_1_1 : decode b_java_lang_RuntimeException_init_1 1 = .ok (.aload_n 1, 1) := by decide +kernel
theorem d_java_lang_RuntimeException_init_1_2 : decode b_java_lang_RuntimeException_init_1 2 = .ok (.aload_n 2, 1) := by decide +kernel
theorem d_java_lang_RuntimeException_init_1_3 : decode b_java_lang_RuntimeException_init_1 3 = .ok (.iload_n 3, 1) := by decide +kernel
theorem d_java_lang_RuntimeException_init_1_4 : decode b_java_lang_RuntimeException_init_1 4 = .ok (.iload 4, 2) := by decide +kernel
theorem d_java_lang_RuntimeException_init_1_6 : decode b_java_lang_RuntimeException_init_1 6 = .ok (.invokespecial 16, 3) := by decide +kernel
theorem d_java_lang_RuntimeException_init_1_9 : decode b_java_lang_RuntimeException_init_1 9 = .ok (.return_, 1) := by decide +kernel
set_option maxHeartbeats 4000000 in
set_option maxRecDepth 100000 in
theorem c_Thr_init4 (l : Launch) (D : va_G) (cI cB cJ cZ : ClassId) (sz : Nat) (a : Nat) : Met l y_java_lang_Throwable_init_1 (Cond.code y_java_lang_Throwable_init_1 b_java_lang_Throwable_init_1 5 none :: gG) { frames := 1, cells := 0, slots := 0, locals := 12 } (va_Pc [.ref a, .null, .null, .int 0, .int 0] (fun U => ct_P D (tyL cI cB cJ cZ) [(a, .inr (13, [.null, .null, .null, .null, .null, .int 0, .int 0, .int 0]))] sz U ∧ xt_Z (va_A [(a, .inr (13, [.null, .null, .null, .null, .null, .int 0, .int 0, .int 0]))] sz) U U.heap)) (va_Qv (fun _ : Unit => True) (fun _ t => va_P D kl [(a, .inr (13, [.null, .null, .null, .null, .null, .int 0, .int 0, .int 0]))] t.heap ∧ va_D (va_A [(a, .inr (13, [.null, .null, .null, .null, .null, .int 0, .int 0, .int 0]))] sz) [(a, .inr (13, [.null, .null, .null, .null, .null, .int 0, .int 0, .int 0]))]) (va_A [(a, .inr (13, [.null, .null, .null, .null, .null, .int 0, .int 0, .int 0]))] sz)) 0 0 (va_A [(a, .inr (13, [.null, .null, .null, .null, .null, .int 0, .int 0, .int 0]))] sz) := by
  refine Met.ofW (cc := b_java_lang_Throwable_init_1) (maxL := 5) (ret := none) (by decide) rfl ?_
  intro p e s m args below meth c s₁ B hml hv
  obtain ⟨rfl, ⟨hsz, hP, hK, hD0⟩, hZ⟩ := hv
  have hx := B.exec
  have hb := B.bytes
  have hr := B.returns
  have hts := atoms_spec (ws := Cond.code y_java_lang_Throwable_init_1 b_java_lang_Throwable_init_1 5 none :: gG) B.pre
  have hG : ∀ w9 ∈ gG, w9.before [.ref a, .null, .null, .int 0, .int 0].toArray s = true := fun w9 h => hts w9 (List.mem_cons_of_mem _ h)
  have hown : s.vm.findClass "java/lang/Throwable" = some m.cls := findClass_of_methodNamed B.named
  have hlocks := B.notSynchronized
  have hin : meth.name = "<init>" := (name_of_methodNamed B.named B.method).1
  subst hsz
  have hD := hD0.self (sz := s.heap.size)
  generalize hAe : va_A [(a, .inr (13, [.null, .null, .null, .null, .null, .int 0, .int 0, .int 0]))] s.heap.size = A at hD hZ ⊢
  have hA : ∀ q : Nat, s.heap.size ≤ q → A q := fun q h => by rw [← hAe]; exact Or.inr h
  have hS : va_S A s.heap s.heap [] := va_S.rf
  have hl := lv_entry ([.ref a, .null, .null, .int 0, .int 0]) (n := 5) (Nat.le_of_ble_eq_true rfl)
  rw [lg_entry_eq]
  generalize (lg_sl ([.ref a, .null, .null, .int 0, .int 0]) ++ List.replicate (5 - (lg_sl ([.ref a, .null, .null, .int 0, .int 0])).length) Slot.unset).toArray = ls at hl ⊢
  have hl : lv_has ls 5 [(0, .ref a), (1, .null), (2, .null), (3, .int 0), (4, .int 0)] := hl
  have hZ1 : ∃ r : Option Nat, va_Z Bundle.tN "UNASSIGNED_STACK" Bundle.steD (va_rf r) A s s.heap := hZ.1.elim (fun h => ⟨none, h⟩) (fun h => h.elim (fun t h => ⟨some t, h⟩))
  have hZ2 : ∃ r : Option Nat, va_Z Bundle.tN "SUPPRESSED_SENTINEL" Bundle.listD (va_rf r) A s s.heap := hZ.2.elim (fun h => ⟨none, h⟩) (fun h => h.elim (fun t h => ⟨some t, h⟩))
  obtain ⟨r1, hZ1⟩ := hZ1
  obtain ⟨r2, hZ2⟩ := hZ2
  refine lv_aload_n hx hb d_java_lang_Throwable_init_1_0 rfl (lv_at hl 0 rfl) ?_
  refine W.objInit hx hb hown (hG _ ml_java_lang_Throwable_1) (hG _ im_java_lang_Object_init) (hG _ co_java_lang_Object_init) rfl (by rw [hml]; exact hl.1) rfl d_java_lang_Throwable_init_1_1 (Nat.le_of_ble_eq_true rfl) (Nat.le_of_ble_eq_true rfl) ?_
  refine W.eq (g2 := F0 m 4 ls []) rfl ?_
  refine lv_aload_n hx hb d_java_lang_Throwable_init_1_4 rfl (lv_at hl 0 rfl) ?_
  refine lv_aload_n hx hb d_java_lang_Throwable_init_1_5 rfl (lv_at hl 0 rfl) ?_
  refine va_put (D := D) (ci := 13) (v := .ref a) (ty := .object "java/lang/Throwable") (C := R_Wr) (T := T_Wr) (N := 8) hx hb hG gi_Wr ty_Wr to_Wr nm_Wr hown hK hP hD hS 0 rfl rfl 0 (by decide) (hG _ fl_java_lang_Throwable_7) (fun _ h9 => h9) rfl (by decide +kernel) rfl rfl (Nat.le_of_ble_eq_true rfl) d_java_lang_Throwable_init_1_6 (fun H locs hP hD hS => ?_)
  have hP : va_P D kl [(a, .inr (13, [.ref a, .null, .null, .null, .null, .int 0, .int 0, .int 0]))] H := hP
  have hD : va_D A [(a, .inr (13, [.ref a, .null, .null, .null, .null, .int 0, .int 0, .int 0]))] := hD
  refine lv_aload_n hx hb d_java_lang_Throwable_init_1_9 rfl (lv_at hl 0 rfl) ?_
  refine va_gets (v := va_rf r1) hx hb hZ1 hS hown (hG _ fl_java_lang_Throwable_13) (fun _ h9 => h9) d_java_lang_Throwable_init_1_10 ?_
  refine va_put (D := D) (ci := 13) (v := va_rf r1) (ty := .array (.object "java/lang/StackTraceElement")) (C := R_Wr) (T := T_Wr) (N := 8) hx hb hG gi_Wr ty_Wr to_Wr nm_Wr hown hK hP hD hS 0 rfl rfl 1 (by decide) (hG _ fl_java_lang_Throwable_17) (fun _ h9 => h9) rfl (by decide +kernel) (by cases r1 <;> rfl) (by cases r1 <;> rfl) (Nat.le_of_ble_eq_true rfl) d_java_lang_Throwable_init_1_13 (fun H locs hP hD hS => ?_)
  have hP : va_P D kl [(a, .inr (13, [.ref a, va_rf r1, .null, .null, .null, .int 0, .int 0, .int 0]))] H := hP
  have hD : va_D A [(a, .inr (13, [.ref a, va_rf r1, .null, .null, .null, .int 0, .int 0, .int 0]))] := hD
  refine lv_aload_n hx hb d_java_lang_Throwable_init_1_16 rfl (lv_at hl 0 rfl) ?_
  refine va_gets (v := va_rf r2) hx hb hZ2 hS hown (hG _ fl_java_lang_Throwable_20) (fun _ h9 => h9) d_java_lang_Throwable_init_1_17 ?_
  refine va_put (D := D) (ci := 13) (v := va_rf r2) (ty := .object "java/util/List") (C := R_Wr) (T := T_Wr) (N := 8) hx hb hG gi_Wr ty_Wr to_Wr nm_Wr hown hK hP hD hS 0 rfl rfl 2 (by decide) (hG _ fl_java_lang_Throwable_24) (fun _ h9 => h9) rfl (by decide +kernel) (by cases r2 <;> rfl) (by cases r2 <;> rfl) (Nat.le_of_ble_eq_true rfl) d_java_lang_Throwable_init_1_20 (fun H locs hP hD hS => ?_)
  have hP : va_P D kl [(a, .inr (13, [.ref a, va_rf r1, va_rf r2, .null, .null, .int 0, .int 0, .int 0]))] H := hP
  have hD : va_D A [(a, .inr (13, [.ref a, va_rf r1, va_rf r2, .null, .null, .int 0, .int 0, .int 0]))] := hD
  refine lv_iload hx hb d_java_lang_Throwable_init_1_23 (lv_at hl 4 rfl) ?_
  refine lv_if_eq (tgt := 36) hx hb d_java_lang_Throwable_init_1_25 (by decide) (fun _ => ?_) (fun zz1 => absurd rfl zz1)
  refine lv_aload_n hx hb d_java_lang_Throwable_init_1_36 rfl (lv_at hl 0 rfl) ?_
  refine lv_null hx hb d_java_lang_Throwable_init_1_37 ?_
  refine va_put (D := D) (ci := 13) (v := .null) (ty := .array (.object "java/lang/StackTraceElement")) (C := R_Wr) (T := T_Wr) (N := 8) hx hb hG gi_Wr ty_Wr to_Wr nm_Wr hown hK hP hD hS 0 rfl rfl 1 (by decide) (hG _ fl_java_lang_Throwable_17) (fun _ h9 => h9) rfl (by decide +kernel) rfl rfl (Nat.le_of_ble_eq_true rfl) d_java_lang_Throwable_init_1_38 (fun H locs hP hD hS => ?_)
  have hP : va_P D kl [(a, .inr (13, [.ref a, .null, va_rf r2, .null, .null, .int 0, .int 0, .int 0]))] H := hP
  have hD : va_D A [(a, .inr (13, [.ref a, .null, va_rf r2, .null, .null, .int 0, .int 0, .int 0]))] := hD
  refine lv_aload_n hx hb d_java_lang_Throwable_init_1_41 rfl (lv_at hl 0 rfl) ?_
  refine lv_aload_nN hx hb d_java_lang_Throwable_init_1_42 rfl (lv_at hl 1 rfl) ?_
  refine va_put (D := D) (ci := 13) (v := .null) (ty := .object "java/lang/String") (C := R_Wr) (T := T_Wr) (N := 8) hx hb hG gi_Wr ty_Wr to_Wr nm_Wr hown hK hP hD hS 0 rfl rfl 3 (by decide) (hG _ fl_java_lang_Throwable_31) (fun _ h9 => h9) rfl (by decide +kernel) rfl rfl (Nat.le_of_ble_eq_true rfl) d_java_lang_Throwable_init_1_43 (fun H locs hP hD hS => ?_)
  have hP : va_P D kl [(a, .inr (13, [.ref a, .null, va_rf r2, .null, .null, .int 0, .int 0, .int 0]))] H := hP
  have hD : va_D A [(a, .inr (13, [.ref a, .null, va_rf r2, .null, .null, .int 0, .int 0, .int 0]))] := hD
  refine lv_aload_n hx hb d_java_lang_Throwable_init_1_46 rfl (lv_at hl 0 rfl) ?_
  refine lv_aload_nN hx hb d_java_lang_Throwable_init_1_47 rfl (lv_at hl 2 rfl) ?_
  refine va_put (D := D) (ci := 13) (v := .null) (ty := .object "java/lang/Throwable") (C := R_Wr) (T := T_Wr) (N := 8) hx hb hG gi_Wr ty_Wr to_Wr nm_Wr hown hK hP hD hS 0 rfl rfl 0 (by decide) (hG _ fl_java_lang_Throwable_7) (fun _ h9 => h9) rfl (by decide +kernel) rfl rfl (Nat.le_of_ble_eq_true rfl) d_java_lang_Throwable_init_1_48 (fun H locs hP hD hS => ?_)
  have hP : va_P D kl [(a, .inr (13, [.null, .null, va_rf r2, .null, .null, .int 0, .int 0, .int 0]))] H := hP
  have hD : va_D A [(a, .inr (13, [.null, .null, va_rf r2, .null, .null, .int 0, .int 0, .int 0]))] := hD
  refine lv_iload_n hx hb d_java_lang_Throwable_init_1_51 rfl (lv_at hl 3 rfl) ?_
  refine lv_if_ne (tgt := 60) hx hb d_java_lang_Throwable_init_1_52 (by decide) (fun zz2 => absurd zz2 (fun z => z rfl)) (fun _ => ?_)
  refine lv_aload_n hx hb d_java_lang_Throwable_init_1_55 rfl (lv_at hl 0 rfl) ?_
  refine lv_null hx hb d_java_lang_Throwable_init_1_56 ?_
  refine va_put (D := D) (ci := 13) (v := .null) (ty := .object "java/util/List") (C := R_Wr) (T := T_Wr) (N := 8) hx hb hG gi_Wr ty_Wr to_Wr nm_Wr hown hK hP hD hS 0 rfl rfl 2 (by decide) (hG _ fl_java_lang_Throwable_24) (fun _ h9 => h9) rfl (by decide +kernel) rfl rfl (Nat.le_of_ble_eq_true rfl) d_java_lang_Throwable_init_1_57 (fun H locs hP hD hS => ?_)
  have hP : va_P D kl [(a, .inr (13, [.null, .null, .null, .null, .null, .int 0, .int 0, .int 0]))] H := hP
  have hD : va_D A [(a, .inr (13, [.null, .null, .null, .null, .null, .int 0, .int 0, .int 0]))] := hD
  exact W.vret hx hb hr (fun t ht hW => ⟨⟨(), rfl, trivial, by rw [ht]; exact hP, hD⟩, hS.F ht⟩) hS.2.2 d_java_lang_Throwable_init_1_60

set_option maxHeartbeats 4000000 in
set_option maxRecDepth 100000 in
theorem c_Ex_init4 (l : Launch) (D : va_G) (cI cB cJ cZ : ClassId) (sz : Nat) (a : Nat) : Met l y_java_lang_Exception_init_1 (Cond.code y_java_lang_Exception_init_1 b_java_lang_Exception_init_1 5 none :: gG) { frames := 2, cells := 0, slots := 0, locals := 40 } (va_Pc [.ref a, .null, .null, .int 0, .int 0] (fun U => ct_P D (tyL cI cB cJ cZ) [(a, .inr (13, [.null, .null, .null, .null, .null, .int 0, .int 0, .int 0]))] sz U ∧ xt_Z (va_A [(a, .inr (13, [.null, .null, .null, .null, .null, .int 0, .int 0, .int 0]))] sz) U U.heap)) (va_Qv (fun _ : Unit => True) (fun _ t => va_P D kl [(a, .inr (13, [.null, .null, .null, .null, .null, .int 0, .int 0, .int 0]))] t.heap ∧ va_D (va_A [(a, .inr (13, [.null, .null, .null, .null, .null, .int 0, .int 0, .int 0]))] sz) [(a, .inr (13, [.null, .null, .null, .null, .null, .int 0, .int 0, .int 0]))]) (va_A [(a, .inr (13, [.null, .null, .null, .null, .null, .int 0, .int 0, .int 0]))] sz)) 0 0 (va_A [(a, .inr (13, [.null, .null, .null, .null, .null, .int 0, .int 0, .int 0]))] sz) := by
  refine Met.ofW (cc := b_java_lang_Exception_init_1) (maxL := 5) (ret := none) (by decide) rfl ?_
  intro p e s m args below meth c s₁ B hml hv
  obtain ⟨rfl, ⟨hsz, hP, hK, hD0⟩, hZ⟩ := hv
  have hx := B.exec
  have hb := B.bytes
  have hr := B.returns
  have hts := atoms_spec (ws := Cond.code y_java_lang_Exception_init_1 b_java_lang_Exception_init_1 5 none :: gG) B.pre
  have hG : ∀ w9 ∈ gG, w9.before [.ref a, .null, .null, .int 0, .int 0].toArray s = true := fun w9 h => hts w9 (List.mem_cons_of_mem _ h)
  have hown : s.vm.findClass "java/lang/Exception" = some m.cls := findClass_of_methodNamed B.named
  have hlocks := B.notSynchronized
  have hin : meth.name = "<init>" := (name_of_methodNamed B.named B.method).1
  subst hsz
  have hD := hD0.self (sz := s.heap.size)
  generalize hAe : va_A [(a, .inr (13, [.null, .null, .null, .null, .null, .int 0, .int 0, .int 0]))] s.heap.size = A at hD hZ ⊢
  have hA : ∀ q : Nat, s.heap.size ≤ q → A q := fun q h => by rw [← hAe]; exact Or.inr h
  have hS : va_S A s.heap s.heap [] := va_S.rf
  have hl := lv_entry ([.ref a, .null, .null, .int 0, .int 0]) (n := 5) (Nat.le_of_ble_eq_true rfl)
  rw [lg_entry_eq]
  generalize (lg_sl ([.ref a, .null, .null, .int 0, .int 0]) ++ List.replicate (5 - (lg_sl ([.ref a, .null, .null, .int 0, .int 0])).length) Slot.unset).toArray = ls at hl ⊢
  have hl : lv_has ls 5 [(0, .ref a), (1, .null), (2, .null), (3, .int 0), (4, .int 0)] := hl
  refine lv_aload_n hx hb d_java_lang_Exception_init_1_0 rfl (lv_at hl 0 rfl) ?_
  refine lv_aload_nN hx hb d_java_lang_Exception_init_1_1 rfl (lv_at hl 1 rfl) ?_
  refine lv_aload_nN hx hb d_java_lang_Exception_init_1_2 rfl (lv_at hl 2 rfl) ?_
  refine lv_iload_n hx hb d_java_lang_Exception_init_1_3 rfl (lv_at hl 3 rfl) ?_
  refine lv_iload hx hb d_java_lang_Exception_init_1_4 (lv_at hl 4 rfl) ?_
  have hPc := hP.sub (ws' := [(a, .inr (13, [.null, .null, .null, .null, .null, .int 0, .int 0, .int 0]))]) [0] rfl
  have hDc := hD.sub (ws' := [(a, .inr (13, [.null, .null, .null, .null, .null, .int 0, .int 0, .int 0]))]) [0] (by decide) rfl
  have hFc := va_free (wc := [(a, .inr (13, [.null, .null, .null, .null, .null, .int 0, .int 0, .int 0]))]) hD hS hA [0] rfl
  refine va_callv (va_runI (As := [.null, .null, .int 0, .int 0]) (rest := []) ⟨hx, hb, hml, hown, hG⟩ (c_Thr_init4 l D cI cB cJ cZ s.heap.size a) (gcI 4 gG_good hG ml_java_lang_Exception_16 im_java_lang_Throwable_init_1 in_java_lang_Throwable co_java_lang_Throwable_init_1 rfl rfl rfl (by decide +kernel) ⟨(Nat.le_of_ble_eq_true rfl), (Nat.le_of_ble_eq_true rfl)⟩) (cz_pre hPc hK hDc hZ hS hFc) rfl rfl hl.1 rfl (lv_room (Nat.le_of_ble_eq_true rfl)) d_java_lang_Exception_init_1_6 ⟨(Nat.le_of_ble_eq_true rfl), (Nat.le_of_ble_eq_true rfl)⟩) hS (fun q _ h => hFc q h) hFc (fun _ t H1 locs ht hvm hw hB hz1 hk1 hS => ?_)
  obtain ⟨hP1, hD1⟩ := hB
  rw [ht] at hP1
  obtain ⟨hP, hD⟩ := va_join (wr := []) (w1 := [(a, .inr (13, [.null, .null, .null, .null, .null, .int 0, .int 0, .int 0]))]) hP hD [0] [] rfl rfl (by decide) (by decide) hk1 hFc hP1 hD1
  generalize H1 = H at hP hS ⊢
  have hP : va_P D kl [(a, .inr (13, [.null, .null, .null, .null, .null, .int 0, .int 0, .int 0]))] H := hP
  have hD : va_D A [(a, .inr (13, [.null, .null, .null, .null, .null, .int 0, .int 0, .int 0]))] := hD
  exact W.vret hx hb hr (fun t ht hW => ⟨⟨(), rfl, trivial, by rw [ht]; exact hP, hD⟩, hS.F ht⟩) hS.2.2 d_java_lang_Exception_init_1_9

set_option maxHeartbeats 4000000 in
set_option maxRecDepth 100000 in
theorem c_Re_init4 (l : Launch) (D : va_G) (cI cB cJ cZ : ClassId) (sz : Nat) (a : Nat) : Met l y_java_lang_RuntimeException_init_1 (Cond.code y_java_lang_RuntimeException_init_1 b_java_lang_RuntimeException_init_1 5 none :: gG) { frames := 3, cells := 0, slots := 0, locals := 70 } (va_Pc [.ref a, .null, .null, .int 0, .int 0] (fun U => ct_P D (tyL cI cB cJ cZ) [(a, .inr (13, [.null, .null, .null, .null, .null, .int 0, .int 0, .int 0]))] sz U ∧ xt_Z (va_A [(a, .inr (13, [.null, .null, .null, .null, .null, .int 0, .int 0, .int 0]))] sz) U U.heap)) (va_Qv (fun _ : Unit => True) (fun _ t => va_P D kl [(a, .inr (13, [.null, .null, .null, .null, .null, .int 0, .int 0, .int 0]))] t.heap ∧ va_D (va_A [(a, .inr (13, [.null, .null, .null, .null, .null, .int 0, .int 0, .int 0]))] sz) [(a, .inr (13, [.null, .null, .null, .null, .null, .int 0, .int 0, .int 0]))]) (va_A [(a, .inr (13, [.null, .null, .null, .null, .null, .int 0, .int 0, .int 0]))] sz)) 0 0 (va_A [(a, .inr (13, [.null, .null, .null, .null, .null, .int 0, .int 0, .int 0]))] sz) := by
  refine Met.ofW (cc := b_java_lang_RuntimeException_init_1) (maxL := 5) (ret := none) (by decide) rfl ?_
  intro p e s m args below meth c s₁ B hml hv
  obtain ⟨rfl, ⟨hsz, hP, hK, hD0⟩, hZ⟩ := hv
  have hx := B.exec
  have hb := B.bytes
  have hr := B.returns
  have hts := atoms_spec (ws := Cond.code y_java_lang_RuntimeException_init_1 b_java_lang_RuntimeException_init_1 5 none :: gG) B.pre
  have hG : ∀ w9 ∈ gG, w9.before [.ref a, .null, .null, .int 0, .int 0].toArray s = true := fun w9 h => hts w9 (List.mem_cons_of_mem _ h)
  have hown : s.vm.findClass "java/lang/RuntimeException" = some m.cls := findClass_of_methodNamed B.named
  have hlocks := B.notSynchronized
  have hin : meth.name = "<init>" := (name_of_methodNamed B.named B.method).1
  subst hsz
  have hD := hD0.self (sz := s.heap.size)
  generalize hAe : va_A [(a, .inr (13, [.null, .null, .null, .null, .null, .int 0, .int 0, .int 0]))] s.heap.size = A at hD hZ ⊢
  have hA : ∀ q : Nat, s.heap.size ≤ q → A q := fun q h => by rw [← hAe]; exact Or.inr h
  have hS : va_S A s.heap s.heap [] := va_S.rf
  have hl := lv_entry ([.ref a, .null, .null, .int 0, .int 0]) (n := 5) (Nat.le_of_ble_eq_true rfl)
  rw [lg_entry_eq]
  generalize (lg_sl ([.ref a, .null, .null, .int 0, .int 0]) ++ List.replicate (5 - (lg_sl ([.ref a, .null, .null, .int 0, .int 0])).length) Slot.unset).toArray = ls at hl ⊢
  have hl : lv_has ls 5 [(0, .ref a), (1, .null), (2, .null), (3, .int 0), (4, .int 0)] := hl
  refine lv_aload_n hx hb d_java_lang_RuntimeException_init_1_0 rfl (lv_at hl 0 rfl) ?_
  refine lv_aload_nN hx hb d_java_lang_RuntimeException_init_1_1 rfl (lv_at hl 1 rfl) ?_
  refine lv_aload_nN hx hb d_java_lang_RuntimeException_init_1_2 rfl (lv_at hl 2 rfl) ?_
  refine lv_iload_n hx hb d_java_lang_RuntimeException_init_1_3 rfl (lv_at hl 3 rfl) ?_
  refine lv_iload hx hb d_java_lang_RuntimeException_init_1_4 (lv_at hl 4 rfl) ?_
  have hPc := hP.sub (ws' := [(a, .inr (13, [.null, .null, .null, .null, .null, .int 0, .int 0, .int 0]))]) [0] rfl
  have hDc := hD.sub (ws' := [(a, .inr (13, [.null, .null, .null, .null, .null, .int 0, .int 0, .int 0]))]) [0] (by decide) rfl
  have hFc := va_free (wc := [(a, .inr (13, [.null, .null, .null, .null, .null, .int 0, .int 0, .int 0]))]) hD hS hA [0] rfl
  refine va_callv (va_runI (As := [.null, .null, .int 0, .int 0]) (rest := []) ⟨hx, hb, hml, hown, hG⟩ (c_Ex_init4 l D cI cB cJ cZ s.heap.size a) (gcI 4 gG_good hG ml_java_lang_RuntimeException_16 im_java_lang_Exception_init_1 in_java_lang_Exception co_java_lang_Exception_init_1 rfl rfl rfl (by decide +kernel) ⟨(Nat.le_of_ble_eq_true rfl), (Nat.le_of_ble_eq_true rfl)⟩) (cz_pre hPc hK hDc hZ hS hFc) rfl rfl hl.1 rfl (lv_room (Nat.le_of_ble_eq_true rfl)) d_java_lang_RuntimeException_init_1_6 ⟨(Nat.le_of_ble_eq_true rfl), (Nat.le_of_ble_eq_true rfl)⟩) hS (fun q _ h => hFc q h) hFc (fun _ t H1 locs ht hvm hw hB hz1 hk1 hS => ?_)
  obtain ⟨hP1, hD1⟩ := hB
  rw [ht] at hP1
  obtain ⟨hP, hD⟩ := va_join (wr := []) (w1 := [(a, .inr (13, [.null, .null, .null, .null, .null, .int 0, .int 0, .int 0]))]) hP hD [0] [] rfl rfl (by decide) (by decide) hk1 hFc hP1 hD1
  generalize H1 = H at hP hS ⊢
  have hP : va_P D kl [(a, .inr (13, [.null, .null, .null, .null, .null, .int 0, .int 0, .int 0]))] H := hP
  have hD : va_D A [(a, .inr (13, [.null, .null, .null, .null, .null, .int 0, .int 0, .int 0]))] := hD
  exact W.vret hx hb hr (fun t ht hW => ⟨⟨(), rfl, trivial, by rw [ht]; exact hP, hD⟩, hS.F ht⟩) hS.2.2 d_java_lang_RuntimeException_init_1_9

theorem d_Wr_init_0 : decode b_Wr_init 0 = .ok (.aload_n 0, 1) := by decide +kernel
theorem d_Wr_init_1 : decode b_Wr_init 1 = .ok (.aconst_null, 1) := by decide +kernel
theorem d_Wr_init_2 : decode b_Wr_init 2 = .ok (.aconst_null, 1) := by decide +kernel
theorem d_Wr_init_3 : decode b_Wr_init 3 = .ok (.iconst 0, 1) := by decide +kernel
theorem d_Wr_init_4 : decode b_Wr_init 4 = .ok (.iconst 0, 1) := by decide +kernel
theorem d_Wr_init_5 : decode b_Wr_init 5 = .ok (.invokespecial 1, 3) := by decide +kernel
theorem d_Wr_init_8 : decode b_Wr_init 8 = .ok (.aload_n 0, 1) := by decide +kernel
theorem d_Wr_init_9 : decode b_Wr_init 9 = .ok (.iload_n 1, 1) := by decide +kernel
theorem d_Wr_init_10 : decode b_Wr_init 10 = .ok (.putfield 7, 3) := by decide +kernel
theorem d_Wr_init_13 : decode b_Wr_init 13 = .ok (.aload_n 0, 1) := by decide +kernel
theorem d_Wr_init_14 : decode b_Wr_init 14 = .ok (.iload_n 2, 1) := by decide +kernel
theorem d_Wr_init_15 : decode b_Wr_init 15 = .ok (.putfield 13, 3) := by decide +kernel
theorem d_Wr_init_18 : decode b_Wr_init 18 = .ok (.return_, 1) := by decide +kernel
set_option maxHeartbeats 4000000 in
set_option maxRecDepth 100000 in
theorem c_Wr_init (l : Launch) (D : va_G) (cI cB cJ cZ : ClassId) (sz : Nat) (a : Nat) (kk pp : Int32) : Met l y_Wr_init (Cond.code y_Wr_init b_Wr_init 3 none :: gG) { frames := 4, cells := 0, slots := 0, locals := 100 } (va_Pc [.ref a, .int kk, .int pp] (fun U => ct_P D (tyL cI cB cJ cZ) [(a, .inr (13, [.null, .null, .null, .null, .null, .int 0, .int 0, .int 0]))] sz U ∧ xt_Z (va_A [(a, .inr (13, [.null, .null, .null, .null, .null, .int 0, .int 0, .int 0]))] sz) U U.heap)) (va_Qv (fun _ : Unit => True) (fun _ t => va_P D kl [(a, .inr (13, [.null, .null, .null, .null, .null, .int kk, .int pp, .int 0]))] t.heap ∧ va_D (va_A [(a, .inr (13, [.null, .null, .null, .null, .null, .int 0, .int 0, .int 0]))] sz) [(a, .inr (13, [.null, .null, .null, .null, .null, .int kk, .int pp, .int 0]))]) (va_A [(a, .inr (13, [.null, .null, .null, .null, .null, .int 0, .int 0, .int 0]))] sz)) 0 0 (va_A [(a, .inr (13, [.null, .null, .null, .null, .null, .int 0, .int 0, .int 0]))] sz) := by
  refine Met.ofW (cc := b_Wr_init) (maxL := 3) (ret := none) (by decide) rfl ?_
  intro p e s m args below meth c s₁ B hml hv
  obtain ⟨rfl, ⟨hsz, hP, hK, hD0⟩, hZ⟩ := hv
  have hx := B.exec
  have hb := B.bytes
  have hr := B.returns
  have hts := atoms_spec (ws := Cond.code y_Wr_init b_Wr_init 3 none :: gG) B.pre
  have hG : ∀ w9 ∈ gG, w9.before [.ref a, .int kk, .int pp].toArray s = true := fun w9 h => hts w9 (List.mem_cons_of_mem _ h)
  have hown : s.vm.findClass R_Wr = some m.cls := findClass_of_methodNamed B.named
  have hlocks := B.notSynchronized
  have hin : meth.name = "<init>" := (name_of_methodNamed B.named B.method).1
  subst hsz
  have hD := hD0.self (sz := s.heap.size)
  generalize hAe : va_A [(a, .inr (13, [.null, .null, .null, .null, .null, .int 0, .int 0, .int 0]))] s.heap.size = A at hD hZ ⊢
  have hA : ∀ q : Nat, s.heap.size ≤ q → A q := fun q h => by rw [← hAe]; exact Or.inr h
  have hS : va_S A s.heap s.heap [] := va_S.rf
  have hl := lv_entry ([.ref a, .int kk, .int pp]) (n := 3) (Nat.le_of_ble_eq_true rfl)
  rw [lg_entry_eq]
  generalize (lg_sl ([.ref a, .int kk, .int pp]) ++ List.replicate (3 - (lg_sl ([.ref a, .int kk, .int pp])).length) Slot.unset).toArray = ls at hl ⊢
  have hl : lv_has ls 3 [(0, .ref a), (1, .int kk), (2, .int pp)] := hl
  refine lv_aload_n hx hb d_Wr_init_0 rfl (lv_at hl 0 rfl) ?_
  refine lv_null hx hb d_Wr_init_1 ?_
  refine lv_null hx hb d_Wr_init_2 ?_
  refine lv_iconst (v := 0) hx hb d_Wr_init_3 (by decide) ?_
  refine lv_iconst (v := 0) hx hb d_Wr_init_4 (by decide) ?_
  have hPc := hP.sub (ws' := [(a, .inr (13, [.null, .null, .null, .null, .null, .int 0, .int 0, .int 0]))]) [0] rfl
  have hDc := hD.sub (ws' := [(a, .inr (13, [.null, .null, .null, .null, .null, .int 0, .int 0, .int 0]))]) [0] (by decide) rfl
  have hFc := va_free (wc := [(a, .inr (13, [.null, .null, .null, .null, .null, .int 0, .int 0, .int 0]))]) hD hS hA [0] rfl
  refine va_callv (va_runI (As := [.null, .null, .int 0, .int 0]) (rest := []) ⟨hx, hb, hml, hown, hG⟩ (c_Re_init4 l D cI cB cJ cZ s.heap.size a) (gcI 4 gG_good hG ml_Wr_1 im_java_lang_RuntimeException_init_1 in_java_lang_RuntimeException co_java_lang_RuntimeException_init_1 rfl rfl rfl (by decide +kernel) ⟨(Nat.le_of_ble_eq_true rfl), (Nat.le_of_ble_eq_true rfl)⟩) (cz_pre hPc hK hDc hZ hS hFc) rfl rfl hl.1 rfl (lv_room (Nat.le_of_ble_eq_true rfl)) d_Wr_init_5 ⟨(Nat.le_of_ble_eq_true rfl), (Nat.le_of_ble_eq_true rfl)⟩) hS (fun q _ h => hFc q h) hFc (fun _ t H1 locs ht hvm hw hB hz1 hk1 hS => ?_)
  obtain ⟨hP1, hD1⟩ := hB
  rw [ht] at hP1
  obtain ⟨hP, hD⟩ := va_join (wr := []) (w1 := [(a, .inr (13, [.null, .null, .null, .null, .null, .int 0, .int 0, .int 0]))]) hP hD [0] [] rfl rfl (by decide) (by decide) hk1 hFc hP1 hD1
  generalize H1 = H at hP hS ⊢
  have hP : va_P D kl [(a, .inr (13, [.null, .null, .null, .null, .null, .int 0, .int 0, .int 0]))] H := hP
  have hD : va_D A [(a, .inr (13, [.null, .null, .null, .null, .null, .int 0, .int 0, .int 0]))] := hD
  refine lv_aload_n hx hb d_Wr_init_8 rfl (lv_at hl 0 rfl) ?_
  refine lv_iload_n hx hb d_Wr_init_9 rfl (lv_at hl 1 rfl) ?_
  refine va_putF (D := D) (ci := 13) (v := .int kk) (ty := .int) (C := R_Wr) (T := T_Wr) (N := 8) hx hb hG gi_Wr ty_Wr to_Wr nm_Wr hown hK hP hD hS 0 rfl rfl 5 (by decide) (hG _ fl_Wr_7) (fun _ h9 => h9) rfl hin rfl (by decide +kernel) rfl rfl (Nat.le_of_ble_eq_true rfl) d_Wr_init_10 (fun H locs hP hD hS => ?_)
  have hP : va_P D kl [(a, .inr (13, [.null, .null, .null, .null, .null, .int kk, .int 0, .int 0]))] H := hP
  have hD : va_D A [(a, .inr (13, [.null, .null, .null, .null, .null, .int kk, .int 0, .int 0]))] := hD
  refine lv_aload_n hx hb d_Wr_init_13 rfl (lv_at hl 0 rfl) ?_
  refine lv_iload_n hx hb d_Wr_init_14 rfl (lv_at hl 2 rfl) ?_
  refine va_putF (D := D) (ci := 13) (v := .int pp) (ty := .int) (C := R_Wr) (T := T_Wr) (N := 8) hx hb hG gi_Wr ty_Wr to_Wr nm_Wr hown hK hP hD hS 0 rfl rfl 6 (by decide) (hG _ fl_Wr_13) (fun _ h9 => h9) rfl hin rfl (by decide +kernel) rfl rfl (Nat.le_of_ble_eq_true rfl) d_Wr_init_15 (fun H locs hP hD hS => ?_)
  have hP : va_P D kl [(a, .inr (13, [.null, .null, .null, .null, .null, .int kk, .int pp, .int 0]))] H := hP
  have hD : va_D A [(a, .inr (13, [.null, .null, .null, .null, .null, .int kk, .int pp, .int 0]))] := hD
  exact W.vret hx hb hr (fun t ht hW => ⟨⟨(), rfl, trivial, by rw [ht]; exact hP, hD⟩, hS.F ht⟩) hS.2.2 d_Wr_init_18

theorem d_M_parts_0 : decode b_M_parts 0 = .ok (.aload_n 0, 1) := by decide +kernel
theorem d_M_parts_1 : decode b_M_parts 1 = .ok (.getfield 27, 3) := by decide +kernel
theorem d_M_parts_4 : decode b_M_parts 4 = .ok (.aload_n 0, 1) := by decide +kernel
theorem d_M_parts_5 : decode b_M_parts 5 = .ok (.getfield 14, 3) := by decide +kernel
theorem d_M_parts_8 : decode b_M_parts 8 = .ok (.if_icmp .ge 113, 3) := by decide +kernel
theorem d_M_parts_11 : decode b_M_parts 11 = .ok (.aload_n 0, 1) := by decide +kernel
theorem d_M_parts_12 : decode b_M_parts 12 = .ok (.getfield 8, 3) := by decide +kernel
theorem d_M_parts_15 : decode b_M_parts 15 = .ok (.aload_n 0, 1) := by decide +kernel
theorem d_M_parts_16 : decode b_M_parts 16 = .ok (.getfield 27, 3) := by decide +kernel
theorem d_M_parts_19 : decode b_M_parts 19 = .ok (.baload, 1) := by decide +kernel
theorem d_M_parts_20 : decode b_M_parts 20 = .ok (.istore_n 1, 1) := by decide +kernel
theorem d_M_parts_21 : decode b_M_parts 21 = .ok (.iload_n 1, 1) := by decide +kernel
theorem d_M_parts_22 : decode b_M_parts 22 = .ok (.bipush 45, 2) := by decide +kernel
theorem d_M_parts_24 : decode b_M_parts 24 = .ok (.if_icmp .ne 56, 3) := by decide +kernel
theorem d_M_parts_27 : decode b_M_parts 27 = .ok (.aload_n 0, 1) := by decide +kernel
theorem d_M_parts_28 : decode b_M_parts 28 = .ok (.aload_n 0, 1) := by decide +kernel
theorem d_M_parts_29 : decode b_M_parts 29 = .ok (.getfield 27, 3) := by decide +kernel
theorem d_M_parts_32 : decode b_M_parts 32 = .ok (.iconst 1, 1) := by decide +kernel
theorem d_M_parts_33 : decode b_M_parts 33 = .ok (.iadd, 1) := by decide +kernel
theorem d_M_parts_34 : decode b_M_parts 34 = .ok (.invokevirtual 274, 3) := by decide +kernel
theorem d_M_parts_37 : decode b_M_parts 37 = .ok (.bipush 45, 2) := by decide +kernel
theorem d_M_parts_39 : decode b_M_parts 39 = .ok (.if_icmp .ne 41, 3) := by decide +kernel
theorem d_M_parts_42 : decode b_M_parts 42 = .ok (.aload_n 0, 1) := by decide +kernel
theorem d_M_parts_43 : decode b_M_parts 43 = .ok (.getfield 27, 3) := by decide +kernel
theorem d_M_parts_46 : decode b_M_parts 46 = .ok (.aload_n 0, 1) := by decide +kernel
theorem d_M_parts_47 : decode b_M_parts 47 = .ok (.getfield 14, 3) := by decide +kernel
theorem d_M_parts_50 : decode b_M_parts 50 = .ok (.if_icmp .ge 68, 3) := by decide +kernel
theorem d_M_parts_53 : decode b_M_parts 53 = .ok (.aload_n 0, 1) := by decide +kernel
theorem d_M_parts_54 : decode b_M_parts 54 = .ok (.getfield 8, 3) := by decide +kernel
theorem d_M_parts_57 : decode b_M_parts 57 = .ok (.aload_n 0, 1) := by decide +kernel
theorem d_M_parts_58 : decode b_M_parts 58 = .ok (.getfield 27, 3) := by decide +kernel
theorem d_M_parts_61 : decode b_M_parts 61 = .ok (.baload, 1) := by decide +kernel
theorem d_M_parts_62 : decode b_M_parts 62 = .ok (.bipush 10, 2) := by decide +kernel
theorem d_M_parts_64 : decode b_M_parts 64 = .ok (.if_icmp .eq 54, 3) := by decide +kernel
theorem d_M_parts_67 : decode b_M_parts 67 = .ok (.aload_n 0, 1) := by decide +kernel
theorem d_M_parts_68 : decode b_M_parts 68 = .ok (.dup, 1) := by decide +kernel
theorem d_M_parts_69 : decode b_M_parts 69 = .ok (.getfield 27, 3) := by decide +kernel
theorem d_M_parts_72 : decode b_M_parts 72 = .ok (.iconst 1, 1) := by decide +kernel
theorem d_M_parts_73 : decode b_M_parts 73 = .ok (.iadd, 1) := by decide +kernel
theorem d_M_parts_74 : decode b_M_parts 74 = .ok (.putfield 27, 3) := by decide +kernel
theorem d_M_parts_77 : decode b_M_parts 77 = .ok (.goto (-35), 3) := by decide +kernel
theorem d_M_parts_80 : decode b_M_parts 80 = .ok (.iload_n 1, 1) := by decide +kernel
theorem d_M_parts_81 : decode b_M_parts 81 = .ok (.bipush 32, 2) := by decide +kernel
theorem d_M_parts_83 : decode b_M_parts 83 = .ok (.if_icmp .eq 21, 3) := by decide +kernel
theorem d_M_parts_86 : decode b_M_parts 86 = .ok (.iload_n 1, 1) := by decide +kernel
theorem d_M_parts_87 : decode b_M_parts 87 = .ok (.bipush 9, 2) := by decide +kernel
theorem d_M_parts_89 : decode b_M_parts 89 = .ok (.if_icmp .eq 15, 3) := by decide +kernel
theorem d_M_parts_92 : decode b_M_parts 92 = .ok (.iload_n 1, 1) := by decide +kernel
theorem d_M_parts_93 : decode b_M_parts 93 = .ok (.bipush 10, 2) := by decide +kernel
theorem d_M_parts_95 : decode b_M_parts 95 = .ok (.if_icmp .eq 9, 3) := by decide +kernel
theorem d_M_parts_98 : decode b_M_parts 98 = .ok (.iload_n 1, 1) := by decide +kernel
theorem d_M_parts_99 : decode b_M_parts 99 = .ok (.bipush 13, 2) := by decide +kernel
theorem d_M_parts_101 : decode b_M_parts 101 = .ok (.if_icmp .ne 16, 3) := by decide +kernel
theorem d_M_parts_104 : decode b_M_parts 104 = .ok (.aload_n 0, 1) := by decide +kernel
theorem d_M_parts_105 : decode b_M_parts 105 = .ok (.dup, 1) := by decide +kernel
theorem d_M_parts_106 : decode b_M_parts 106 = .ok (.getfield 27, 3) := by decide +kernel
theorem d_M_parts_109 : decode b_M_parts 109 = .ok (.iconst 1, 1) := by decide +kernel
theorem d_M_parts_110 : decode b_M_parts 110 = .ok (.iadd, 1) := by decide +kernel
theorem d_M_parts_111 : decode b_M_parts 111 = .ok (.putfield 27, 3) := by decide +kernel
theorem d_M_parts_114 : decode b_M_parts 114 = .ok (.goto 4, 3) := by decide +kernel
theorem d_M_parts_117 : decode b_M_parts 117 = .ok (.return_, 1) := by decide +kernel
theorem d_M_parts_118 : decode b_M_parts 118 = .ok (.goto (-118), 3) := by decide +kernel
theorem d_M_parts_121 : decode b_M_parts 121 = .ok (.return_, 1) := by decide +kernel
theorem d_M_peek_0 : decode b_M_peek 0 = .ok (.aload_n 0, 1) := by decide +kernel
theorem d_M_peek_1 : decode b_M_peek 1 = .ok (.getfield 39, 3) := by decide +kernel
theorem d_M_peek_4 : decode b_M_peek 4 = .ok (.ifCond .eq 8, 3) := by decide +kernel
theorem d_M_peek_7 : decode b_M_peek 7 = .ok (.aload_n 0, 1) := by decide +kernel
theorem d_M_peek_8 : decode b_M_peek 8 = .ok (.getfield 30, 3) := by decide +kernel
theorem d_M_peek_11 : decode b_M_peek 11 = .ok (.ireturn, 1) := by decide +kernel
theorem d_M_peek_12 : decode b_M_peek 12 = .ok (.aload_n 0, 1) := by decide +kernel
theorem d_M_peek_13 : decode b_M_peek 13 = .ok (.invokevirtual 278, 3) := by decide +kernel
theorem d_M_peek_16 : decode b_M_peek 16 = .ok (.aload_n 0, 1) := by decide +kernel
theorem d_M_peek_17 : decode b_M_peek 17 = .ok (.iconst 1, 1) := by decide +kernel
theorem d_M_peek_18 : decode b_M_peek 18 = .ok (.putfield 39, 3) := by decide +kernel
theorem d_M_peek_21 : decode b_M_peek 21 = .ok (.aload_n 0, 1) := by decide +kernel
theorem d_M_peek_22 : decode b_M_peek 22 = .ok (.aload_n 0, 1) := by decide +kernel
theorem d_M_peek_23 : decode b_M_peek 23 = .ok (.getfield 27, 3) := by decide +kernel
theorem d_M_peek_26 : decode b_M_peek 26 = .ok (.putfield 33, 3) := by decide +kernel
theorem d_M_peek_29 : decode b_M_peek 29 = .ok (.aload_n 0, 1) := by decide +kernel
theorem d_M_peek_30 : decode b_M_peek 30 = .ok (.aload_n 0, 1) := by decide +kernel
theorem d_M_peek_31 : decode b_M_peek 31 = .ok (.getfield 27, 3) := by decide +kernel
theorem d_M_peek_34 : decode b_M_peek 34 = .ok (.putfield 36, 3) := by decide +kernel
theorem d_M_peek_37 : decode b_M_peek 37 = .ok (.aload_n 0, 1) := by decide +kernel
theorem d_M_peek_38 : decode b_M_peek 38 = .ok (.iconst 0, 1) := by decide +kernel
theorem d_M_peek_39 : decode b_M_peek 39 = .ok (.putfield 30, 3) := by decide +kernel
theorem d_M_peek_42 : decode b_M_peek 42 = .ok (.aload_n 0, 1) := by decide +kernel
theorem d_M_peek_43 : decode b_M_peek 43 = .ok (.getfield 27, 3) := by decide +kernel
theorem d_M_peek_46 : decode b_M_peek 46 = .ok (.aload_n 0, 1) := by decide +kernel
theorem d_M_peek_47 : decode b_M_peek 47 = .ok (.getfield 14, 3) := by decide +kernel
theorem d_M_peek_50 : decode b_M_peek 50 = .ok (.if_icmp .ne 5, 3) := by decide +kernel
theorem d_M_peek_53 : decode b_M_peek 53 = .ok (.iconst 0, 1) := by decide +kernel
theorem d_M_peek_54 : decode b_M_peek 54 = .ok (.ireturn, 1) := by decide +kernel
theorem d_M_peek_55 : decode b_M_peek 55 = .ok (.aload_n 0, 1) := by decide +kernel
theorem d_M_peek_56 : decode b_M_peek 56 = .ok (.getfield 8, 3) := by decide +kernel
theorem d_M_peek_59 : decode b_M_peek 59 = .ok (.aload_n 0, 1) := by decide +kernel
theorem d_M_peek_60 : decode b_M_peek 60 = .ok (.getfield 27, 3) := by decide +kernel
theorem d_M_peek_63 : decode b_M_peek 63 = .ok (.baload, 1) := by decide +kernel
theorem d_M_peek_64 : decode b_M_peek 64 = .ok (.istore_n 1, 1) := by decide +kernel
theorem d_M_peek_65 : decode b_M_peek 65 = .ok (.iload_n 1, 1) := by decide +kernel
theorem d_M_peek_66 : decode b_M_peek 66 = .ok (.invokestatic 281, 3) := by decide +kernel
theorem d_M_peek_69 : decode b_M_peek 69 = .ok (.ifCond .eq 97, 3) := by decide +kernel
theorem d_M_peek_72 : decode b_M_peek 72 = .ok (.aload_n 0, 1) := by decide +kernel
theorem d_M_peek_73 : decode b_M_peek 73 = .ok (.getfield 36, 3) := by decide +kernel
theorem d_M_peek_76 : decode b_M_peek 76 = .ok (.aload_n 0, 1) := by decide +kernel
theorem d_M_peek_77 : decode b_M_peek 77 = .ok (.getfield 14, 3) := by decide +kernel
theorem d_M_peek_80 : decode b_M_peek 80 = .ok (.if_icmp .ge 60, 3) := by decide +kernel
theorem d_M_peek_83 : decode b_M_peek 83 = .ok (.aload_n 0, 1) := by decide +kernel
theorem d_M_peek_84 : decode b_M_peek 84 = .ok (.getfield 8, 3) := by decide +kernel
theorem d_M_peek_87 : decode b_M_peek 87 = .ok (.aload_n 0, 1) := by decide +kernel
theorem d_M_peek_88 : decode b_M_peek 88 = .ok (.getfield 36, 3) := by decide +kernel
theorem d_M_peek_91 : decode b_M_peek 91 = .ok (.baload, 1) := by decide +kernel
theorem d_M_peek_92 : decode b_M_peek 92 = .ok (.invokestatic 281, 3) := by decide +kernel
theorem d_M_peek_95 : decode b_M_peek 95 = .ok (.ifCond .ne 32, 3) := by decide +kernel
theorem d_M_peek_98 : decode b_M_peek 98 = .ok (.aload_n 0, 1) := by decide +kernel
theorem d_M_peek_99 : decode b_M_peek 99 = .ok (.getfield 8, 3) := by decide +kernel
theorem d_M_peek_102 : decode b_M_peek 102 = .ok (.aload_n 0, 1) := by decide +kernel
theorem d_M_peek_103 : decode b_M_peek 103 = .ok (.getfield 36, 3) := by decide +kernel
theorem d_M_peek_106 : decode b_M_peek 106 = .ok (.baload, 1) := by decide +kernel
theorem d_M_peek_107 : decode b_M_peek 107 = .ok (.invokestatic 285, 3) := by decide +kernel
theorem d_M_peek_110 : decode b_M_peek 110 = .ok (.ifCond .ne 17, 3) := by decide +kernel
theorem d_M_peek_113 : decode b_M_peek 113 = .ok (.aload_n 0, 1) := by decide +kernel
theorem d_M_peek_114 : decode b_M_peek 114 = .ok (.getfield 8, 3) := by decide +kernel
theorem d_M_peek_117 : decode b_M_peek 117 = .ok (.aload_n 0, 1) := by decide +kernel
theorem d_M_peek_118 : decode b_M_peek 118 = .ok (.getfield 36, 3) := by decide +kernel
theorem d_M_peek_121 : decode b_M_peek 121 = .ok (.baload, 1) := by decide +kernel
theorem d_M_peek_122 : decode b_M_peek 122 = .ok (.bipush 95, 2) := by decide +kernel
theorem d_M_peek_124 : decode b_M_peek 124 = .ok (.if_icmp .ne 16, 3) := by decide +kernel
theorem d_M_peek_127 : decode b_M_peek 127 = .ok (.aload_n 0, 1) := by decide +kernel
theorem d_M_peek_128 : decode b_M_peek 128 = .ok (.dup, 1) := by decide +kernel
theorem d_M_peek_129 : decode b_M_peek 129 = .ok (.getfield 36, 3) := by decide +kernel
theorem d_M_peek_132 : decode b_M_peek 132 = .ok (.iconst 1, 1) := by decide +kernel
theorem d_M_peek_133 : decode b_M_peek 133 = .ok (.iadd, 1) := by decide +kernel
theorem d_M_peek_134 : decode b_M_peek 134 = .ok (.putfield 36, 3) := by decide +kernel
theorem d_M_peek_137 : decode b_M_peek 137 = .ok (.goto (-65), 3) := by decide +kernel
theorem d_M_peek_140 : decode b_M_peek 140 = .ok (.aload_n 0, 1) := by decide +kernel
theorem d_M_peek_141 : decode b_M_peek 141 = .ok (.aload_n 0, 1) := by decide +kernel
theorem d_M_peek_142 : decode b_M_peek 142 = .ok (.getfield 36, 3) := by decide +kernel
theorem d_M_peek_145 : decode b_M_peek 145 = .ok (.aload_n 0, 1) := by decide +kernel
theorem d_M_peek_146 : decode b_M_peek 146 = .ok (.getfield 27, 3) := by decide +kernel
theorem d_M_peek_149 : decode b_M_peek 149 = .ok (.isub, 1) := by decide +kernel
theorem d_M_peek_150 : decode b_M_peek 150 = .ok (.bipush 31, 2) := by decide +kernel
theorem d_M_peek_152 : decode b_M_peek 152 = .ok (.if_icmp .le 7, 3) := by decide +kernel
theorem d_M_peek_155 : decode b_M_peek 155 = .ok (.iconst 3, 1) := by decide +kernel
theorem d_M_peek_156 : decode b_M_peek 156 = .ok (.goto 4, 3) := by decide +kernel
theorem d_M_peek_159 : decode b_M_peek 159 = .ok (.iconst 1, 1) := by decide +kernel
theorem d_M_peek_160 : decode b_M_peek 160 = .ok (.putfield 30, 3) := by decide +kernel
theorem d_M_peek_163 : decode b_M_peek 163 = .ok (.goto 123, 3) := by decide +kernel
theorem d_M_peek_166 : decode b_M_peek 166 = .ok (.iload_n 1, 1) := by decide +kernel
theorem d_M_peek_167 : decode b_M_peek 167 = .ok (.invokestatic 285, 3) := by decide +kernel
theorem d_M_peek_170 : decode b_M_peek 170 = .ok (.ifCond .eq 68, 3) := by decide +kernel
theorem d_M_peek_173 : decode b_M_peek 173 = .ok (.aload_n 0, 1) := by decide +kernel
theorem d_M_peek_174 : decode b_M_peek 174 = .ok (.getfield 36, 3) := by decide +kernel
theorem d_M_peek_177 : decode b_M_peek 177 = .ok (.aload_n 0, 1) := by decide +kernel
theorem d_M_peek_178 : decode b_M_peek 178 = .ok (.getfield 14, 3) := by decide +kernel
theorem d_M_peek_181 : decode b_M_peek 181 = .ok (.if_icmp .ge 31, 3) := by decide +kernel
theorem d_M_peek_184 : decode b_M_peek 184 = .ok (.aload_n 0, 1) := by decide +kernel
theorem d_M_peek_185 : decode b_M_peek 185 = .ok (.getfield 8, 3) := by decide +kernel
theorem d_M_peek_188 : decode b_M_peek 188 = .ok (.aload_n 0, 1) := by decide +kernel
theorem d_M_peek_189 : decode b_M_peek 189 = .ok (.getfield 36, 3) := by decide +kernel
theorem d_M_peek_192 : decode b_M_peek 192 = .ok (.baload, 1) := by decide +kernel
theorem d_M_peek_193 : decode b_M_peek 193 = .ok (.invokestatic 285, 3) := by decide +kernel
theorem d_M_peek_196 : decode b_M_peek 196 = .ok (.ifCond .eq 16, 3) := by decide +kernel
theorem d_M_peek_199 : decode b_M_peek 199 = .ok (.aload_n 0, 1) := by decide +kernel
theorem d_M_peek_200 : decode b_M_peek 200 = .ok (.dup, 1) := by decide +kernel
theorem d_M_peek_201 : decode b_M_peek 201 = .ok (.getfield 36, 3) := by decide +kernel
theorem d_M_peek_204 : decode b_M_peek 204 = .ok (.iconst 1, 1) := by decide +kernel
theorem d_M_peek_205 : decode b_M_peek 205 = .ok (.iadd, 1) := by decide +kernel
theorem d_M_peek_206 : decode b_M_peek 206 = .ok (.putfield 36, 3) := by decide +kernel
theorem d_M_peek_209 : decode b_M_peek 209 = .ok (.goto (-36), 3) := by decide +kernel
theorem d_M_peek_212 : decode b_M_peek 212 = .ok (.aload_n 0, 1) := by decide +kernel
theorem d_M_peek_213 : decode b_M_peek 213 = .ok (.aload_n 0, 1) := by decide +kernel
theorem d_M_peek_214 : decode b_M_peek 214 = .ok (.getfield 36, 3) := by decide +kernel
theorem d_M_peek_217 : decode b_M_peek 217 = .ok (.aload_n 0, 1) := by decide +kernel
theorem d_M_peek_218 : decode b_M_peek 218 = .ok (.getfield 27, 3) := by decide +kernel
theorem d_M_peek_221 : decode b_M_peek 221 = .ok (.isub, 1) := by decide +kernel
theorem d_M_peek_222 : decode b_M_peek 222 = .ok (.bipush 9, 2) := by decide +kernel
theorem d_M_peek_224 : decode b_M_peek 224 = .ok (.if_icmp .le 7, 3) := by decide +kernel
theorem d_M_peek_227 : decode b_M_peek 227 = .ok (.iconst 3, 1) := by decide +kernel
theorem d_M_peek_228 : decode b_M_peek 228 = .ok (.goto 4, 3) := by decide +kernel
theorem d_M_peek_231 : decode b_M_peek 231 = .ok (.iconst 2, 1) := by decide +kernel
theorem d_M_peek_232 : decode b_M_peek 232 = .ok (.putfield 30, 3) := by decide +kernel
theorem d_M_peek_235 : decode b_M_peek 235 = .ok (.goto 51, 3) := by decide +kernel
theorem d_M_peek_238 : decode b_M_peek 238 = .ok (.aload_n 0, 1) := by decide +kernel
theorem d_M_peek_239 : decode b_M_peek 239 = .ok (.aload_n 0, 1) := by decide +kernel
theorem d_M_peek_240 : decode b_M_peek 240 = .ok (.getfield 27, 3) := by decide +kernel
theorem d_M_peek_243 : decode b_M_peek 243 = .ok (.iconst 1, 1) := by decide +kernel
theorem d_M_peek_244 : decode b_M_peek 244 = .ok (.iadd, 1) := by decide +kernel
theorem d_M_peek_245 : decode b_M_peek 245 = .ok (.putfield 36, 3) := by decide +kernel
theorem d_M_peek_248 : decode b_M_peek 248 = .ok (.aload_n 0, 1) := by decide +kernel
theorem d_M_peek_249 : decode b_M_peek 249 = .ok (.iload_n 1, 1) := by decide +kernel
theorem d_M_peek_250 : decode b_M_peek 250 = .ok (.aload_n 0, 1) := by decide +kernel
theorem d_M_peek_251 : decode b_M_peek 251 = .ok (.aload_n 0, 1) := by decide +kernel
theorem d_M_peek_252 : decode b_M_peek 252 = .ok (.getfield 27, 3) := by decide +kernel
theorem d_M_peek_255 : decode b_M_peek 255 = .ok (.iconst 1, 1) := by decide +kernel
theorem d_M_peek_256 : decode b_M_peek 256 = .ok (.iadd, 1) := by decide +kernel
theorem d_M_peek_257 : decode b_M_peek 257 = .ok (.invokevirtual 274, 3) := by decide +kernel
theorem d_M_peek_260 : decode b_M_peek 260 = .ok (.invokestatic 288, 3) := by decide +kernel
theorem d_M_peek_263 : decode b_M_peek 263 = .ok (.putfield 30, 3) := by decide +kernel
theorem d_M_peek_266 : decode b_M_peek 266 = .ok (.aload_n 0, 1) := by decide +kernel
theorem d_M_peek_267 : decode b_M_peek 267 = .ok (.getfield 30, 3) := by decide +kernel
theorem d_M_peek_270 : decode b_M_peek 270 = .ok (.sipush 299, 3) := by decide +kernel
theorem d_M_peek_273 : decode b_M_peek 273 = .ok (.if_icmp .le 13, 3) := by decide +kernel
theorem d_M_peek_276 : decode b_M_peek 276 = .ok (.aload_n 0, 1) := by decide +kernel
theorem d_M_peek_277 : decode b_M_peek 277 = .ok (.dup, 1) := by decide +kernel
theorem d_M_peek_278 : decode b_M_peek 278 = .ok (.getfield 36, 3) := by decide +kernel
theorem d_M_peek_281 : decode b_M_peek 281 = .ok (.iconst 1, 1) := by decide +kernel
theorem d_M_peek_282 : decode b_M_peek 282 = .ok (.iadd, 1) := by decide +kernel
theorem d_M_peek_283 : decode b_M_peek 283 = .ok (.putfield 36, 3) := by decide +kernel
theorem d_M_peek_286 : decode b_M_peek 286 = .ok (.aload_n 0, 1) := by decide +kernel
theorem d_M_peek_287 : decode b_M_peek 287 = .ok (.getfield 30, 3) := by decide +kernel
theorem d_M_peek_290 : decode b_M_peek 290 = .ok (.ireturn, 1) := by decide +kernel
theorem d_M_is_0 : decode b_M_is 0 = .ok (.aload_n 0, 1) := by decide +kernel
theorem d_M_is_1 : decode b_M_is 1 = .ok (.invokevirtual 292, 3) := by decide +kernel
theorem d_M_is_4 : decode b_M_is 4 = .ok (.iconst 1, 1) := by decide +kernel
theorem d_M_is_5 : decode b_M_is 5 = .ok (.if_icmp .ne 19, 3) := by decide +kernel
theorem d_M_is_8 : decode b_M_is 8 = .ok (.aload_n 0, 1) := by decide +kernel
theorem d_M_is_9 : decode b_M_is 9 = .ok (.getfield 36, 3) := by decide +kernel
theorem d_M_is_12 : decode b_M_is 12 = .ok (.aload_n 0, 1) := by decide +kernel
theorem d_M_is_13 : decode b_M_is 13 = .ok (.getfield 33, 3) := by decide +kernel
theorem d_M_is_16 : decode b_M_is 16 = .ok (.isub, 1) := by decide +kernel
theorem d_M_is_17 : decode b_M_is 17 = .ok (.aload_n 1, 1) := by decide +kernel
theorem d_M_is_18 : decode b_M_is 18 = .ok (.invokevirtual 308, 3) := by decide +kernel
theorem d_M_is_21 : decode b_M_is 21 = .ok (.if_icmp .eq 5, 3) := by decide +kernel
theorem d_M_is_24 : decode b_M_is 24 = .ok (.iconst 0, 1) := by decide +kernel
theorem d_M_is_25 : decode b_M_is 25 = .ok (.ireturn, 1) := by decide +kernel
theorem d_M_is_26 : decode b_M_is 26 = .ok (.iconst 0, 1) := by decide +kernel
theorem d_M_is_27 : decode b_M_is 27 = .ok (.istore_n 2, 1) := by decide +kernel
theorem d_M_is_28 : decode b_M_is 28 = .ok (.iload_n 2, 1) := by decide +kernel
theorem d_M_is_29 : decode b_M_is 29 = .ok (.aload_n 1, 1) := by decide +kernel
theorem d_M_is_30 : decode b_M_is 30 = .ok (.invokevirtual 308, 3) := by decide +kernel
theorem d_M_is_33 : decode b_M_is 33 = .ok (.if_icmp .ge 30, 3) := by decide +kernel
theorem d_M_is_36 : decode b_M_is 36 = .ok (.aload_n 0, 1) := by decide +kernel
theorem d_M_is_37 : decode b_M_is 37 = .ok (.getfield 8, 3) := by decide +kernel
theorem d_M_is_40 : decode b_M_is 40 = .ok (.aload_n 0, 1) := by decide +kernel
theorem d_M_is_41 : decode b_M_is 41 = .ok (.getfield 33, 3) := by decide +kernel
theorem d_M_is_44 : decode b_M_is 44 = .ok (.iload_n 2, 1) := by decide +kernel
theorem d_M_is_45 : decode b_M_is 45 = .ok (.iadd, 1) := by decide +kernel
theorem d_M_is_46 : decode b_M_is 46 = .ok (.baload, 1) := by decide +kernel
theorem d_M_is_47 : decode b_M_is 47 = .ok (.aload_n 1, 1) := by decide +kernel
theorem d_M_is_48 : decode b_M_is 48 = .ok (.iload_n 2, 1) := by decide +kernel
theorem d_M_is_49 : decode b_M_is 49 = .ok (.invokevirtual 313, 3) := by decide +kernel
theorem d_M_is_52 : decode b_M_is 52 = .ok (.if_icmp .eq 5, 3) := by decide +kernel
theorem d_M_is_55 : decode b_M_is 55 = .ok (.iconst 0, 1) := by decide +kernel
theorem d_M_is_56 : decode b_M_is 56 = .ok (.ireturn, 1) := by decide +kernel
theorem d_M_is_57 : decode b_M_is 57 = .ok (.iinc 2 1, 3) := by decide +kernel
theorem d_M_is_60 : decode b_M_is 60 = .ok (.goto (-32), 3) := by decide +kernel
theorem d_M_is_63 : decode b_M_is 63 = .ok (.iconst 1, 1) := by decide +kernel
theorem d_M_is_64 : decode b_M_is 64 = .ok (.ireturn, 1) := by decide +kernel
theorem d_M_cant_0 : decode b_M_cant 0 = .ok (.aload_n 0, 1) := by decide +kernel
theorem d_M_cant_1 : decode b_M_cant 1 = .ok (.invokevirtual 292, 3) := by decide +kernel
theorem d_M_cant_4 : decode b_M_cant 4 = .ok (.pop, 1) := by decide +kernel
theorem d_M_cant_5 : decode b_M_cant 5 = .ok (.new 296, 3) := by decide +kernel
theorem d_M_cant_8 : decode b_M_cant 8 = .ok (.dup, 1) := by decide +kernel
theorem d_M_cant_9 : decode b_M_cant 9 = .ok (.iconst 1, 1) := by decide +kernel
theorem d_M_cant_10 : decode b_M_cant 10 = .ok (.aload_n 0, 1) := by decide +kernel
theorem d_M_cant_11 : decode b_M_cant 11 = .ok (.getfield 33, 3) := by decide +kernel
theorem d_M_cant_14 : decode b_M_cant 14 = .ok (.invokespecial 298, 3) := by decide +kernel
theorem d_M_cant_17 : decode b_M_cant 17 = .ok (.areturn, 1) := by decide +kernel
theorem d_M_mustBe_0 : decode b_M_mustBe 0 = .ok (.aload_n 0, 1) := by decide +kernel
theorem d_M_mustBe_1 : decode b_M_mustBe 1 = .ok (.aload_n 1, 1) := by decide +kernel
theorem d_M_mustBe_2 : decode b_M_mustBe 2 = .ok (.invokevirtual 317, 3) := by decide +kernel
theorem d_M_mustBe_5 : decode b_M_mustBe 5 = .ok (.ifCond .ne 8, 3) := by decide +kernel
theorem d_M_mustBe_8 : decode b_M_mustBe 8 = .ok (.aload_n 0, 1) := by decide +kernel
theorem d_M_mustBe_9 : decode b_M_mustBe 9 = .ok (.invokevirtual 301, 3) := by decide +kernel
theorem d_M_mustBe_12 : decode b_M_mustBe 12 = .ok (.athrow, 1) := by decide +kernel
theorem d_M_mustBe_13 : decode b_M_mustBe 13 = .ok (.aload_n 0, 1) := by decide +kernel
theorem d_M_mustBe_14 : decode b_M_mustBe 14 = .ok (.invokevirtual 305, 3) := by decide +kernel
theorem d_M_mustBe_17 : decode b_M_mustBe 17 = .ok (.return_, 1) := by decide +kernel
theorem d_M_node_0 : decode b_M_node 0 = .ok (.aload_n 0, 1) := by decide +kernel
theorem d_M_node_1 : decode b_M_node 1 = .ok (.ldc_w 321, 3) := by decide +kernel
theorem d_M_node_4 : decode b_M_node 4 = .ok (.invokevirtual 317, 3) := by decide +kernel
theorem d_M_node_7 : decode b_M_node 7 = .ok (.ifCond .eq 25, 3) := by decide +kernel
theorem d_M_node_10 : decode b_M_node 10 = .ok (.aload_n 0, 1) := by decide +kernel
theorem d_M_node_11 : decode b_M_node 11 = .ok (.getfield 68, 3) := by decide +kernel
theorem d_M_node_14 : decode b_M_node 14 = .ok (.bipush 59, 2) := by decide +kernel
theorem d_M_node_16 : decode b_M_node 16 = .ok (.if_icmp .ne 16, 3) := by decide +kernel
theorem d_M_node_19 : decode b_M_node 19 = .ok (.new 296, 3) := by decide +kernel
theorem d_M_node_22 : decode b_M_node 22 = .ok (.dup, 1) := by decide +kernel
theorem d_M_node_23 : decode b_M_node 23 = .ok (.iconst 3, 1) := by decide +kernel
theorem d_M_node_24 : decode b_M_node 24 = .ok (.aload_n 0, 1) := by decide +kernel
theorem d_M_node_25 : decode b_M_node 25 = .ok (.getfield 33, 3) := by decide +kernel
theorem d_M_node_28 : decode b_M_node 28 = .ok (.invokespecial 298, 3) := by decide +kernel
theorem d_M_node_31 : decode b_M_node 31 = .ok (.athrow, 1) := by decide +kernel
theorem d_M_node_32 : decode b_M_node 32 = .ok (.aload_n 0, 1) := by decide +kernel
theorem d_M_node_33 : decode b_M_node 33 = .ok (.ldc_w 321, 3) := by decide +kernel
theorem d_M_node_36 : decode b_M_node 36 = .ok (.invokevirtual 390, 3) := by decide +kernel
theorem d_M_node_39 : decode b_M_node 39 = .ok (.aload_n 0, 1) := by decide +kernel
theorem d_M_node_40 : decode b_M_node 40 = .ok (.invokevirtual 373, 3) := by decide +kernel
theorem d_M_node_43 : decode b_M_node 43 = .ok (.ifCond .ne 8, 3) := by decide +kernel
theorem d_M_node_46 : decode b_M_node 46 = .ok (.aload_n 0, 1) := by decide +kernel
theorem d_M_node_47 : decode b_M_node 47 = .ok (.invokevirtual 301, 3) := by decide +kernel
theorem d_M_node_50 : decode b_M_node 50 = .ok (.athrow, 1) := by decide +kernel
theorem d_M_node_51 : decode b_M_node 51 = .ok (.aload_n 0, 1) := by decide +kernel
theorem d_M_node_52 : decode b_M_node 52 = .ok (.invokevirtual 394, 3) := by decide +kernel
theorem d_M_node_55 : decode b_M_node 55 = .ok (.ifCond .lt 16, 3) := by decide +kernel
theorem d_M_node_58 : decode b_M_node 58 = .ok (.new 296, 3) := by decide +kernel
theorem d_M_node_61 : decode b_M_node 61 = .ok (.dup, 1) := by decide +kernel
theorem d_M_node_62 : decode b_M_node 62 = .ok (.iconst 2, 1) := by decide +kernel
theorem d_M_node_63 : decode b_M_node 63 = .ok (.aload_n 0, 1) := by decide +kernel
theorem d_M_node_64 : decode b_M_node 64 = .ok (.getfield 33, 3) := by decide +kernel
theorem d_M_node_67 : decode b_M_node 67 = .ok (.invokespecial 298, 3) := by decide +kernel
theorem d_M_node_70 : decode b_M_node 70 = .ok (.athrow, 1) := by decide +kernel
theorem d_M_node_71 : decode b_M_node 71 = .ok (.aload_n 0, 1) := by decide +kernel
theorem d_M_node_72 : decode b_M_node 72 = .ok (.getfield 43, 3) := by decide +kernel
theorem d_M_node_75 : decode b_M_node 75 = .ok (.aload_n 0, 1) := by decide +kernel
theorem d_M_node_76 : decode b_M_node 76 = .ok (.getfield 68, 3) := by decide +kernel
theorem d_M_node_79 : decode b_M_node 79 = .ok (.aload_n 0, 1) := by decide +kernel
theorem d_M_node_80 : decode b_M_node 80 = .ok (.getfield 33, 3) := by decide +kernel
theorem d_M_node_83 : decode b_M_node 83 = .ok (.iastore, 1) := by decide +kernel
theorem d_M_node_84 : decode b_M_node 84 = .ok (.aload_n 0, 1) := by decide +kernel
theorem d_M_node_85 : decode b_M_node 85 = .ok (.getfield 47, 3) := by decide +kernel
theorem d_M_node_88 : decode b_M_node 88 = .ok (.aload_n 0, 1) := by decide +kernel
theorem d_M_node_89 : decode b_M_node 89 = .ok (.getfield 68, 3) := by decide +kernel
theorem d_M_node_92 : decode b_M_node 92 = .ok (.aload_n 0, 1) := by decide +kernel
theorem d_M_node_93 : decode b_M_node 93 = .ok (.getfield 36, 3) := by decide +kernel
theorem d_M_node_96 : decode b_M_node 96 = .ok (.aload_n 0, 1) := by decide +kernel
theorem d_M_node_97 : decode b_M_node 97 = .ok (.getfield 33, 3) := by decide +kernel
theorem d_M_node_100 : decode b_M_node 100 = .ok (.isub, 1) := by decide +kernel
theorem d_M_node_101 : decode b_M_node 101 = .ok (.iastore, 1) := by decide +kernel
theorem d_M_node_102 : decode b_M_node 102 = .ok (.aload_n 0, 1) := by decide +kernel
theorem d_M_node_103 : decode b_M_node 103 = .ok (.invokevirtual 305, 3) := by decide +kernel
theorem d_M_node_106 : decode b_M_node 106 = .ok (.aload_n 0, 1) := by decide +kernel
theorem d_M_node_107 : decode b_M_node 107 = .ok (.getfield 50, 3) := by decide +kernel
theorem d_M_node_110 : decode b_M_node 110 = .ok (.aload_n 0, 1) := by decide +kernel
theorem d_M_node_111 : decode b_M_node 111 = .ok (.getfield 68, 3) := by decide +kernel
theorem d_M_node_114 : decode b_M_node 114 = .ok (.aload_n 0, 1) := by decide +kernel
theorem d_M_node_115 : decode b_M_node 115 = .ok (.getfield 71, 3) := by decide +kernel
theorem d_M_node_118 : decode b_M_node 118 = .ok (.iastore, 1) := by decide +kernel
theorem d_M_node_119 : decode b_M_node 119 = .ok (.aload_n 0, 1) := by decide +kernel
theorem d_M_node_120 : decode b_M_node 120 = .ok (.invokevirtual 397, 3) := by decide +kernel
theorem d_M_node_123 : decode b_M_node 123 = .ok (.aload_n 0, 1) := by decide +kernel
theorem d_M_node_124 : decode b_M_node 124 = .ok (.getfield 53, 3) := by decide +kernel
theorem d_M_node_127 : decode b_M_node 127 = .ok (.aload_n 0, 1) := by decide +kernel
theorem d_M_node_128 : decode b_M_node 128 = .ok (.getfield 68, 3) := by decide +kernel
theorem d_M_node_131 : decode b_M_node 131 = .ok (.aload_n 0, 1) := by decide +kernel
theorem d_M_node_132 : decode b_M_node 132 = .ok (.getfield 71, 3) := by decide +kernel
theorem d_M_node_135 : decode b_M_node 135 = .ok (.aload_n 0, 1) := by decide +kernel
theorem d_M_node_136 : decode b_M_node 136 = .ok (.getfield 50, 3) := by decide +kernel
theorem d_M_node_139 : decode b_M_node 139 = .ok (.aload_n 0, 1) := by decide +kernel
theorem d_M_node_140 : decode b_M_node 140 = .ok (.getfield 68, 3) := by decide +kernel
theorem d_M_node_143 : decode b_M_node 143 = .ok (.iaload, 1) := by decide +kernel
theorem d_M_node_144 : decode b_M_node 144 = .ok (.isub, 1) := by decide +kernel
theorem d_M_node_145 : decode b_M_node 145 = .ok (.iastore, 1) := by decide +kernel
theorem d_M_node_146 : decode b_M_node 146 = .ok (.aload_n 0, 1) := by decide +kernel
theorem d_M_node_147 : decode b_M_node 147 = .ok (.ldc_w 323, 3) := by decide +kernel
theorem d_M_node_150 : decode b_M_node 150 = .ok (.invokevirtual 390, 3) := by decide +kernel
theorem d_M_node_153 : decode b_M_node 153 = .ok (.aload_n 0, 1) := by decide +kernel
theorem d_M_node_154 : decode b_M_node 154 = .ok (.invokevirtual 397, 3) := by decide +kernel
theorem d_M_node_157 : decode b_M_node 157 = .ok (.aload_n 0, 1) := by decide +kernel
theorem d_M_node_158 : decode b_M_node 158 = .ok (.getfield 56, 3) := by decide +kernel
theorem d_M_node_161 : decode b_M_node 161 = .ok (.aload_n 0, 1) := by decide +kernel
theorem d_M_node_162 : decode b_M_node 162 = .ok (.getfield 68, 3) := by decide +kernel
theorem d_M_node_165 : decode b_M_node 165 = .ok (.aload_n 0, 1) := by decide +kernel
theorem d_M_node_166 : decode b_M_node 166 = .ok (.getfield 71, 3) := by decide +kernel
theorem d_M_node_169 : decode b_M_node 169 = .ok (.aload_n 0, 1) := by decide +kernel
theorem d_M_node_170 : decode b_M_node 170 = .ok (.getfield 50, 3) := by decide +kernel
theorem d_M_node_173 : decode b_M_node 173 = .ok (.aload_n 0, 1) := by decide +kernel
theorem d_M_node_174 : decode b_M_node 174 = .ok (.getfield 68, 3) := by decide +kernel
theorem d_M_node_177 : decode b_M_node 177 = .ok (.iaload, 1) := by decide +kernel
theorem d_M_node_178 : decode b_M_node 178 = .ok (.isub, 1) := by decide +kernel
theorem d_M_node_179 : decode b_M_node 179 = .ok (.aload_n 0, 1) := by decide +kernel
theorem d_M_node_180 : decode b_M_node 180 = .ok (.getfield 53, 3) := by decide +kernel
theorem d_M_node_183 : decode b_M_node 183 = .ok (.aload_n 0, 1) := by decide +kernel
theorem d_M_node_184 : decode b_M_node 184 = .ok (.getfield 68, 3) := by decide +kernel
theorem d_M_node_187 : decode b_M_node 187 = .ok (.iaload, 1) := by decide +kernel
theorem d_M_node_188 : decode b_M_node 188 = .ok (.isub, 1) := by decide +kernel
theorem d_M_node_189 : decode b_M_node 189 = .ok (.iastore, 1) := by decide +kernel
theorem d_M_node_190 : decode b_M_node 190 = .ok (.aload_n 0, 1) := by decide +kernel
theorem d_M_node_191 : decode b_M_node 191 = .ok (.bipush 59, 2) := by decide +kernel
theorem d_M_node_193 : decode b_M_node 193 = .ok (.invokevirtual 379, 3) := by decide +kernel
theorem d_M_node_196 : decode b_M_node 196 = .ok (.aload_n 0, 1) := by decide +kernel
theorem d_M_node_197 : decode b_M_node 197 = .ok (.ldc_w 325, 3) := by decide +kernel
theorem d_M_node_200 : decode b_M_node 200 = .ok (.invokevirtual 317, 3) := by decide +kernel
theorem d_M_node_203 : decode b_M_node 203 = .ok (.ifCond .eq 39, 3) := by decide +kernel
theorem d_M_node_206 : decode b_M_node 206 = .ok (.aload_n 0, 1) := by decide +kernel
theorem d_M_node_207 : decode b_M_node 207 = .ok (.invokevirtual 305, 3) := by decide +kernel
theorem d_M_node_210 : decode b_M_node 210 = .ok (.aload_n 0, 1) := by decide +kernel
theorem d_M_node_211 : decode b_M_node 211 = .ok (.iconst 1, 1) := by decide +kernel
theorem d_M_node_212 : decode b_M_node 212 = .ok (.invokevirtual 386, 3) := by decide +kernel
theorem d_M_node_215 : decode b_M_node 215 = .ok (.aload_n 0, 1) := by decide +kernel
theorem d_M_node_216 : decode b_M_node 216 = .ok (.bipush 59, 2) := by decide +kernel
theorem d_M_node_218 : decode b_M_node 218 = .ok (.invokevirtual 379, 3) := by decide +kernel
theorem d_M_node_221 : decode b_M_node 221 = .ok (.aload_n 0, 1) := by decide +kernel
theorem d_M_node_222 : decode b_M_node 222 = .ok (.invokevirtual 373, 3) := by decide +kernel
theorem d_M_node_225 : decode b_M_node 225 = .ok (.ifCond .eq 17, 3) := by decide +kernel
theorem d_M_node_228 : decode b_M_node 228 = .ok (.aload_n 0, 1) := by decide +kernel
theorem d_M_node_229 : decode b_M_node 229 = .ok (.iconst 1, 1) := by decide +kernel
theorem d_M_node_230 : decode b_M_node 230 = .ok (.invokevirtual 386, 3) := by decide +kernel
theorem d_M_node_233 : decode b_M_node 233 = .ok (.aload_n 0, 1) := by decide +kernel
theorem d_M_node_234 : decode b_M_node 234 = .ok (.bipush 59, 2) := by decide +kernel
theorem d_M_node_236 : decode b_M_node 236 = .ok (.invokevirtual 379, 3) := by decide +kernel
theorem d_M_node_239 : decode b_M_node 239 = .ok (.goto (-18), 3) := by decide +kernel
theorem d_M_node_242 : decode b_M_node 242 = .ok (.aload_n 0, 1) := by decide +kernel
theorem d_M_node_243 : decode b_M_node 243 = .ok (.getfield 50, 3) := by decide +kernel
theorem d_M_node_246 : decode b_M_node 246 = .ok (.aload_n 0, 1) := by decide +kernel
theorem d_M_node_247 : decode b_M_node 247 = .ok (.getfield 68, 3) := by decide +kernel
theorem d_M_node_250 : decode b_M_node 250 = .ok (.iconst 1, 1) := by decide +kernel
theorem d_M_node_251 : decode b_M_node 251 = .ok (.iadd, 1) := by decide +kernel
theorem d_M_node_252 : decode b_M_node 252 = .ok (.aload_n 0, 1) := by decide +kernel
theorem d_M_node_253 : decode b_M_node 253 = .ok (.getfield 71, 3) := by decide +kernel
theorem d_M_node_256 : decode b_M_node 256 = .ok (.iastore, 1) := by decide +kernel
theorem d_M_node_257 : decode b_M_node 257 = .ok (.aload_n 0, 1) := by decide +kernel
theorem d_M_node_258 : decode b_M_node 258 = .ok (.ldc_w 327, 3) := by decide +kernel
theorem d_M_node_261 : decode b_M_node 261 = .ok (.invokevirtual 390, 3) := by decide +kernel
theorem d_M_node_264 : decode b_M_node 264 = .ok (.aload_n 0, 1) := by decide +kernel
theorem d_M_node_265 : decode b_M_node 265 = .ok (.getfield 59, 3) := by decide +kernel
theorem d_M_node_268 : decode b_M_node 268 = .ok (.aload_n 0, 1) := by decide +kernel
theorem d_M_node_269 : decode b_M_node 269 = .ok (.getfield 68, 3) := by decide +kernel
theorem d_M_node_272 : decode b_M_node 272 = .ok (.aload_n 0, 1) := by decide +kernel
theorem d_M_node_273 : decode b_M_node 273 = .ok (.getfield 106, 3) := by decide +kernel
theorem d_M_node_276 : decode b_M_node 276 = .ok (.iastore, 1) := by decide +kernel
theorem d_M_node_277 : decode b_M_node 277 = .ok (.aload_n 0, 1) := by decide +kernel
theorem d_M_node_278 : decode b_M_node 278 = .ok (.getfield 62, 3) := by decide +kernel
theorem d_M_node_281 : decode b_M_node 281 = .ok (.aload_n 0, 1) := by decide +kernel
theorem d_M_node_282 : decode b_M_node 282 = .ok (.getfield 68, 3) := by decide +kernel
theorem d_M_node_285 : decode b_M_node 285 = .ok (.iconst 0, 1) := by decide +kernel
theorem d_M_node_286 : decode b_M_node 286 = .ok (.iastore, 1) := by decide +kernel
theorem d_M_node_287 : decode b_M_node 287 = .ok (.aload_n 0, 1) := by decide +kernel
theorem d_M_node_288 : decode b_M_node 288 = .ok (.getfield 65, 3) := by decide +kernel
theorem d_M_node_291 : decode b_M_node 291 = .ok (.aload_n 0, 1) := by decide +kernel
theorem d_M_node_292 : decode b_M_node 292 = .ok (.getfield 68, 3) := by decide +kernel
theorem d_M_node_295 : decode b_M_node 295 = .ok (.iconst 0, 1) := by decide +kernel
theorem d_M_node_296 : decode b_M_node 296 = .ok (.iastore, 1) := by decide +kernel
theorem d_M_node_297 : decode b_M_node 297 = .ok (.aload_n 0, 1) := by decide +kernel
theorem d_M_node_298 : decode b_M_node 298 = .ok (.invokevirtual 400, 3) := by decide +kernel
theorem d_M_node_301 : decode b_M_node 301 = .ok (.aload_n 0, 1) := by decide +kernel
theorem d_M_node_302 : decode b_M_node 302 = .ok (.ldc_w 329, 3) := by decide +kernel
theorem d_M_node_305 : decode b_M_node 305 = .ok (.invokevirtual 317, 3) := by decide +kernel
theorem d_M_node_308 : decode b_M_node 308 = .ok (.ifCond .eq (-11), 3) := by decide +kernel
theorem d_M_node_311 : decode b_M_node 311 = .ok (.aload_n 0, 1) := by decide +kernel
theorem d_M_node_312 : decode b_M_node 312 = .ok (.getfield 33, 3) := by decide +kernel
theorem d_M_node_315 : decode b_M_node 315 = .ok (.istore_n 1, 1) := by decide +kernel
theorem d_M_node_316 : decode b_M_node 316 = .ok (.aload_n 0, 1) := by decide +kernel
theorem d_M_node_317 : decode b_M_node 317 = .ok (.getfield 59, 3) := by decide +kernel
theorem d_M_node_320 : decode b_M_node 320 = .ok (.aload_n 0, 1) := by decide +kernel
theorem d_M_node_321 : decode b_M_node 321 = .ok (.getfield 68, 3) := by decide +kernel
theorem d_M_node_324 : decode b_M_node 324 = .ok (.iconst 1, 1) := by decide +kernel
theorem d_M_node_325 : decode b_M_node 325 = .ok (.iadd, 1) := by decide +kernel
theorem d_M_node_326 : decode b_M_node 326 = .ok (.aload_n 0, 1) := by decide +kernel
theorem d_M_node_327 : decode b_M_node 327 = .ok (.getfield 106, 3) := by decide +kernel
theorem d_M_node_330 : decode b_M_node 330 = .ok (.iastore, 1) := by decide +kernel
theorem d_M_node_331 : decode b_M_node 331 = .ok (.aload_n 0, 1) := by decide +kernel
theorem d_M_node_332 : decode b_M_node 332 = .ok (.getfield 50, 3) := by decide +kernel
theorem d_M_node_335 : decode b_M_node 335 = .ok (.aload_n 0, 1) := by decide +kernel
theorem d_M_node_336 : decode b_M_node 336 = .ok (.getfield 68, 3) := by decide +kernel
theorem d_M_node_339 : decode b_M_node 339 = .ok (.iaload, 1) := by decide +kernel
theorem d_M_node_340 : decode b_M_node 340 = .ok (.aload_n 0, 1) := by decide +kernel
theorem d_M_node_341 : decode b_M_node 341 = .ok (.getfield 53, 3) := by decide +kernel
theorem d_M_node_344 : decode b_M_node 344 = .ok (.aload_n 0, 1) := by decide +kernel
theorem d_M_node_345 : decode b_M_node 345 = .ok (.getfield 68, 3) := by decide +kernel
theorem d_M_node_348 : decode b_M_node 348 = .ok (.iaload, 1) := by decide +kernel
theorem d_M_node_349 : decode b_M_node 349 = .ok (.iadd, 1) := by decide +kernel
theorem d_M_node_350 : decode b_M_node 350 = .ok (.istore_n 2, 1) := by decide +kernel
theorem d_M_node_351 : decode b_M_node 351 = .ok (.iload_n 2, 1) := by decide +kernel
theorem d_M_node_352 : decode b_M_node 352 = .ok (.aload_n 0, 1) := by decide +kernel
theorem d_M_node_353 : decode b_M_node 353 = .ok (.getfield 71, 3) := by decide +kernel
theorem d_M_node_356 : decode b_M_node 356 = .ok (.if_icmp .ge 29, 3) := by decide +kernel
theorem d_M_node_359 : decode b_M_node 359 = .ok (.aload_n 0, 1) := by decide +kernel
theorem d_M_node_360 : decode b_M_node 360 = .ok (.getfield 83, 3) := by decide +kernel
theorem d_M_node_363 : decode b_M_node 363 = .ok (.iload_n 2, 1) := by decide +kernel
theorem d_M_node_364 : decode b_M_node 364 = .ok (.iaload, 1) := by decide +kernel
theorem d_M_node_365 : decode b_M_node 365 = .ok (.iconst 1, 1) := by decide +kernel
theorem d_M_node_366 : decode b_M_node 366 = .ok (.if_icmp .eq 13, 3) := by decide +kernel
theorem d_M_node_369 : decode b_M_node 369 = .ok (.new 296, 3) := by decide +kernel
theorem d_M_node_372 : decode b_M_node 372 = .ok (.dup, 1) := by decide +kernel
theorem d_M_node_373 : decode b_M_node 373 = .ok (.iconst 2, 1) := by decide +kernel
theorem d_M_node_374 : decode b_M_node 374 = .ok (.iload_n 1, 1) := by decide +kernel
theorem d_M_node_375 : decode b_M_node 375 = .ok (.invokespecial 298, 3) := by decide +kernel
theorem d_M_node_378 : decode b_M_node 378 = .ok (.athrow, 1) := by decide +kernel
theorem d_M_node_379 : decode b_M_node 379 = .ok (.iinc 2 1, 3) := by decide +kernel
theorem d_M_node_382 : decode b_M_node 382 = .ok (.goto (-31), 3) := by decide +kernel
theorem d_M_node_385 : decode b_M_node 385 = .ok (.aload_n 0, 1) := by decide +kernel
theorem d_M_node_386 : decode b_M_node 386 = .ok (.invokevirtual 305, 3) := by decide +kernel
theorem d_M_node_389 : decode b_M_node 389 = .ok (.aload_n 0, 1) := by decide +kernel
theorem d_M_node_390 : decode b_M_node 390 = .ok (.getfield 59, 3) := by decide +kernel
theorem d_M_node_393 : decode b_M_node 393 = .ok (.aload_n 0, 1) := by decide +kernel
theorem d_M_node_394 : decode b_M_node 394 = .ok (.getfield 68, 3) := by decide +kernel
theorem d_M_node_397 : decode b_M_node 397 = .ok (.iaload, 1) := by decide +kernel
theorem d_M_node_398 : decode b_M_node 398 = .ok (.istore_n 2, 1) := by decide +kernel
theorem d_M_node_399 : decode b_M_node 399 = .ok (.iload_n 2, 1) := by decide +kernel
theorem d_M_node_400 : decode b_M_node 400 = .ok (.aload_n 0, 1) := by decide +kernel
theorem d_M_node_401 : decode b_M_node 401 = .ok (.getfield 106, 3) := by decide +kernel
theorem d_M_node_404 : decode b_M_node 404 = .ok (.if_icmp .ge 14, 3) := by decide +kernel
theorem d_M_node_407 : decode b_M_node 407 = .ok (.aload_n 0, 1) := by decide +kernel
theorem d_M_node_408 : decode b_M_node 408 = .ok (.iload_n 2, 1) := by decide +kernel
theorem d_M_node_409 : decode b_M_node 409 = .ok (.invokevirtual 403, 3) := by decide +kernel
theorem d_M_node_412 : decode b_M_node 412 = .ok (.iinc 2 1, 3) := by decide +kernel
theorem d_M_node_415 : decode b_M_node 415 = .ok (.goto (-16), 3) := by decide +kernel
theorem d_M_node_418 : decode b_M_node 418 = .ok (.aload_n 0, 1) := by decide +kernel
theorem d_M_node_419 : decode b_M_node 419 = .ok (.dup, 1) := by decide +kernel
theorem d_M_node_420 : decode b_M_node 420 = .ok (.getfield 68, 3) := by decide +kernel
theorem d_M_node_423 : decode b_M_node 423 = .ok (.iconst 1, 1) := by decide +kernel
theorem d_M_node_424 : decode b_M_node 424 = .ok (.iadd, 1) := by decide +kernel
theorem d_M_node_425 : decode b_M_node 425 = .ok (.putfield 68, 3) := by decide +kernel
theorem d_M_node_428 : decode b_M_node 428 = .ok (.return_, 1) := by decide +kernel
set_option maxHeartbeats 4000000 in
set_option maxRecDepth 100000 in
theorem c_M_parts0 (l : Launch) (D : va_G) (cI cB cJ cZ : ClassId) (sz : Nat) (g0 : Nat) (m_tape m_nodeAt m_nodeSize m_variableFrom m_inputCount m_outputCount m_equationFrom m_callCount m_stateCount m_wordAt m_wordSize m_clockOf m_given m_truth m_placeOf m_leftFrom m_bodyOf m_lefts m_fromOf m_sort m_one m_kid m_beside m_clock m_state m_price m_high m_isTruth m_full m_part m_low m_definedBy m_definedAs m_partsOf m_nodeOf m_outer m_callOf m_base m_statesFrom m_callsFrom m_childOf m_instanceOf m_localOf m_causeFrom m_causeOf m_reached m_todo m_order m_undone m_inputs m_value m_memory m_later m_worth m_here m_keptMemory m_keptValue m_keptHere : Nat) (x_size x_thrown x_faultKind x_faultPlace x_pos x_token x_tokenAt x_tokenEnd x_seen x_nodes x_variables x_equations x_leftCount x_parsed x_placeNow x_main x_instances x_all x_states x_memories x_calls x_allParts x_causesTotal x_instants x_keptInstants x_isKept : Int32) (h1 : x_size ≤ x_pos) : Met l y_M_parts (Cond.code y_M_parts b_M_parts 2 none :: gG) { frames := 0, cells := 0, slots := 0, locals := 0 } (va_Pc [.ref g0] (ct_P D (tyL cI cB cJ cZ) [(g0, .inr (12, [.ref m_tape, .int x_size, .int x_thrown, .int x_faultKind, .int x_faultPlace, .int x_pos, .int x_token, .int x_tokenAt, .int x_tokenEnd, .int x_seen, .ref m_nodeAt, .ref m_nodeSize, .ref m_variableFrom, .ref m_inputCount, .ref m_outputCount, .ref m_equationFrom, .ref m_callCount, .ref m_stateCount, .int x_nodes, .int x_variables, .ref m_wordAt, .ref m_wordSize, .ref m_clockOf, .ref m_given, .ref m_truth, .ref m_placeOf, .ref m_leftFrom, .ref m_bodyOf, .ref m_lefts, .ref m_fromOf, .int x_equations, .int x_leftCount, .ref m_sort, .ref m_one, .ref m_kid, .ref m_beside, .ref m_clock, .ref m_state, .ref m_price, .ref m_high, .int x_parsed, .ref m_isTruth, .int x_placeNow, .ref m_full, .ref m_part, .ref m_low, .ref m_definedBy, .ref m_definedAs, .ref m_partsOf, .int x_main, .int x_instances, .int x_all, .int x_states, .int x_memories, .int x_calls, .int x_allParts, .ref m_nodeOf, .ref m_outer, .ref m_callOf, .ref m_base, .ref m_statesFrom, .ref m_callsFrom, .ref m_childOf, .ref m_instanceOf, .ref m_localOf, .ref m_causeFrom, .ref m_causeOf, .int x_causesTotal, .ref m_reached, .ref m_todo, .ref m_order, .ref m_undone, .int x_instants, .ref m_inputs, .ref m_value, .ref m_memory, .ref m_later, .ref m_worth, .ref m_here, .ref m_keptMemory, .ref m_keptValue, .ref m_keptHere, .int x_keptInstants, .int x_isKept]))] sz)) (va_Qv (fun _ : Unit => True) (fun _ t => va_P D kl [(g0, .inr (12, [.ref m_tape, .int x_size, .int x_thrown, .int x_faultKind, .int x_faultPlace, .int x_pos, .int x_token, .int x_tokenAt, .int x_tokenEnd, .int x_seen, .ref m_nodeAt, .ref m_nodeSize, .ref m_variableFrom, .ref m_inputCount, .ref m_outputCount, .ref m_equationFrom, .ref m_callCount, .ref m_stateCount, .int x_nodes, .int x_variables, .ref m_wordAt, .ref m_wordSize, .ref m_clockOf, .ref m_given, .ref m_truth, .ref m_placeOf, .ref m_leftFrom, .ref m_bodyOf, .ref m_lefts, .ref m_fromOf, .int x_equations, .int x_leftCount, .ref m_sort, .ref m_one, .ref m_kid, .ref m_beside, .ref m_clock, .ref m_state, .ref m_price, .ref m_high, .int x_parsed, .ref m_isTruth, .int x_placeNow, .ref m_full, .ref m_part, .ref m_low, .ref m_definedBy, .ref m_definedAs, .ref m_partsOf, .int x_main, .int x_instances, .int x_all, .int x_states, .int x_memories, .int x_calls, .int x_allParts, .ref m_nodeOf, .ref m_outer, .ref m_callOf, .ref m_base, .ref m_statesFrom, .ref m_callsFrom, .ref m_childOf, .ref m_instanceOf, .ref m_localOf, .ref m_causeFrom, .ref m_causeOf, .int x_causesTotal, .ref m_reached, .ref m_todo, .ref m_order, .ref m_undone, .int x_instants, .ref m_inputs, .ref m_value, .ref m_memory, .ref m_later, .ref m_worth, .ref m_here, .ref m_keptMemory, .ref m_keptValue, .ref m_keptHere, .int x_keptInstants, .int x_isKept]))] t.heap ∧ va_D (va_A [(g0, .inr (12, [.ref m_tape, .int x_size, .int x_thrown, .int x_faultKind, .int x_faultPlace, .int x_pos, .int x_token, .int x_tokenAt, .int x_tokenEnd, .int x_seen, .ref m_nodeAt, .ref m_nodeSize, .ref m_variableFrom, .ref m_inputCount, .ref m_outputCount, .ref m_equationFrom, .ref m_callCount, .ref m_stateCount, .int x_nodes, .int x_variables, .ref m_wordAt, .ref m_wordSize, .ref m_clockOf, .ref m_given, .ref m_truth, .ref m_placeOf, .ref m_leftFrom, .ref m_bodyOf, .ref m_lefts, .ref m_fromOf, .int x_equations, .int x_leftCount, .ref m_sort, .ref m_one, .ref m_kid, .ref m_beside, .ref m_clock, .ref m_state, .ref m_price, .ref m_high, .int x_parsed, .ref m_isTruth, .int x_placeNow, .ref m_full, .ref m_part, .ref m_low, .ref m_definedBy, .ref m_definedAs, .ref m_partsOf, .int x_main, .int x_instances, .int x_all, .int x_states, .int x_memories, .int x_calls, .int x_allParts, .ref m_nodeOf, .ref m_outer, .ref m_callOf, .ref m_base, .ref m_statesFrom, .ref m_callsFrom, .ref m_childOf, .ref m_instanceOf, .ref m_localOf, .ref m_causeFrom, .ref m_causeOf, .int x_causesTotal, .ref m_reached, .ref m_todo, .ref m_order, .ref m_undone, .int x_instants, .ref m_inputs, .ref m_value, .ref m_memory, .ref m_later, .ref m_worth, .ref m_here, .ref m_keptMemory, .ref m_keptValue, .ref m_keptHere, .int x_keptInstants, .int x_isKept]))] sz) [(g0, .inr (12, [.ref m_tape, .int x_size, .int x_thrown, .int x_faultKind, .int x_faultPlace, .int x_pos, .int x_token, .int x_tokenAt, .int x_tokenEnd, .int x_seen, .ref m_nodeAt, .ref m_nodeSize, .ref m_variableFrom, .ref m_inputCount, .ref m_outputCount, .ref m_equationFrom, .ref m_callCount, .ref m_stateCount, .int x_nodes, .int x_variables, .ref m_wordAt, .ref m_wordSize, .ref m_clockOf, .ref m_given, .ref m_truth, .ref m_placeOf, .ref m_leftFrom, .ref m_bodyOf, .ref m_lefts, .ref m_fromOf, .int x_equations, .int x_leftCount, .ref m_sort, .ref m_one, .ref m_kid, .ref m_beside, .ref m_clock, .ref m_state, .ref m_price, .ref m_high, .int x_parsed, .ref m_isTruth, .int x_placeNow, .ref m_full, .ref m_part, .ref m_low, .ref m_definedBy, .ref m_definedAs, .ref m_partsOf, .int x_main, .int x_instances, .int x_all, .int x_states, .int x_memories, .int x_calls, .int x_allParts, .ref m_nodeOf, .ref m_outer, .ref m_callOf, .ref m_base, .ref m_statesFrom, .ref m_callsFrom, .ref m_childOf, .ref m_instanceOf, .ref m_localOf, .ref m_causeFrom, .ref m_causeOf, .int x_causesTotal, .ref m_reached, .ref m_todo, .ref m_order, .ref m_undone, .int x_instants, .ref m_inputs, .ref m_value, .ref m_memory, .ref m_later, .ref m_worth, .ref m_here, .ref m_keptMemory, .ref m_keptValue, .ref m_keptHere, .int x_keptInstants, .int x_isKept]))]) (va_A [(g0, .inr (12, [.ref m_tape, .int x_size, .int x_thrown, .int x_faultKind, .int x_faultPlace, .int x_pos, .int x_token, .int x_tokenAt, .int x_tokenEnd, .int x_seen, .ref m_nodeAt, .ref m_nodeSize, .ref m_variableFrom, .ref m_inputCount, .ref m_outputCount, .ref m_equationFrom, .ref m_callCount, .ref m_stateCount, .int x_nodes, .int x_variables, .ref m_wordAt, .ref m_wordSize, .ref m_clockOf, .ref m_given, .ref m_truth, .ref m_placeOf, .ref m_leftFrom, .ref m_bodyOf, .ref m_lefts, .ref m_fromOf, .int x_equations, .int x_leftCount, .ref m_sort, .ref m_one, .ref m_kid, .ref m_beside, .ref m_clock, .ref m_state, .ref m_price, .ref m_high, .int x_parsed, .ref m_isTruth, .int x_placeNow, .ref m_full, .ref m_part, .ref m_low, .ref m_definedBy, .ref m_definedAs, .ref m_partsOf, .int x_main, .int x_instances, .int x_all, .int x_states, .int x_memories, .int x_calls, .int x_allParts, .ref m_nodeOf, .ref m_outer, .ref m_callOf, .ref m_base, .ref m_statesFrom, .ref m_callsFrom, .ref m_childOf, .ref m_instanceOf, .ref m_localOf, .ref m_causeFrom, .ref m_causeOf, .int x_causesTotal, .ref m_reached, .ref m_todo, .ref m_order, .ref m_undone, .int x_instants, .ref m_inputs, .ref m_value, .ref m_memory, .ref m_later, .ref m_worth, .ref m_here, .ref m_keptMemory, .ref m_keptValue, .ref m_keptHere, .int x_keptInstants, .int x_isKept]))] sz)) 0 0 (va_A [(g0, .inr (12, [.ref m_tape, .int x_size, .int x_thrown, .int x_faultKind, .int x_faultPlace, .int x_pos, .int x_token, .int x_tokenAt, .int x_tokenEnd, .int x_seen, .ref m_nodeAt, .ref m_nodeSize, .ref m_variableFrom, .ref m_inputCount, .ref m_outputCount, .ref m_equationFrom, .ref m_callCount, .ref m_stateCount, .int x_nodes, .int x_variables, .ref m_wordAt, .ref m_wordSize, .ref m_clockOf, .ref m_given, .ref m_truth, .ref m_placeOf, .ref m_leftFrom, .ref m_bodyOf, .ref m_lefts, .ref m_fromOf, .int x_equations, .int x_leftCount, .ref m_sort, .ref m_one, .ref m_kid, .ref m_beside, .ref m_clock, .ref m_state, .ref m_price, .ref m_high, .int x_parsed, .ref m_isTruth, .int x_placeNow, .ref m_full, .ref m_part, .ref m_low, .ref m_definedBy, .ref m_definedAs, .ref m_partsOf, .int x_main, .int x_instances, .int x_all, .int x_states, .int x_memories, .int x_calls, .int x_allParts, .ref m_nodeOf, .ref m_outer, .ref m_callOf, .ref m_base, .ref m_statesFrom, .ref m_callsFrom, .ref m_childOf, .ref m_instanceOf, .ref m_localOf, .ref m_causeFrom, .ref m_causeOf, .int x_causesTotal, .ref m_reached, .ref m_todo, .ref m_order, .ref m_undone, .int x_instants, .ref m_inputs, .ref m_value, .ref m_memory, .ref m_later, .ref m_worth, .ref m_here, .ref m_keptMemory, .ref m_keptValue, .ref m_keptHere, .int x_keptInstants, .int x_isKept]))] sz) := by
  refine Met.ofW (cc := b_M_parts) (maxL := 2) (ret := none) (by decide) rfl ?_
  intro p e s m args below meth c s₁ B hml hv
  obtain ⟨rfl, hsz, hP, hK, hD0⟩ := hv
  have hx := B.exec
  have hb := B.bytes
  have hr := B.returns
  have hts := atoms_spec (ws := Cond.code y_M_parts b_M_parts 2 none :: gG) B.pre
  have hG : ∀ w9 ∈ gG, w9.before [.ref g0].toArray s = true := fun w9 h => hts w9 (List.mem_cons_of_mem _ h)
  have hown : s.vm.findClass R_M = some m.cls := findClass_of_methodNamed B.named
  have hlocks := B.notSynchronized
  subst hsz
  have hD := hD0.self (sz := s.heap.size)
  generalize hAe : va_A [(g0, .inr (12, [.ref m_tape, .int x_size, .int x_thrown, .int x_faultKind, .int x_faultPlace, .int x_pos, .int x_token, .int x_tokenAt, .int x_tokenEnd, .int x_seen, .ref m_nodeAt, .ref m_nodeSize, .ref m_variableFrom, .ref m_inputCount, .ref m_outputCount, .ref m_equationFrom, .ref m_callCount, .ref m_stateCount, .int x_nodes, .int x_variables, .ref m_wordAt, .ref m_wordSize, .ref m_clockOf, .ref m_given, .ref m_truth, .ref m_placeOf, .ref m_leftFrom, .ref m_bodyOf, .ref m_lefts, .ref m_fromOf, .int x_equations, .int x_leftCount, .ref m_sort, .ref m_one, .ref m_kid, .ref m_beside, .ref m_clock, .ref m_state, .ref m_price, .ref m_high, .int x_parsed, .ref m_isTruth, .int x_placeNow, .ref m_full, .ref m_part, .ref m_low, .ref m_definedBy, .ref m_definedAs, .ref m_partsOf, .int x_main, .int x_instances, .int x_all, .int x_states, .int x_memories, .int x_calls, .int x_allParts, .ref m_nodeOf, .ref m_outer, .ref m_callOf, .ref m_base, .ref m_statesFrom, .ref m_callsFrom, .ref m_childOf, .ref m_instanceOf, .ref m_localOf, .ref m_causeFrom, .ref m_causeOf, .int x_causesTotal, .ref m_reached, .ref m_todo, .ref m_order, .ref m_undone, .int x_instants, .ref m_inputs, .ref m_value, .ref m_memory, .ref m_later, .ref m_worth, .ref m_here, .ref m_keptMemory, .ref m_keptValue, .ref m_keptHere, .int x_keptInstants, .int x_isKept]))] s.heap.size = A at hD ⊢
  have hA : ∀ q : Nat, s.heap.size ≤ q → A q := fun q h => by rw [← hAe]; exact Or.inr h
  have hS : va_S A s.heap s.heap [] := va_S.rf
  have hl := lv_entry ([.ref g0]) (n := 2) (Nat.le_of_ble_eq_true rfl)
  rw [lg_entry_eq]
  generalize (lg_sl ([.ref g0]) ++ List.replicate (2 - (lg_sl ([.ref g0])).length) Slot.unset).toArray = ls at hl ⊢
  have hl : lv_has ls 2 [(0, .ref g0)] := hl
  refine lv_aload_n hx hb d_M_parts_0 rfl (lv_at hl 0 rfl) ?_
  refine va_get (D := D) (ci := 12) (v := .int x_pos) (C := R_M) (T := T_M) (N := 84) hx hb hG gi_M hown hK hP 0 rfl rfl 5 (by decide) (hG _ fl_M_27) (fun _ h9 => h9) rfl d_M_parts_1 ?_
  refine lv_aload_n hx hb d_M_parts_4 rfl (lv_at hl 0 rfl) ?_
  refine va_get (D := D) (ci := 12) (v := .int x_size) (C := R_M) (T := T_M) (N := 84) hx hb hG gi_M hown hK hP 0 rfl rfl 1 (by decide) (hG _ fl_M_14) (fun _ h9 => h9) rfl d_M_parts_5 ?_
  refine lv_icmp_ge (tgt := 121) hx hb d_M_parts_8 (by decide) (fun _ => ?_) (fun zz1 => absurd h1 zz1)
  exact W.vret hx hb hr (fun t ht hW => ⟨⟨(), rfl, trivial, by rw [ht]; exact hP, hD⟩, hS.F ht⟩) hS.2.2 d_M_parts_121

set_option maxHeartbeats 4000000 in
set_option maxRecDepth 100000 in
theorem c_M_peek0 (l : Launch) (D : va_G) (cI cB cJ cZ : ClassId) (sz : Nat) (g0 : Nat) (m_tape m_nodeAt m_nodeSize m_variableFrom m_inputCount m_outputCount m_equationFrom m_callCount m_stateCount m_wordAt m_wordSize m_clockOf m_given m_truth m_placeOf m_leftFrom m_bodyOf m_lefts m_fromOf m_sort m_one m_kid m_beside m_clock m_state m_price m_high m_isTruth m_full m_part m_low m_definedBy m_definedAs m_partsOf m_nodeOf m_outer m_callOf m_base m_statesFrom m_callsFrom m_childOf m_instanceOf m_localOf m_causeFrom m_causeOf m_reached m_todo m_order m_undone m_inputs m_value m_memory m_later m_worth m_here m_keptMemory m_keptValue m_keptHere : Nat) (x_size x_thrown x_faultKind x_faultPlace x_pos x_token x_tokenAt x_tokenEnd x_seen x_nodes x_variables x_equations x_leftCount x_parsed x_placeNow x_main x_instances x_all x_states x_memories x_calls x_allParts x_causesTotal x_instants x_keptInstants x_isKept : Int32) (h1 : x_seen = 0) (h2 : x_pos = x_size) : Met l y_M_peek (Cond.code y_M_peek b_M_peek 2 (some .int) :: gG) { frames := 1, cells := 0, slots := 0, locals := 25 } (va_Pc [.ref g0] (ct_P D (tyL cI cB cJ cZ) [(g0, .inr (12, [.ref m_tape, .int x_size, .int x_thrown, .int x_faultKind, .int x_faultPlace, .int x_pos, .int x_token, .int x_tokenAt, .int x_tokenEnd, .int x_seen, .ref m_nodeAt, .ref m_nodeSize, .ref m_variableFrom, .ref m_inputCount, .ref m_outputCount, .ref m_equationFrom, .ref m_callCount, .ref m_stateCount, .int x_nodes, .int x_variables, .ref m_wordAt, .ref m_wordSize, .ref m_clockOf, .ref m_given, .ref m_truth, .ref m_placeOf, .ref m_leftFrom, .ref m_bodyOf, .ref m_lefts, .ref m_fromOf, .int x_equations, .int x_leftCount, .ref m_sort, .ref m_one, .ref m_kid, .ref m_beside, .ref m_clock, .ref m_state, .ref m_price, .ref m_high, .int x_parsed, .ref m_isTruth, .int x_placeNow, .ref m_full, .ref m_part, .ref m_low, .ref m_definedBy, .ref m_definedAs, .ref m_partsOf, .int x_main, .int x_instances, .int x_all, .int x_states, .int x_memories, .int x_calls, .int x_allParts, .ref m_nodeOf, .ref m_outer, .ref m_callOf, .ref m_base, .ref m_statesFrom, .ref m_callsFrom, .ref m_childOf, .ref m_instanceOf, .ref m_localOf, .ref m_causeFrom, .ref m_causeOf, .int x_causesTotal, .ref m_reached, .ref m_todo, .ref m_order, .ref m_undone, .int x_instants, .ref m_inputs, .ref m_value, .ref m_memory, .ref m_later, .ref m_worth, .ref m_here, .ref m_keptMemory, .ref m_keptValue, .ref m_keptHere, .int x_keptInstants, .int x_isKept]))] sz)) (va_Qi (fun (r : Int32) (_ : Unit) => r = 0) (fun _ t => va_P D kl [(g0, .inr (12, [.ref m_tape, .int x_size, .int x_thrown, .int x_faultKind, .int x_faultPlace, .int x_pos, .int 0, .int x_pos, .int x_pos, .int 1, .ref m_nodeAt, .ref m_nodeSize, .ref m_variableFrom, .ref m_inputCount, .ref m_outputCount, .ref m_equationFrom, .ref m_callCount, .ref m_stateCount, .int x_nodes, .int x_variables, .ref m_wordAt, .ref m_wordSize, .ref m_clockOf, .ref m_given, .ref m_truth, .ref m_placeOf, .ref m_leftFrom, .ref m_bodyOf, .ref m_lefts, .ref m_fromOf, .int x_equations, .int x_leftCount, .ref m_sort, .ref m_one, .ref m_kid, .ref m_beside, .ref m_clock, .ref m_state, .ref m_price, .ref m_high, .int x_parsed, .ref m_isTruth, .int x_placeNow, .ref m_full, .ref m_part, .ref m_low, .ref m_definedBy, .ref m_definedAs, .ref m_partsOf, .int x_main, .int x_instances, .int x_all, .int x_states, .int x_memories, .int x_calls, .int x_allParts, .ref m_nodeOf, .ref m_outer, .ref m_callOf, .ref m_base, .ref m_statesFrom, .ref m_callsFrom, .ref m_childOf, .ref m_instanceOf, .ref m_localOf, .ref m_causeFrom, .ref m_causeOf, .int x_causesTotal, .ref m_reached, .ref m_todo, .ref m_order, .ref m_undone, .int x_instants, .ref m_inputs, .ref m_value, .ref m_memory, .ref m_later, .ref m_worth, .ref m_here, .ref m_keptMemory, .ref m_keptValue, .ref m_keptHere, .int x_keptInstants, .int x_isKept]))] t.heap ∧ va_D (va_A [(g0, .inr (12, [.ref m_tape, .int x_size, .int x_thrown, .int x_faultKind, .int x_faultPlace, .int x_pos, .int x_token, .int x_tokenAt, .int x_tokenEnd, .int x_seen, .ref m_nodeAt, .ref m_nodeSize, .ref m_variableFrom, .ref m_inputCount, .ref m_outputCount, .ref m_equationFrom, .ref m_callCount, .ref m_stateCount, .int x_nodes, .int x_variables, .ref m_wordAt, .ref m_wordSize, .ref m_clockOf, .ref m_given, .ref m_truth, .ref m_placeOf, .ref m_leftFrom, .ref m_bodyOf, .ref m_lefts, .ref m_fromOf, .int x_equations, .int x_leftCount, .ref m_sort, .ref m_one, .ref m_kid, .ref m_beside, .ref m_clock, .ref m_state, .ref m_price, .ref m_high, .int x_parsed, .ref m_isTruth, .int x_placeNow, .ref m_full, .ref m_part, .ref m_low, .ref m_definedBy, .ref m_definedAs, .ref m_partsOf, .int x_main, .int x_instances, .int x_all, .int x_states, .int x_memories, .int x_calls, .int x_allParts, .ref m_nodeOf, .ref m_outer, .ref m_callOf, .ref m_base, .ref m_statesFrom, .ref m_callsFrom, .ref m_childOf, .ref m_instanceOf, .ref m_localOf, .ref m_causeFrom, .ref m_causeOf, .int x_causesTotal, .ref m_reached, .ref m_todo, .ref m_order, .ref m_undone, .int x_instants, .ref m_inputs, .ref m_value, .ref m_memory, .ref m_later, .ref m_worth, .ref m_here, .ref m_keptMemory, .ref m_keptValue, .ref m_keptHere, .int x_keptInstants, .int x_isKept]))] sz) [(g0, .inr (12, [.ref m_tape, .int x_size, .int x_thrown, .int x_faultKind, .int x_faultPlace, .int x_pos, .int 0, .int x_pos, .int x_pos, .int 1, .ref m_nodeAt, .ref m_nodeSize, .ref m_variableFrom, .ref m_inputCount, .ref m_outputCount, .ref m_equationFrom, .ref m_callCount, .ref m_stateCount, .int x_nodes, .int x_variables, .ref m_wordAt, .ref m_wordSize, .ref m_clockOf, .ref m_given, .ref m_truth, .ref m_placeOf, .ref m_leftFrom, .ref m_bodyOf, .ref m_lefts, .ref m_fromOf, .int x_equations, .int x_leftCount, .ref m_sort, .ref m_one, .ref m_kid, .ref m_beside, .ref m_clock, .ref m_state, .ref m_price, .ref m_high, .int x_parsed, .ref m_isTruth, .int x_placeNow, .ref m_full, .ref m_part, .ref m_low, .ref m_definedBy, .ref m_definedAs, .ref m_partsOf, .int x_main, .int x_instances, .int x_all, .int x_states, .int x_memories, .int x_calls, .int x_allParts, .ref m_nodeOf, .ref m_outer, .ref m_callOf, .ref m_base, .ref m_statesFrom, .ref m_callsFrom, .ref m_childOf, .ref m_instanceOf, .ref m_localOf, .ref m_causeFrom, .ref m_causeOf, .int x_causesTotal, .ref m_reached, .ref m_todo, .ref m_order, .ref m_undone, .int x_instants, .ref m_inputs, .ref m_value, .ref m_memory, .ref m_later, .ref m_worth, .ref m_here, .ref m_keptMemory, .ref m_keptValue, .ref m_keptHere, .int x_keptInstants, .int x_isKept]))]) (va_A [(g0, .inr (12, [.ref m_tape, .int x_size, .int x_thrown, .int x_faultKind, .int x_faultPlace, .int x_pos, .int x_token, .int x_tokenAt, .int x_tokenEnd, .int x_seen, .ref m_nodeAt, .ref m_nodeSize, .ref m_variableFrom, .ref m_inputCount, .ref m_outputCount, .ref m_equationFrom, .ref m_callCount, .ref m_stateCount, .int x_nodes, .int x_variables, .ref m_wordAt, .ref m_wordSize, .ref m_clockOf, .ref m_given, .ref m_truth, .ref m_placeOf, .ref m_leftFrom, .ref m_bodyOf, .ref m_lefts, .ref m_fromOf, .int x_equations, .int x_leftCount, .ref m_sort, .ref m_one, .ref m_kid, .ref m_beside, .ref m_clock, .ref m_state, .ref m_price, .ref m_high, .int x_parsed, .ref m_isTruth, .int x_placeNow, .ref m_full, .ref m_part, .ref m_low, .ref m_definedBy, .ref m_definedAs, .ref m_partsOf, .int x_main, .int x_instances, .int x_all, .int x_states, .int x_memories, .int x_calls, .int x_allParts, .ref m_nodeOf, .ref m_outer, .ref m_callOf, .ref m_base, .ref m_statesFrom, .ref m_callsFrom, .ref m_childOf, .ref m_instanceOf, .ref m_localOf, .ref m_causeFrom, .ref m_causeOf, .int x_causesTotal, .ref m_reached, .ref m_todo, .ref m_order, .ref m_undone, .int x_instants, .ref m_inputs, .ref m_value, .ref m_memory, .ref m_later, .ref m_worth, .ref m_here, .ref m_keptMemory, .ref m_keptValue, .ref m_keptHere, .int x_keptInstants, .int x_isKept]))] sz)) 0 0 (va_A [(g0, .inr (12, [.ref m_tape, .int x_size, .int x_thrown, .int x_faultKind, .int x_faultPlace, .int x_pos, .int x_token, .int x_tokenAt, .int x_tokenEnd, .int x_seen, .ref m_nodeAt, .ref m_nodeSize, .ref m_variableFrom, .ref m_inputCount, .ref m_outputCount, .ref m_equationFrom, .ref m_callCount, .ref m_stateCount, .int x_nodes, .int x_variables, .ref m_wordAt, .ref m_wordSize, .ref m_clockOf, .ref m_given, .ref m_truth, .ref m_placeOf, .ref m_leftFrom, .ref m_bodyOf, .ref m_lefts, .ref m_fromOf, .int x_equations, .int x_leftCount, .ref m_sort, .ref m_one, .ref m_kid, .ref m_beside, .ref m_clock, .ref m_state, .ref m_price, .ref m_high, .int x_parsed, .ref m_isTruth, .int x_placeNow, .ref m_full, .ref m_part, .ref m_low, .ref m_definedBy, .ref m_definedAs, .ref m_partsOf, .int x_main, .int x_instances, .int x_all, .int x_states, .int x_memories, .int x_calls, .int x_allParts, .ref m_nodeOf, .ref m_outer, .ref m_callOf, .ref m_base, .ref m_statesFrom, .ref m_callsFrom, .ref m_childOf, .ref m_instanceOf, .ref m_localOf, .ref m_causeFrom, .ref m_causeOf, .int x_causesTotal, .ref m_reached, .ref m_todo, .ref m_order, .ref m_undone, .int x_instants, .ref m_inputs, .ref m_value, .ref m_memory, .ref m_later, .ref m_worth, .ref m_here, .ref m_keptMemory, .ref m_keptValue, .ref m_keptHere, .int x_keptInstants, .int x_isKept]))] sz) := by
  refine Met.ofW (cc := b_M_peek) (maxL := 2) (ret := (some .int)) (by decide) rfl ?_
  intro p e s m args below meth c s₁ B hml hv
  obtain ⟨rfl, hsz, hP, hK, hD0⟩ := hv
  have hx := B.exec
  have hb := B.bytes
  have hr := B.returns
  have hts := atoms_spec (ws := Cond.code y_M_peek b_M_peek 2 (some .int) :: gG) B.pre
  have hG : ∀ w9 ∈ gG, w9.before [.ref g0].toArray s = true := fun w9 h => hts w9 (List.mem_cons_of_mem _ h)
  have hown : s.vm.findClass R_M = some m.cls := findClass_of_methodNamed B.named
  have hlocks := B.notSynchronized
  subst hsz
  have hD := hD0.self (sz := s.heap.size)
  generalize hAe : va_A [(g0, .inr (12, [.ref m_tape, .int x_size, .int x_thrown, .int x_faultKind, .int x_faultPlace, .int x_pos, .int x_token, .int x_tokenAt, .int x_tokenEnd, .int x_seen, .ref m_nodeAt, .ref m_nodeSize, .ref m_variableFrom, .ref m_inputCount, .ref m_outputCount, .ref m_equationFrom, .ref m_callCount, .ref m_stateCount, .int x_nodes, .int x_variables, .ref m_wordAt, .ref m_wordSize, .ref m_clockOf, .ref m_given, .ref m_truth, .ref m_placeOf, .ref m_leftFrom, .ref m_bodyOf, .ref m_lefts, .ref m_fromOf, .int x_equations, .int x_leftCount, .ref m_sort, .ref m_one, .ref m_kid, .ref m_beside, .ref m_clock, .ref m_state, .ref m_price, .ref m_high, .int x_parsed, .ref m_isTruth, .int x_placeNow, .ref m_full, .ref m_part, .ref m_low, .ref m_definedBy, .ref m_definedAs, .ref m_partsOf, .int x_main, .int x_instances, .int x_all, .int x_states, .int x_memories, .int x_calls, .int x_allParts, .ref m_nodeOf, .ref m_outer, .ref m_callOf, .ref m_base, .ref m_statesFrom, .ref m_callsFrom, .ref m_childOf, .ref m_instanceOf, .ref m_localOf, .ref m_causeFrom, .ref m_causeOf, .int x_causesTotal, .ref m_reached, .ref m_todo, .ref m_order, .ref m_undone, .int x_instants, .ref m_inputs, .ref m_value, .ref m_memory, .ref m_later, .ref m_worth, .ref m_here, .ref m_keptMemory, .ref m_keptValue, .ref m_keptHere, .int x_keptInstants, .int x_isKept]))] s.heap.size = A at hD ⊢
  have hA : ∀ q : Nat, s.heap.size ≤ q → A q := fun q h => by rw [← hAe]; exact Or.inr h
  have hS : va_S A s.heap s.heap [] := va_S.rf
  have hl := lv_entry ([.ref g0]) (n := 2) (Nat.le_of_ble_eq_true rfl)
  rw [lg_entry_eq]
  generalize (lg_sl ([.ref g0]) ++ List.replicate (2 - (lg_sl ([.ref g0])).length) Slot.unset).toArray = ls at hl ⊢
  have hl : lv_has ls 2 [(0, .ref g0)] := hl
  refine lv_aload_n hx hb d_M_peek_0 rfl (lv_at hl 0 rfl) ?_
  refine va_get (D := D) (ci := 12) (v := .int x_seen) (C := R_M) (T := T_M) (N := 84) hx hb hG gi_M hown hK hP 0 rfl rfl 9 (by decide) (hG _ fl_M_39) (fun _ h9 => h9) rfl d_M_peek_1 ?_
  refine lv_if_eq (tgt := 12) hx hb d_M_peek_4 (by decide) (fun _ => ?_) (fun zz1 => absurd h1 zz1)
  refine lv_aload_n hx hb d_M_peek_12 rfl (lv_at hl 0 rfl) ?_
  have hPc := hP.sub (ws' := [(g0, .inr (12, [.ref m_tape, .int x_size, .int x_thrown, .int x_faultKind, .int x_faultPlace, .int x_pos, .int x_token, .int x_tokenAt, .int x_tokenEnd, .int x_seen, .ref m_nodeAt, .ref m_nodeSize, .ref m_variableFrom, .ref m_inputCount, .ref m_outputCount, .ref m_equationFrom, .ref m_callCount, .ref m_stateCount, .int x_nodes, .int x_variables, .ref m_wordAt, .ref m_wordSize, .ref m_clockOf, .ref m_given, .ref m_truth, .ref m_placeOf, .ref m_leftFrom, .ref m_bodyOf, .ref m_lefts, .ref m_fromOf, .int x_equations, .int x_leftCount, .ref m_sort, .ref m_one, .ref m_kid, .ref m_beside, .ref m_clock, .ref m_state, .ref m_price, .ref m_high, .int x_parsed, .ref m_isTruth, .int x_placeNow, .ref m_full, .ref m_part, .ref m_low, .ref m_definedBy, .ref m_definedAs, .ref m_partsOf, .int x_main, .int x_instances, .int x_all, .int x_states, .int x_memories, .int x_calls, .int x_allParts, .ref m_nodeOf, .ref m_outer, .ref m_callOf, .ref m_base, .ref m_statesFrom, .ref m_callsFrom, .ref m_childOf, .ref m_instanceOf, .ref m_localOf, .ref m_causeFrom, .ref m_causeOf, .int x_causesTotal, .ref m_reached, .ref m_todo, .ref m_order, .ref m_undone, .int x_instants, .ref m_inputs, .ref m_value, .ref m_memory, .ref m_later, .ref m_worth, .ref m_here, .ref m_keptMemory, .ref m_keptValue, .ref m_keptHere, .int x_keptInstants, .int x_isKept]))]) [0] rfl
  have hDc := hD.sub (ws' := [(g0, .inr (12, [.ref m_tape, .int x_size, .int x_thrown, .int x_faultKind, .int x_faultPlace, .int x_pos, .int x_token, .int x_tokenAt, .int x_tokenEnd, .int x_seen, .ref m_nodeAt, .ref m_nodeSize, .ref m_variableFrom, .ref m_inputCount, .ref m_outputCount, .ref m_equationFrom, .ref m_callCount, .ref m_stateCount, .int x_nodes, .int x_variables, .ref m_wordAt, .ref m_wordSize, .ref m_clockOf, .ref m_given, .ref m_truth, .ref m_placeOf, .ref m_leftFrom, .ref m_bodyOf, .ref m_lefts, .ref m_fromOf, .int x_equations, .int x_leftCount, .ref m_sort, .ref m_one, .ref m_kid, .ref m_beside, .ref m_clock, .ref m_state, .ref m_price, .ref m_high, .int x_parsed, .ref m_isTruth, .int x_placeNow, .ref m_full, .ref m_part, .ref m_low, .ref m_definedBy, .ref m_definedAs, .ref m_partsOf, .int x_main, .int x_instances, .int x_all, .int x_states, .int x_memories, .int x_calls, .int x_allParts, .ref m_nodeOf, .ref m_outer, .ref m_callOf, .ref m_base, .ref m_statesFrom, .ref m_callsFrom, .ref m_childOf, .ref m_instanceOf, .ref m_localOf, .ref m_causeFrom, .ref m_causeOf, .int x_causesTotal, .ref m_reached, .ref m_todo, .ref m_order, .ref m_undone, .int x_instants, .ref m_inputs, .ref m_value, .ref m_memory, .ref m_later, .ref m_worth, .ref m_here, .ref m_keptMemory, .ref m_keptValue, .ref m_keptHere, .int x_keptInstants, .int x_isKept]))]) [0] (by decide) rfl
  have hFc := va_free (wc := [(g0, .inr (12, [.ref m_tape, .int x_size, .int x_thrown, .int x_faultKind, .int x_faultPlace, .int x_pos, .int x_token, .int x_tokenAt, .int x_tokenEnd, .int x_seen, .ref m_nodeAt, .ref m_nodeSize, .ref m_variableFrom, .ref m_inputCount, .ref m_outputCount, .ref m_equationFrom, .ref m_callCount, .ref m_stateCount, .int x_nodes, .int x_variables, .ref m_wordAt, .ref m_wordSize, .ref m_clockOf, .ref m_given, .ref m_truth, .ref m_placeOf, .ref m_leftFrom, .ref m_bodyOf, .ref m_lefts, .ref m_fromOf, .int x_equations, .int x_leftCount, .ref m_sort, .ref m_one, .ref m_kid, .ref m_beside, .ref m_clock, .ref m_state, .ref m_price, .ref m_high, .int x_parsed, .ref m_isTruth, .int x_placeNow, .ref m_full, .ref m_part, .ref m_low, .ref m_definedBy, .ref m_definedAs, .ref m_partsOf, .int x_main, .int x_instances, .int x_all, .int x_states, .int x_memories, .int x_calls, .int x_allParts, .ref m_nodeOf, .ref m_outer, .ref m_callOf, .ref m_base, .ref m_statesFrom, .ref m_callsFrom, .ref m_childOf, .ref m_instanceOf, .ref m_localOf, .ref m_causeFrom, .ref m_causeOf, .int x_causesTotal, .ref m_reached, .ref m_todo, .ref m_order, .ref m_undone, .int x_instants, .ref m_inputs, .ref m_value, .ref m_memory, .ref m_later, .ref m_worth, .ref m_here, .ref m_keptMemory, .ref m_keptValue, .ref m_keptHere, .int x_keptInstants, .int x_isKept]))]) hD hS hA [0] rfl
  refine va_callv (va_runV (As := []) (rest := []) ⟨hx, hb, hml, hown, hG⟩ (c_M_parts0 l D cI cB cJ cZ s.heap.size g0 m_tape m_nodeAt m_nodeSize m_variableFrom m_inputCount m_outputCount m_equationFrom m_callCount m_stateCount m_wordAt m_wordSize m_clockOf m_given m_truth m_placeOf m_leftFrom m_bodyOf m_lefts m_fromOf m_sort m_one m_kid m_beside m_clock m_state m_price m_high m_isTruth m_full m_part m_low m_definedBy m_definedAs m_partsOf m_nodeOf m_outer m_callOf m_base m_statesFrom m_callsFrom m_childOf m_instanceOf m_localOf m_causeFrom m_causeOf m_reached m_todo m_order m_undone m_inputs m_value m_memory m_later m_worth m_here m_keptMemory m_keptValue m_keptHere x_size x_thrown x_faultKind x_faultPlace x_pos x_token x_tokenAt x_tokenEnd x_seen x_nodes x_variables x_equations x_leftCount x_parsed x_placeNow x_main x_instances x_all x_states x_memories x_calls x_allParts x_causesTotal x_instants x_keptInstants x_isKept (by rw [h2]; exact Int32.le_refl _)) (gcV 0 gG_good hG ml_M_278 im_M_parts se_M_parts in_M co_M_parts rfl rfl (by decide +kernel) ⟨(Nat.le_of_ble_eq_true rfl), (Nat.le_of_ble_eq_true rfl)⟩) (ct_preV hPc hK hDc (ci := 12) (q0 := 0) rfl rfl) rfl rfl hl.1 rfl (lv_room (Nat.le_of_ble_eq_true rfl)) d_M_peek_13 ⟨(Nat.le_of_ble_eq_true rfl), (Nat.le_of_ble_eq_true rfl)⟩) hS (fun q _ h => hFc q h) hFc (fun _ t H1 locs ht hvm hw hB hz1 hk1 hS => ?_)
  obtain ⟨hP1, hD1⟩ := hB
  rw [ht] at hP1
  obtain ⟨hP, hD⟩ := va_join (wr := []) (w1 := [(g0, .inr (12, [.ref m_tape, .int x_size, .int x_thrown, .int x_faultKind, .int x_faultPlace, .int x_pos, .int x_token, .int x_tokenAt, .int x_tokenEnd, .int x_seen, .ref m_nodeAt, .ref m_nodeSize, .ref m_variableFrom, .ref m_inputCount, .ref m_outputCount, .ref m_equationFrom, .ref m_callCount, .ref m_stateCount, .int x_nodes, .int x_variables, .ref m_wordAt, .ref m_wordSize, .ref m_clockOf, .ref m_given, .ref m_truth, .ref m_placeOf, .ref m_leftFrom, .ref m_bodyOf, .ref m_lefts, .ref m_fromOf, .int x_equations, .int x_leftCount, .ref m_sort, .ref m_one, .ref m_kid, .ref m_beside, .ref m_clock, .ref m_state, .ref m_price, .ref m_high, .int x_parsed, .ref m_isTruth, .int x_placeNow, .ref m_full, .ref m_part, .ref m_low, .ref m_definedBy, .ref m_definedAs, .ref m_partsOf, .int x_main, .int x_instances, .int x_all, .int x_states, .int x_memories, .int x_calls, .int x_allParts, .ref m_nodeOf, .ref m_outer, .ref m_callOf, .ref m_base, .ref m_statesFrom, .ref m_callsFrom, .ref m_childOf, .ref m_instanceOf, .ref m_localOf, .ref m_causeFrom, .ref m_causeOf, .int x_causesTotal, .ref m_reached, .ref m_todo, .ref m_order, .ref m_undone, .int x_instants, .ref m_inputs, .ref m_value, .ref m_memory, .ref m_later, .ref m_worth, .ref m_here, .ref m_keptMemory, .ref m_keptValue, .ref m_keptHere, .int x_keptInstants, .int x_isKept]))]) hP hD [0] [] rfl rfl (by decide) (by decide) hk1 hFc hP1 hD1
  generalize H1 = H at hP hS ⊢
  have hP : va_P D kl [(g0, .inr (12, [.ref m_tape, .int x_size, .int x_thrown, .int x_faultKind, .int x_faultPlace, .int x_pos, .int x_token, .int x_tokenAt, .int x_tokenEnd, .int x_seen, .ref m_nodeAt, .ref m_nodeSize, .ref m_variableFrom, .ref m_inputCount, .ref m_outputCount, .ref m_equationFrom, .ref m_callCount, .ref m_stateCount, .int x_nodes, .int x_variables, .ref m_wordAt, .ref m_wordSize, .ref m_clockOf, .ref m_given, .ref m_truth, .ref m_placeOf, .ref m_leftFrom, .ref m_bodyOf, .ref m_lefts, .ref m_fromOf, .int x_equations, .int x_leftCount, .ref m_sort, .ref m_one, .ref m_kid, .ref m_beside, .ref m_clock, .ref m_state, .ref m_price, .ref m_high, .int x_parsed, .ref m_isTruth, .int x_placeNow, .ref m_full, .ref m_part, .ref m_low, .ref m_definedBy, .ref m_definedAs, .ref m_partsOf, .int x_main, .int x_instances, .int x_all, .int x_states, .int x_memories, .int x_calls, .int x_allParts, .ref m_nodeOf, .ref m_outer, .ref m_callOf, .ref m_base, .ref m_statesFrom, .ref m_callsFrom, .ref m_childOf, .ref m_instanceOf, .ref m_localOf, .ref m_causeFrom, .ref m_causeOf, .int x_causesTotal, .ref m_reached, .ref m_todo, .ref m_order, .ref m_undone, .int x_instants, .ref m_inputs, .ref m_value, .ref m_memory, .ref m_later, .ref m_worth, .ref m_here, .ref m_keptMemory, .ref m_keptValue, .ref m_keptHere, .int x_keptInstants, .int x_isKept]))] H := hP
  have hD : va_D A [(g0, .inr (12, [.ref m_tape, .int x_size, .int x_thrown, .int x_faultKind, .int x_faultPlace, .int x_pos, .int x_token, .int x_tokenAt, .int x_tokenEnd, .int x_seen, .ref m_nodeAt, .ref m_nodeSize, .ref m_variableFrom, .ref m_inputCount, .ref m_outputCount, .ref m_equationFrom, .ref m_callCount, .ref m_stateCount, .int x_nodes, .int x_variables, .ref m_wordAt, .ref m_wordSize, .ref m_clockOf, .ref m_given, .ref m_truth, .ref m_placeOf, .ref m_leftFrom, .ref m_bodyOf, .ref m_lefts, .ref m_fromOf, .int x_equations, .int x_leftCount, .ref m_sort, .ref m_one, .ref m_kid, .ref m_beside, .ref m_clock, .ref m_state, .ref m_price, .ref m_high, .int x_parsed, .ref m_isTruth, .int x_placeNow, .ref m_full, .ref m_part, .ref m_low, .ref m_definedBy, .ref m_definedAs, .ref m_partsOf, .int x_main, .int x_instances, .int x_all, .int x_states, .int x_memories, .int x_calls, .int x_allParts, .ref m_nodeOf, .ref m_outer, .ref m_callOf, .ref m_base, .ref m_statesFrom, .ref m_callsFrom, .ref m_childOf, .ref m_instanceOf, .ref m_localOf, .ref m_causeFrom, .ref m_causeOf, .int x_causesTotal, .ref m_reached, .ref m_todo, .ref m_order, .ref m_undone, .int x_instants, .ref m_inputs, .ref m_value, .ref m_memory, .ref m_later, .ref m_worth, .ref m_here, .ref m_keptMemory, .ref m_keptValue, .ref m_keptHere, .int x_keptInstants, .int x_isKept]))] := hD
  refine lv_aload_n hx hb d_M_peek_16 rfl (lv_at hl 0 rfl) ?_
  refine lv_iconst (v := 1) hx hb d_M_peek_17 (by decide) ?_
  refine va_put (D := D) (ci := 12) (v := .int 1) (ty := .boolean) (C := R_M) (T := T_M) (N := 84) hx hb hG gi_M ty_M to_M nm_M hown hK hP hD hS 0 rfl rfl 9 (by decide) (hG _ fl_M_39) (fun _ h9 => h9) rfl (by decide +kernel) rfl rfl (Nat.le_of_ble_eq_true rfl) d_M_peek_18 (fun H locs hP hD hS => ?_)
  have hP : va_P D kl [(g0, .inr (12, [.ref m_tape, .int x_size, .int x_thrown, .int x_faultKind, .int x_faultPlace, .int x_pos, .int x_token, .int x_tokenAt, .int x_tokenEnd, .int 1, .ref m_nodeAt, .ref m_nodeSize, .ref m_variableFrom, .ref m_inputCount, .ref m_outputCount, .ref m_equationFrom, .ref m_callCount, .ref m_stateCount, .int x_nodes, .int x_variables, .ref m_wordAt, .ref m_wordSize, .ref m_clockOf, .ref m_given, .ref m_truth, .ref m_placeOf, .ref m_leftFrom, .ref m_bodyOf, .ref m_lefts, .ref m_fromOf, .int x_equations, .int x_leftCount, .ref m_sort, .ref m_one, .ref m_kid, .ref m_beside, .ref m_clock, .ref m_state, .ref m_price, .ref m_high, .int x_parsed, .ref m_isTruth, .int x_placeNow, .ref m_full, .ref m_part, .ref m_low, .ref m_definedBy, .ref m_definedAs, .ref m_partsOf, .int x_main, .int x_instances, .int x_all, .int x_states, .int x_memories, .int x_calls, .int x_allParts, .ref m_nodeOf, .ref m_outer, .ref m_callOf, .ref m_base, .ref m_statesFrom, .ref m_callsFrom, .ref m_childOf, .ref m_instanceOf, .ref m_localOf, .ref m_causeFrom, .ref m_causeOf, .int x_causesTotal, .ref m_reached, .ref m_todo, .ref m_order, .ref m_undone, .int x_instants, .ref m_inputs, .ref m_value, .ref m_memory, .ref m_later, .ref m_worth, .ref m_here, .ref m_keptMemory, .ref m_keptValue, .ref m_keptHere, .int x_keptInstants, .int x_isKept]))] H := hP
  have hD : va_D A [(g0, .inr (12, [.ref m_tape, .int x_size, .int x_thrown, .int x_faultKind, .int x_faultPlace, .int x_pos, .int x_token, .int x_tokenAt, .int x_tokenEnd, .int 1, .ref m_nodeAt, .ref m_nodeSize, .ref m_variableFrom, .ref m_inputCount, .ref m_outputCount, .ref m_equationFrom, .ref m_callCount, .ref m_stateCount, .int x_nodes, .int x_variables, .ref m_wordAt, .ref m_wordSize, .ref m_clockOf, .ref m_given, .ref m_truth, .ref m_placeOf, .ref m_leftFrom, .ref m_bodyOf, .ref m_lefts, .ref m_fromOf, .int x_equations, .int x_leftCount, .ref m_sort, .ref m_one, .ref m_kid, .ref m_beside, .ref m_clock, .ref m_state, .ref m_price, .ref m_high, .int x_parsed, .ref m_isTruth, .int x_placeNow, .ref m_full, .ref m_part, .ref m_low, .ref m_definedBy, .ref m_definedAs, .ref m_partsOf, .int x_main, .int x_instances, .int x_all, .int x_states, .int x_memories, .int x_calls, .int x_allParts, .ref m_nodeOf, .ref m_outer, .ref m_callOf, .ref m_base, .ref m_statesFrom, .ref m_callsFrom, .ref m_childOf, .ref m_instanceOf, .ref m_localOf, .ref m_causeFrom, .ref m_causeOf, .int x_causesTotal, .ref m_reached, .ref m_todo, .ref m_order, .ref m_undone, .int x_instants, .ref m_inputs, .ref m_value, .ref m_memory, .ref m_later, .ref m_worth, .ref m_here, .ref m_keptMemory, .ref m_keptValue, .ref m_keptHere, .int x_keptInstants, .int x_isKept]))] := hD
  refine lv_aload_n hx hb d_M_peek_21 rfl (lv_at hl 0 rfl) ?_
  refine lv_aload_n hx hb d_M_peek_22 rfl (lv_at hl 0 rfl) ?_
  refine va_get (D := D) (ci := 12) (v := .int x_pos) (C := R_M) (T := T_M) (N := 84) hx hb hG gi_M hown hK hP 0 rfl rfl 5 (by decide) (hG _ fl_M_27) (fun _ h9 => h9) rfl d_M_peek_23 ?_
  refine va_put (D := D) (ci := 12) (v := .int x_pos) (ty := .int) (C := R_M) (T := T_M) (N := 84) hx hb hG gi_M ty_M to_M nm_M hown hK hP hD hS 0 rfl rfl 7 (by decide) (hG _ fl_M_33) (fun _ h9 => h9) rfl (by decide +kernel) rfl rfl (Nat.le_of_ble_eq_true rfl) d_M_peek_26 (fun H locs hP hD hS => ?_)
  have hP : va_P D kl [(g0, .inr (12, [.ref m_tape, .int x_size, .int x_thrown, .int x_faultKind, .int x_faultPlace, .int x_pos, .int x_token, .int x_pos, .int x_tokenEnd, .int 1, .ref m_nodeAt, .ref m_nodeSize, .ref m_variableFrom, .ref m_inputCount, .ref m_outputCount, .ref m_equationFrom, .ref m_callCount, .ref m_stateCount, .int x_nodes, .int x_variables, .ref m_wordAt, .ref m_wordSize, .ref m_clockOf, .ref m_given, .ref m_truth, .ref m_placeOf, .ref m_leftFrom, .ref m_bodyOf, .ref m_lefts, .ref m_fromOf, .int x_equations, .int x_leftCount, .ref m_sort, .ref m_one, .ref m_kid, .ref m_beside, .ref m_clock, .ref m_state, .ref m_price, .ref m_high, .int x_parsed, .ref m_isTruth, .int x_placeNow, .ref m_full, .ref m_part, .ref m_low, .ref m_definedBy, .ref m_definedAs, .ref m_partsOf, .int x_main, .int x_instances, .int x_all, .int x_states, .int x_memories, .int x_calls, .int x_allParts, .ref m_nodeOf, .ref m_outer, .ref m_callOf, .ref m_base, .ref m_statesFrom, .ref m_callsFrom, .ref m_childOf, .ref m_instanceOf, .ref m_localOf, .ref m_causeFrom, .ref m_causeOf, .int x_causesTotal, .ref m_reached, .ref m_todo, .ref m_order, .ref m_undone, .int x_instants, .ref m_inputs, .ref m_value, .ref m_memory, .ref m_later, .ref m_worth, .ref m_here, .ref m_keptMemory, .ref m_keptValue, .ref m_keptHere, .int x_keptInstants, .int x_isKept]))] H := hP
  have hD : va_D A [(g0, .inr (12, [.ref m_tape, .int x_size, .int x_thrown, .int x_faultKind, .int x_faultPlace, .int x_pos, .int x_token, .int x_pos, .int x_tokenEnd, .int 1, .ref m_nodeAt, .ref m_nodeSize, .ref m_variableFrom, .ref m_inputCount, .ref m_outputCount, .ref m_equationFrom, .ref m_callCount, .ref m_stateCount, .int x_nodes, .int x_variables, .ref m_wordAt, .ref m_wordSize, .ref m_clockOf, .ref m_given, .ref m_truth, .ref m_placeOf, .ref m_leftFrom, .ref m_bodyOf, .ref m_lefts, .ref m_fromOf, .int x_equations, .int x_leftCount, .ref m_sort, .ref m_one, .ref m_kid, .ref m_beside, .ref m_clock, .ref m_state, .ref m_price, .ref m_high, .int x_parsed, .ref m_isTruth, .int x_placeNow, .ref m_full, .ref m_part, .ref m_low, .ref m_definedBy, .ref m_definedAs, .ref m_partsOf, .int x_main, .int x_instances, .int x_all, .int x_states, .int x_memories, .int x_calls, .int x_allParts, .ref m_nodeOf, .ref m_outer, .ref m_callOf, .ref m_base, .ref m_statesFrom, .ref m_callsFrom, .ref m_childOf, .ref m_instanceOf, .ref m_localOf, .ref m_causeFrom, .ref m_causeOf, .int x_causesTotal, .ref m_reached, .ref m_todo, .ref m_order, .ref m_undone, .int x_instants, .ref m_inputs, .ref m_value, .ref m_memory, .ref m_later, .ref m_worth, .ref m_here, .ref m_keptMemory, .ref m_keptValue, .ref m_keptHere, .int x_keptInstants, .int x_isKept]))] := hD
  refine lv_aload_n hx hb d_M_peek_29 rfl (lv_at hl 0 rfl) ?_
  refine lv_aload_n hx hb d_M_peek_30 rfl (lv_at hl 0 rfl) ?_
  refine va_get (D := D) (ci := 12) (v := .int x_pos) (C := R_M) (T := T_M) (N := 84) hx hb hG gi_M hown hK hP 0 rfl rfl 5 (by decide) (hG _ fl_M_27) (fun _ h9 => h9) rfl d_M_peek_31 ?_
  refine va_put (D := D) (ci := 12) (v := .int x_pos) (ty := .int) (C := R_M) (T := T_M) (N := 84) hx hb hG gi_M ty_M to_M nm_M hown hK hP hD hS 0 rfl rfl 8 (by decide) (hG _ fl_M_36) (fun _ h9 => h9) rfl (by decide +kernel) rfl rfl (Nat.le_of_ble_eq_true rfl) d_M_peek_34 (fun H locs hP hD hS => ?_)
  have hP : va_P D kl [(g0, .inr (12, [.ref m_tape, .int x_size, .int x_thrown, .int x_faultKind, .int x_faultPlace, .int x_pos, .int x_token, .int x_pos, .int x_pos, .int 1, .ref m_nodeAt, .ref m_nodeSize, .ref m_variableFrom, .ref m_inputCount, .ref m_outputCount, .ref m_equationFrom, .ref m_callCount, .ref m_stateCount, .int x_nodes, .int x_variables, .ref m_wordAt, .ref m_wordSize, .ref m_clockOf, .ref m_given, .ref m_truth, .ref m_placeOf, .ref m_leftFrom, .ref m_bodyOf, .ref m_lefts, .ref m_fromOf, .int x_equations, .int x_leftCount, .ref m_sort, .ref m_one, .ref m_kid, .ref m_beside, .ref m_clock, .ref m_state, .ref m_price, .ref m_high, .int x_parsed, .ref m_isTruth, .int x_placeNow, .ref m_full, .ref m_part, .ref m_low, .ref m_definedBy, .ref m_definedAs, .ref m_partsOf, .int x_main, .int x_instances, .int x_all, .int x_states, .int x_memories, .int x_calls, .int x_allParts, .ref m_nodeOf, .ref m_outer, .ref m_callOf, .ref m_base, .ref m_statesFrom, .ref m_callsFrom, .ref m_childOf, .ref m_instanceOf, .ref m_localOf, .ref m_causeFrom, .ref m_causeOf, .int x_causesTotal, .ref m_reached, .ref m_todo, .ref m_order, .ref m_undone, .int x_instants, .ref m_inputs, .ref m_value, .ref m_memory, .ref m_later, .ref m_worth, .ref m_here, .ref m_keptMemory, .ref m_keptValue, .ref m_keptHere, .int x_keptInstants, .int x_isKept]))] H := hP
  have hD : va_D A [(g0, .inr (12, [.ref m_tape, .int x_size, .int x_thrown, .int x_faultKind, .int x_faultPlace, .int x_pos, .int x_token, .int x_pos, .int x_pos, .int 1, .ref m_nodeAt, .ref m_nodeSize, .ref m_variableFrom, .ref m_inputCount, .ref m_outputCount, .ref m_equationFrom, .ref m_callCount, .ref m_stateCount, .int x_nodes, .int x_variables, .ref m_wordAt, .ref m_wordSize, .ref m_clockOf, .ref m_given, .ref m_truth, .ref m_placeOf, .ref m_leftFrom, .ref m_bodyOf, .ref m_lefts, .ref m_fromOf, .int x_equations, .int x_leftCount, .ref m_sort, .ref m_one, .ref m_kid, .ref m_beside, .ref m_clock, .ref m_state, .ref m_price, .ref m_high, .int x_parsed, .ref m_isTruth, .int x_placeNow, .ref m_full, .ref m_part, .ref m_low, .ref m_definedBy, .ref m_definedAs, .ref m_partsOf, .int x_main, .int x_instances, .int x_all, .int x_states, .int x_memories, .int x_calls, .int x_allParts, .ref m_nodeOf, .ref m_outer, .ref m_callOf, .ref m_base, .ref m_statesFrom, .ref m_callsFrom, .ref m_childOf, .ref m_instanceOf, .ref m_localOf, .ref m_causeFrom, .ref m_causeOf, .int x_causesTotal, .ref m_reached, .ref m_todo, .ref m_order, .ref m_undone, .int x_instants, .ref m_inputs, .ref m_value, .ref m_memory, .ref m_later, .ref m_worth, .ref m_here, .ref m_keptMemory, .ref m_keptValue, .ref m_keptHere, .int x_keptInstants, .int x_isKept]))] := hD
  refine lv_aload_n hx hb d_M_peek_37 rfl (lv_at hl 0 rfl) ?_
  refine lv_iconst (v := 0) hx hb d_M_peek_38 (by decide) ?_
  refine va_put (D := D) (ci := 12) (v := .int 0) (ty := .int) (C := R_M) (T := T_M) (N := 84) hx hb hG gi_M ty_M to_M nm_M hown hK hP hD hS 0 rfl rfl 6 (by decide) (hG _ fl_M_30) (fun _ h9 => h9) rfl (by decide +kernel) rfl rfl (Nat.le_of_ble_eq_true rfl) d_M_peek_39 (fun H locs hP hD hS => ?_)
  have hP : va_P D kl [(g0, .inr (12, [.ref m_tape, .int x_size, .int x_thrown, .int x_faultKind, .int x_faultPlace, .int x_pos, .int 0, .int x_pos, .int x_pos, .int 1, .ref m_nodeAt, .ref m_nodeSize, .ref m_variableFrom, .ref m_inputCount, .ref m_outputCount, .ref m_equationFrom, .ref m_callCount, .ref m_stateCount, .int x_nodes, .int x_variables, .ref m_wordAt, .ref m_wordSize, .ref m_clockOf, .ref m_given, .ref m_truth, .ref m_placeOf, .ref m_leftFrom, .ref m_bodyOf, .ref m_lefts, .ref m_fromOf, .int x_equations, .int x_leftCount, .ref m_sort, .ref m_one, .ref m_kid, .ref m_beside, .ref m_clock, .ref m_state, .ref m_price, .ref m_high, .int x_parsed, .ref m_isTruth, .int x_placeNow, .ref m_full, .ref m_part, .ref m_low, .ref m_definedBy, .ref m_definedAs, .ref m_partsOf, .int x_main, .int x_instances, .int x_all, .int x_states, .int x_memories, .int x_calls, .int x_allParts, .ref m_nodeOf, .ref m_outer, .ref m_callOf, .ref m_base, .ref m_statesFrom, .ref m_callsFrom, .ref m_childOf, .ref m_instanceOf, .ref m_localOf, .ref m_causeFrom, .ref m_causeOf, .int x_causesTotal, .ref m_reached, .ref m_todo, .ref m_order, .ref m_undone, .int x_instants, .ref m_inputs, .ref m_value, .ref m_memory, .ref m_later, .ref m_worth, .ref m_here, .ref m_keptMemory, .ref m_keptValue, .ref m_keptHere, .int x_keptInstants, .int x_isKept]))] H := hP
  have hD : va_D A [(g0, .inr (12, [.ref m_tape, .int x_size, .int x_thrown, .int x_faultKind, .int x_faultPlace, .int x_pos, .int 0, .int x_pos, .int x_pos, .int 1, .ref m_nodeAt, .ref m_nodeSize, .ref m_variableFrom, .ref m_inputCount, .ref m_outputCount, .ref m_equationFrom, .ref m_callCount, .ref m_stateCount, .int x_nodes, .int x_variables, .ref m_wordAt, .ref m_wordSize, .ref m_clockOf, .ref m_given, .ref m_truth, .ref m_placeOf, .ref m_leftFrom, .ref m_bodyOf, .ref m_lefts, .ref m_fromOf, .int x_equations, .int x_leftCount, .ref m_sort, .ref m_one, .ref m_kid, .ref m_beside, .ref m_clock, .ref m_state, .ref m_price, .ref m_high, .int x_parsed, .ref m_isTruth, .int x_placeNow, .ref m_full, .ref m_part, .ref m_low, .ref m_definedBy, .ref m_definedAs, .ref m_partsOf, .int x_main, .int x_instances, .int x_all, .int x_states, .int x_memories, .int x_calls, .int x_allParts, .ref m_nodeOf, .ref m_outer, .ref m_callOf, .ref m_base, .ref m_statesFrom, .ref m_callsFrom, .ref m_childOf, .ref m_instanceOf, .ref m_localOf, .ref m_causeFrom, .ref m_causeOf, .int x_causesTotal, .ref m_reached, .ref m_todo, .ref m_order, .ref m_undone, .int x_instants, .ref m_inputs, .ref m_value, .ref m_memory, .ref m_later, .ref m_worth, .ref m_here, .ref m_keptMemory, .ref m_keptValue, .ref m_keptHere, .int x_keptInstants, .int x_isKept]))] := hD
  refine lv_aload_n hx hb d_M_peek_42 rfl (lv_at hl 0 rfl) ?_
  refine va_get (D := D) (ci := 12) (v := .int x_pos) (C := R_M) (T := T_M) (N := 84) hx hb hG gi_M hown hK hP 0 rfl rfl 5 (by decide) (hG _ fl_M_27) (fun _ h9 => h9) rfl d_M_peek_43 ?_
  refine lv_aload_n hx hb d_M_peek_46 rfl (lv_at hl 0 rfl) ?_
  refine va_get (D := D) (ci := 12) (v := .int x_size) (C := R_M) (T := T_M) (N := 84) hx hb hG gi_M hown hK hP 0 rfl rfl 1 (by decide) (hG _ fl_M_14) (fun _ h9 => h9) rfl d_M_peek_47 ?_
  refine lv_icmp_ne (tgt := 55) hx hb d_M_peek_50 (by decide) (fun zz4 => absurd zz4 (fun z => z h2)) (fun _ => ?_)
  refine lv_iconst (v := 0) hx hb d_M_peek_53 (by decide) ?_
  exact W.iret (v := 0) hx hb hr (fun t ht hW => ⟨⟨0, (), rfl, rfl, by rw [ht]; exact hP, hD⟩, hS.F ht⟩) hS.2.2 d_M_peek_54

set_option maxHeartbeats 4000000 in
set_option maxRecDepth 100000 in
theorem c_M_peek1 (l : Launch) (D : va_G) (cI cB cJ cZ : ClassId) (sz : Nat) (g0 : Nat) (m_tape m_nodeAt m_nodeSize m_variableFrom m_inputCount m_outputCount m_equationFrom m_callCount m_stateCount m_wordAt m_wordSize m_clockOf m_given m_truth m_placeOf m_leftFrom m_bodyOf m_lefts m_fromOf m_sort m_one m_kid m_beside m_clock m_state m_price m_high m_isTruth m_full m_part m_low m_definedBy m_definedAs m_partsOf m_nodeOf m_outer m_callOf m_base m_statesFrom m_callsFrom m_childOf m_instanceOf m_localOf m_causeFrom m_causeOf m_reached m_todo m_order m_undone m_inputs m_value m_memory m_later m_worth m_here m_keptMemory m_keptValue m_keptHere : Nat) (x_size x_thrown x_faultKind x_faultPlace x_pos x_token x_tokenAt x_tokenEnd x_seen x_nodes x_variables x_equations x_leftCount x_parsed x_placeNow x_main x_instances x_all x_states x_memories x_calls x_allParts x_causesTotal x_instants x_keptInstants x_isKept : Int32) (h1 : ¬ x_seen = 0) : Met l y_M_peek (Cond.code y_M_peek b_M_peek 2 (some .int) :: gG) { frames := 0, cells := 0, slots := 0, locals := 0 } (va_Pc [.ref g0] (ct_P D (tyL cI cB cJ cZ) [(g0, .inr (12, [.ref m_tape, .int x_size, .int x_thrown, .int x_faultKind, .int x_faultPlace, .int x_pos, .int x_token, .int x_tokenAt, .int x_tokenEnd, .int x_seen, .ref m_nodeAt, .ref m_nodeSize, .ref m_variableFrom, .ref m_inputCount, .ref m_outputCount, .ref m_equationFrom, .ref m_callCount, .ref m_stateCount, .int x_nodes, .int x_variables, .ref m_wordAt, .ref m_wordSize, .ref m_clockOf, .ref m_given, .ref m_truth, .ref m_placeOf, .ref m_leftFrom, .ref m_bodyOf, .ref m_lefts, .ref m_fromOf, .int x_equations, .int x_leftCount, .ref m_sort, .ref m_one, .ref m_kid, .ref m_beside, .ref m_clock, .ref m_state, .ref m_price, .ref m_high, .int x_parsed, .ref m_isTruth, .int x_placeNow, .ref m_full, .ref m_part, .ref m_low, .ref m_definedBy, .ref m_definedAs, .ref m_partsOf, .int x_main, .int x_instances, .int x_all, .int x_states, .int x_memories, .int x_calls, .int x_allParts, .ref m_nodeOf, .ref m_outer, .ref m_callOf, .ref m_base, .ref m_statesFrom, .ref m_callsFrom, .ref m_childOf, .ref m_instanceOf, .ref m_localOf, .ref m_causeFrom, .ref m_causeOf, .int x_causesTotal, .ref m_reached, .ref m_todo, .ref m_order, .ref m_undone, .int x_instants, .ref m_inputs, .ref m_value, .ref m_memory, .ref m_later, .ref m_worth, .ref m_here, .ref m_keptMemory, .ref m_keptValue, .ref m_keptHere, .int x_keptInstants, .int x_isKept]))] sz)) (QcRead x_token) 0 0 (fun _ => False) := by
  refine Met.ofW (cc := b_M_peek) (maxL := 2) (ret := (some .int)) (by decide) rfl ?_
  intro p e s m args below meth c s₁ B hml hv
  obtain ⟨rfl, hsz, hP, hK, hD0⟩ := hv
  have hx := B.exec
  have hb := B.bytes
  have hr := B.returns
  have hts := atoms_spec (ws := Cond.code y_M_peek b_M_peek 2 (some .int) :: gG) B.pre
  have hG : ∀ w9 ∈ gG, w9.before [.ref g0].toArray s = true := fun w9 h => hts w9 (List.mem_cons_of_mem _ h)
  have hown : s.vm.findClass R_M = some m.cls := findClass_of_methodNamed B.named
  have hlocks := B.notSynchronized
  subst hsz
  have hD := hD0.self (sz := s.heap.size)
  generalize hAe : va_A [(g0, .inr (12, [.ref m_tape, .int x_size, .int x_thrown, .int x_faultKind, .int x_faultPlace, .int x_pos, .int x_token, .int x_tokenAt, .int x_tokenEnd, .int x_seen, .ref m_nodeAt, .ref m_nodeSize, .ref m_variableFrom, .ref m_inputCount, .ref m_outputCount, .ref m_equationFrom, .ref m_callCount, .ref m_stateCount, .int x_nodes, .int x_variables, .ref m_wordAt, .ref m_wordSize, .ref m_clockOf, .ref m_given, .ref m_truth, .ref m_placeOf, .ref m_leftFrom, .ref m_bodyOf, .ref m_lefts, .ref m_fromOf, .int x_equations, .int x_leftCount, .ref m_sort, .ref m_one, .ref m_kid, .ref m_beside, .ref m_clock, .ref m_state, .ref m_price, .ref m_high, .int x_parsed, .ref m_isTruth, .int x_placeNow, .ref m_full, .ref m_part, .ref m_low, .ref m_definedBy, .ref m_definedAs, .ref m_partsOf, .int x_main, .int x_instances, .int x_all, .int x_states, .int x_memories, .int x_calls, .int x_allParts, .ref m_nodeOf, .ref m_outer, .ref m_callOf, .ref m_base, .ref m_statesFrom, .ref m_callsFrom, .ref m_childOf, .ref m_instanceOf, .ref m_localOf, .ref m_causeFrom, .ref m_causeOf, .int x_causesTotal, .ref m_reached, .ref m_todo, .ref m_order, .ref m_undone, .int x_instants, .ref m_inputs, .ref m_value, .ref m_memory, .ref m_later, .ref m_worth, .ref m_here, .ref m_keptMemory, .ref m_keptValue, .ref m_keptHere, .int x_keptInstants, .int x_isKept]))] s.heap.size = A at hD
  have hA : ∀ q : Nat, s.heap.size ≤ q → A q := fun q h => by rw [← hAe]; exact Or.inr h
  have hS : va_S A s.heap s.heap [] := va_S.rf
  have hl := lv_entry ([.ref g0]) (n := 2) (Nat.le_of_ble_eq_true rfl)
  rw [lg_entry_eq]
  generalize (lg_sl ([.ref g0]) ++ List.replicate (2 - (lg_sl ([.ref g0])).length) Slot.unset).toArray = ls at hl ⊢
  have hl : lv_has ls 2 [(0, .ref g0)] := hl
  refine lv_aload_n hx hb d_M_peek_0 rfl (lv_at hl 0 rfl) ?_
  refine va_get (D := D) (ci := 12) (v := .int x_seen) (C := R_M) (T := T_M) (N := 84) hx hb hG gi_M hown hK hP 0 rfl rfl 9 (by decide) (hG _ fl_M_39) (fun _ h9 => h9) rfl d_M_peek_1 ?_
  refine lv_if_eq (tgt := 12) hx hb d_M_peek_4 (by decide) (fun zz1 => absurd zz1 h1) (fun _ => ?_)
  refine lv_aload_n hx hb d_M_peek_7 rfl (lv_at hl 0 rfl) ?_
  refine va_get (D := D) (ci := 12) (v := .int x_token) (C := R_M) (T := T_M) (N := 84) hx hb hG gi_M hown hK hP 0 rfl rfl 6 (by decide) (hG _ fl_M_30) (fun _ h9 => h9) rfl d_M_peek_8 ?_
  exact W.iret (v := x_token) hx hb hr (fun t ht hW => ⟨rfl, ht⟩) (fun q h => by cases h) d_M_peek_11

set_option maxHeartbeats 4000000 in
set_option maxRecDepth 100000 in
theorem c_M_is0 (l : Launch) (D : va_G) (cI cB cJ cZ : ClassId) (sz : Nat) (g0 : Nat) (m_tape m_nodeAt m_nodeSize m_variableFrom m_inputCount m_outputCount m_equationFrom m_callCount m_stateCount m_wordAt m_wordSize m_clockOf m_given m_truth m_placeOf m_leftFrom m_bodyOf m_lefts m_fromOf m_sort m_one m_kid m_beside m_clock m_state m_price m_high m_isTruth m_full m_part m_low m_definedBy m_definedAs m_partsOf m_nodeOf m_outer m_callOf m_base m_statesFrom m_callsFrom m_childOf m_instanceOf m_localOf m_causeFrom m_causeOf m_reached m_todo m_order m_undone m_inputs m_value m_memory m_later m_worth m_here m_keptMemory m_keptValue m_keptHere : Nat) (x_size x_thrown x_faultKind x_faultPlace x_pos x_token x_tokenAt x_tokenEnd x_seen x_nodes x_variables x_equations x_leftCount x_parsed x_placeNow x_main x_instances x_all x_states x_memories x_calls x_allParts x_causesTotal x_instants x_keptInstants x_isKept : Int32) (sa : Nat) (h1 : x_seen = 0) (h2 : x_pos = x_size) : Met l y_M_is (Cond.code y_M_is b_M_is 3 (some .boolean) :: gG) { frames := 2, cells := 0, slots := 0, locals := 50 } (va_Pc [.ref g0, .ref sa] (ct_P D (tyL cI cB cJ cZ) [(g0, .inr (12, [.ref m_tape, .int x_size, .int x_thrown, .int x_faultKind, .int x_faultPlace, .int x_pos, .int x_token, .int x_tokenAt, .int x_tokenEnd, .int x_seen, .ref m_nodeAt, .ref m_nodeSize, .ref m_variableFrom, .ref m_inputCount, .ref m_outputCount, .ref m_equationFrom, .ref m_callCount, .ref m_stateCount, .int x_nodes, .int x_variables, .ref m_wordAt, .ref m_wordSize, .ref m_clockOf, .ref m_given, .ref m_truth, .ref m_placeOf, .ref m_leftFrom, .ref m_bodyOf, .ref m_lefts, .ref m_fromOf, .int x_equations, .int x_leftCount, .ref m_sort, .ref m_one, .ref m_kid, .ref m_beside, .ref m_clock, .ref m_state, .ref m_price, .ref m_high, .int x_parsed, .ref m_isTruth, .int x_placeNow, .ref m_full, .ref m_part, .ref m_low, .ref m_definedBy, .ref m_definedAs, .ref m_partsOf, .int x_main, .int x_instances, .int x_all, .int x_states, .int x_memories, .int x_calls, .int x_allParts, .ref m_nodeOf, .ref m_outer, .ref m_callOf, .ref m_base, .ref m_statesFrom, .ref m_callsFrom, .ref m_childOf, .ref m_instanceOf, .ref m_localOf, .ref m_causeFrom, .ref m_causeOf, .int x_causesTotal, .ref m_reached, .ref m_todo, .ref m_order, .ref m_undone, .int x_instants, .ref m_inputs, .ref m_value, .ref m_memory, .ref m_later, .ref m_worth, .ref m_here, .ref m_keptMemory, .ref m_keptValue, .ref m_keptHere, .int x_keptInstants, .int x_isKept]))] sz)) (va_Qi (fun (r : Int32) (_ : Unit) => r = 0) (fun _ t => va_P D kl [(g0, .inr (12, [.ref m_tape, .int x_size, .int x_thrown, .int x_faultKind, .int x_faultPlace, .int x_pos, .int 0, .int x_pos, .int x_pos, .int 1, .ref m_nodeAt, .ref m_nodeSize, .ref m_variableFrom, .ref m_inputCount, .ref m_outputCount, .ref m_equationFrom, .ref m_callCount, .ref m_stateCount, .int x_nodes, .int x_variables, .ref m_wordAt, .ref m_wordSize, .ref m_clockOf, .ref m_given, .ref m_truth, .ref m_placeOf, .ref m_leftFrom, .ref m_bodyOf, .ref m_lefts, .ref m_fromOf, .int x_equations, .int x_leftCount, .ref m_sort, .ref m_one, .ref m_kid, .ref m_beside, .ref m_clock, .ref m_state, .ref m_price, .ref m_high, .int x_parsed, .ref m_isTruth, .int x_placeNow, .ref m_full, .ref m_part, .ref m_low, .ref m_definedBy, .ref m_definedAs, .ref m_partsOf, .int x_main, .int x_instances, .int x_all, .int x_states, .int x_memories, .int x_calls, .int x_allParts, .ref m_nodeOf, .ref m_outer, .ref m_callOf, .ref m_base, .ref m_statesFrom, .ref m_callsFrom, .ref m_childOf, .ref m_instanceOf, .ref m_localOf, .ref m_causeFrom, .ref m_causeOf, .int x_causesTotal, .ref m_reached, .ref m_todo, .ref m_order, .ref m_undone, .int x_instants, .ref m_inputs, .ref m_value, .ref m_memory, .ref m_later, .ref m_worth, .ref m_here, .ref m_keptMemory, .ref m_keptValue, .ref m_keptHere, .int x_keptInstants, .int x_isKept]))] t.heap ∧ va_D (va_A [(g0, .inr (12, [.ref m_tape, .int x_size, .int x_thrown, .int x_faultKind, .int x_faultPlace, .int x_pos, .int x_token, .int x_tokenAt, .int x_tokenEnd, .int x_seen, .ref m_nodeAt, .ref m_nodeSize, .ref m_variableFrom, .ref m_inputCount, .ref m_outputCount, .ref m_equationFrom, .ref m_callCount, .ref m_stateCount, .int x_nodes, .int x_variables, .ref m_wordAt, .ref m_wordSize, .ref m_clockOf, .ref m_given, .ref m_truth, .ref m_placeOf, .ref m_leftFrom, .ref m_bodyOf, .ref m_lefts, .ref m_fromOf, .int x_equations, .int x_leftCount, .ref m_sort, .ref m_one, .ref m_kid, .ref m_beside, .ref m_clock, .ref m_state, .ref m_price, .ref m_high, .int x_parsed, .ref m_isTruth, .int x_placeNow, .ref m_full, .ref m_part, .ref m_low, .ref m_definedBy, .ref m_definedAs, .ref m_partsOf, .int x_main, .int x_instances, .int x_all, .int x_states, .int x_memories, .int x_calls, .int x_allParts, .ref m_nodeOf, .ref m_outer, .ref m_callOf, .ref m_base, .ref m_statesFrom, .ref m_callsFrom, .ref m_childOf, .ref m_instanceOf, .ref m_localOf, .ref m_causeFrom, .ref m_causeOf, .int x_causesTotal, .ref m_reached, .ref m_todo, .ref m_order, .ref m_undone, .int x_instants, .ref m_inputs, .ref m_value, .ref m_memory, .ref m_later, .ref m_worth, .ref m_here, .ref m_keptMemory, .ref m_keptValue, .ref m_keptHere, .int x_keptInstants, .int x_isKept]))] sz) [(g0, .inr (12, [.ref m_tape, .int x_size, .int x_thrown, .int x_faultKind, .int x_faultPlace, .int x_pos, .int 0, .int x_pos, .int x_pos, .int 1, .ref m_nodeAt, .ref m_nodeSize, .ref m_variableFrom, .ref m_inputCount, .ref m_outputCount, .ref m_equationFrom, .ref m_callCount, .ref m_stateCount, .int x_nodes, .int x_variables, .ref m_wordAt, .ref m_wordSize, .ref m_clockOf, .ref m_given, .ref m_truth, .ref m_placeOf, .ref m_leftFrom, .ref m_bodyOf, .ref m_lefts, .ref m_fromOf, .int x_equations, .int x_leftCount, .ref m_sort, .ref m_one, .ref m_kid, .ref m_beside, .ref m_clock, .ref m_state, .ref m_price, .ref m_high, .int x_parsed, .ref m_isTruth, .int x_placeNow, .ref m_full, .ref m_part, .ref m_low, .ref m_definedBy, .ref m_definedAs, .ref m_partsOf, .int x_main, .int x_instances, .int x_all, .int x_states, .int x_memories, .int x_calls, .int x_allParts, .ref m_nodeOf, .ref m_outer, .ref m_callOf, .ref m_base, .ref m_statesFrom, .ref m_callsFrom, .ref m_childOf, .ref m_instanceOf, .ref m_localOf, .ref m_causeFrom, .ref m_causeOf, .int x_causesTotal, .ref m_reached, .ref m_todo, .ref m_order, .ref m_undone, .int x_instants, .ref m_inputs, .ref m_value, .ref m_memory, .ref m_later, .ref m_worth, .ref m_here, .ref m_keptMemory, .ref m_keptValue, .ref m_keptHere, .int x_keptInstants, .int x_isKept]))]) (va_A [(g0, .inr (12, [.ref m_tape, .int x_size, .int x_thrown, .int x_faultKind, .int x_faultPlace, .int x_pos, .int x_token, .int x_tokenAt, .int x_tokenEnd, .int x_seen, .ref m_nodeAt, .ref m_nodeSize, .ref m_variableFrom, .ref m_inputCount, .ref m_outputCount, .ref m_equationFrom, .ref m_callCount, .ref m_stateCount, .int x_nodes, .int x_variables, .ref m_wordAt, .ref m_wordSize, .ref m_clockOf, .ref m_given, .ref m_truth, .ref m_placeOf, .ref m_leftFrom, .ref m_bodyOf, .ref m_lefts, .ref m_fromOf, .int x_equations, .int x_leftCount, .ref m_sort, .ref m_one, .ref m_kid, .ref m_beside, .ref m_clock, .ref m_state, .ref m_price, .ref m_high, .int x_parsed, .ref m_isTruth, .int x_placeNow, .ref m_full, .ref m_part, .ref m_low, .ref m_definedBy, .ref m_definedAs, .ref m_partsOf, .int x_main, .int x_instances, .int x_all, .int x_states, .int x_memories, .int x_calls, .int x_allParts, .ref m_nodeOf, .ref m_outer, .ref m_callOf, .ref m_base, .ref m_statesFrom, .ref m_callsFrom, .ref m_childOf, .ref m_instanceOf, .ref m_localOf, .ref m_causeFrom, .ref m_causeOf, .int x_causesTotal, .ref m_reached, .ref m_todo, .ref m_order, .ref m_undone, .int x_instants, .ref m_inputs, .ref m_value, .ref m_memory, .ref m_later, .ref m_worth, .ref m_here, .ref m_keptMemory, .ref m_keptValue, .ref m_keptHere, .int x_keptInstants, .int x_isKept]))] sz)) 0 0 (va_A [(g0, .inr (12, [.ref m_tape, .int x_size, .int x_thrown, .int x_faultKind, .int x_faultPlace, .int x_pos, .int x_token, .int x_tokenAt, .int x_tokenEnd, .int x_seen, .ref m_nodeAt, .ref m_nodeSize, .ref m_variableFrom, .ref m_inputCount, .ref m_outputCount, .ref m_equationFrom, .ref m_callCount, .ref m_stateCount, .int x_nodes, .int x_variables, .ref m_wordAt, .ref m_wordSize, .ref m_clockOf, .ref m_given, .ref m_truth, .ref m_placeOf, .ref m_leftFrom, .ref m_bodyOf, .ref m_lefts, .ref m_fromOf, .int x_equations, .int x_leftCount, .ref m_sort, .ref m_one, .ref m_kid, .ref m_beside, .ref m_clock, .ref m_state, .ref m_price, .ref m_high, .int x_parsed, .ref m_isTruth, .int x_placeNow, .ref m_full, .ref m_part, .ref m_low, .ref m_definedBy, .ref m_definedAs, .ref m_partsOf, .int x_main, .int x_instances, .int x_all, .int x_states, .int x_memories, .int x_calls, .int x_allParts, .ref m_nodeOf, .ref m_outer, .ref m_callOf, .ref m_base, .ref m_statesFrom, .ref m_callsFrom, .ref m_childOf, .ref m_instanceOf, .ref m_localOf, .ref m_causeFrom, .ref m_causeOf, .int x_causesTotal, .ref m_reached, .ref m_todo, .ref m_order, .ref m_undone, .int x_instants, .ref m_inputs, .ref m_value, .ref m_memory, .ref m_later, .ref m_worth, .ref m_here, .ref m_keptMemory, .ref m_keptValue, .ref m_keptHere, .int x_keptInstants, .int x_isKept]))] sz) := by
  refine Met.ofW (cc := b_M_is) (maxL := 3) (ret := (some .boolean)) (by decide) rfl ?_
  intro p e s m args below meth c s₁ B hml hv
  obtain ⟨rfl, hsz, hP, hK, hD0⟩ := hv
  have hx := B.exec
  have hb := B.bytes
  have hr := B.returns
  have hts := atoms_spec (ws := Cond.code y_M_is b_M_is 3 (some .boolean) :: gG) B.pre
  have hG : ∀ w9 ∈ gG, w9.before [.ref g0, .ref sa].toArray s = true := fun w9 h => hts w9 (List.mem_cons_of_mem _ h)
  have hown : s.vm.findClass R_M = some m.cls := findClass_of_methodNamed B.named
  have hlocks := B.notSynchronized
  subst hsz
  have hD := hD0.self (sz := s.heap.size)
  generalize hAe : va_A [(g0, .inr (12, [.ref m_tape, .int x_size, .int x_thrown, .int x_faultKind, .int x_faultPlace, .int x_pos, .int x_token, .int x_tokenAt, .int x_tokenEnd, .int x_seen, .ref m_nodeAt, .ref m_nodeSize, .ref m_variableFrom, .ref m_inputCount, .ref m_outputCount, .ref m_equationFrom, .ref m_callCount, .ref m_stateCount, .int x_nodes, .int x_variables, .ref m_wordAt, .ref m_wordSize, .ref m_clockOf, .ref m_given, .ref m_truth, .ref m_placeOf, .ref m_leftFrom, .ref m_bodyOf, .ref m_lefts, .ref m_fromOf, .int x_equations, .int x_leftCount, .ref m_sort, .ref m_one, .ref m_kid, .ref m_beside, .ref m_clock, .ref m_state, .ref m_price, .ref m_high, .int x_parsed, .ref m_isTruth, .int x_placeNow, .ref m_full, .ref m_part, .ref m_low, .ref m_definedBy, .ref m_definedAs, .ref m_partsOf, .int x_main, .int x_instances, .int x_all, .int x_states, .int x_memories, .int x_calls, .int x_allParts, .ref m_nodeOf, .ref m_outer, .ref m_callOf, .ref m_base, .ref m_statesFrom, .ref m_callsFrom, .ref m_childOf, .ref m_instanceOf, .ref m_localOf, .ref m_causeFrom, .ref m_causeOf, .int x_causesTotal, .ref m_reached, .ref m_todo, .ref m_order, .ref m_undone, .int x_instants, .ref m_inputs, .ref m_value, .ref m_memory, .ref m_later, .ref m_worth, .ref m_here, .ref m_keptMemory, .ref m_keptValue, .ref m_keptHere, .int x_keptInstants, .int x_isKept]))] s.heap.size = A at hD ⊢
  have hA : ∀ q : Nat, s.heap.size ≤ q → A q := fun q h => by rw [← hAe]; exact Or.inr h
  have hS : va_S A s.heap s.heap [] := va_S.rf
  have hl := lv_entry ([.ref g0, .ref sa]) (n := 3) (Nat.le_of_ble_eq_true rfl)
  rw [lg_entry_eq]
  generalize (lg_sl ([.ref g0, .ref sa]) ++ List.replicate (3 - (lg_sl ([.ref g0, .ref sa])).length) Slot.unset).toArray = ls at hl ⊢
  have hl : lv_has ls 3 [(0, .ref g0), (1, .ref sa)] := hl
  refine lv_aload_n hx hb d_M_is_0 rfl (lv_at hl 0 rfl) ?_
  have hPc := hP.sub (ws' := [(g0, .inr (12, [.ref m_tape, .int x_size, .int x_thrown, .int x_faultKind, .int x_faultPlace, .int x_pos, .int x_token, .int x_tokenAt, .int x_tokenEnd, .int x_seen, .ref m_nodeAt, .ref m_nodeSize, .ref m_variableFrom, .ref m_inputCount, .ref m_outputCount, .ref m_equationFrom, .ref m_callCount, .ref m_stateCount, .int x_nodes, .int x_variables, .ref m_wordAt, .ref m_wordSize, .ref m_clockOf, .ref m_given, .ref m_truth, .ref m_placeOf, .ref m_leftFrom, .ref m_bodyOf, .ref m_lefts, .ref m_fromOf, .int x_equations, .int x_leftCount, .ref m_sort, .ref m_one, .ref m_kid, .ref m_beside, .ref m_clock, .ref m_state, .ref m_price, .ref m_high, .int x_parsed, .ref m_isTruth, .int x_placeNow, .ref m_full, .ref m_part, .ref m_low, .ref m_definedBy, .ref m_definedAs, .ref m_partsOf, .int x_main, .int x_instances, .int x_all, .int x_states, .int x_memories, .int x_calls, .int x_allParts, .ref m_nodeOf, .ref m_outer, .ref m_callOf, .ref m_base, .ref m_statesFrom, .ref m_callsFrom, .ref m_childOf, .ref m_instanceOf, .ref m_localOf, .ref m_causeFrom, .ref m_causeOf, .int x_causesTotal, .ref m_reached, .ref m_todo, .ref m_order, .ref m_undone, .int x_instants, .ref m_inputs, .ref m_value, .ref m_memory, .ref m_later, .ref m_worth, .ref m_here, .ref m_keptMemory, .ref m_keptValue, .ref m_keptHere, .int x_keptInstants, .int x_isKept]))]) [0] rfl
  have hDc := hD.sub (ws' := [(g0, .inr (12, [.ref m_tape, .int x_size, .int x_thrown, .int x_faultKind, .int x_faultPlace, .int x_pos, .int x_token, .int x_tokenAt, .int x_tokenEnd, .int x_seen, .ref m_nodeAt, .ref m_nodeSize, .ref m_variableFrom, .ref m_inputCount, .ref m_outputCount, .ref m_equationFrom, .ref m_callCount, .ref m_stateCount, .int x_nodes, .int x_variables, .ref m_wordAt, .ref m_wordSize, .ref m_clockOf, .ref m_given, .ref m_truth, .ref m_placeOf, .ref m_leftFrom, .ref m_bodyOf, .ref m_lefts, .ref m_fromOf, .int x_equations, .int x_leftCount, .ref m_sort, .ref m_one, .ref m_kid, .ref m_beside, .ref m_clock, .ref m_state, .ref m_price, .ref m_high, .int x_parsed, .ref m_isTruth, .int x_placeNow, .ref m_full, .ref m_part, .ref m_low, .ref m_definedBy, .ref m_definedAs, .ref m_partsOf, .int x_main, .int x_instances, .int x_all, .int x_states, .int x_memories, .int x_calls, .int x_allParts, .ref m_nodeOf, .ref m_outer, .ref m_callOf, .ref m_base, .ref m_statesFrom, .ref m_callsFrom, .ref m_childOf, .ref m_instanceOf, .ref m_localOf, .ref m_causeFrom, .ref m_causeOf, .int x_causesTotal, .ref m_reached, .ref m_todo, .ref m_order, .ref m_undone, .int x_instants, .ref m_inputs, .ref m_value, .ref m_memory, .ref m_later, .ref m_worth, .ref m_here, .ref m_keptMemory, .ref m_keptValue, .ref m_keptHere, .int x_keptInstants, .int x_isKept]))]) [0] (by decide) rfl
  have hFc := va_free (wc := [(g0, .inr (12, [.ref m_tape, .int x_size, .int x_thrown, .int x_faultKind, .int x_faultPlace, .int x_pos, .int x_token, .int x_tokenAt, .int x_tokenEnd, .int x_seen, .ref m_nodeAt, .ref m_nodeSize, .ref m_variableFrom, .ref m_inputCount, .ref m_outputCount, .ref m_equationFrom, .ref m_callCount, .ref m_stateCount, .int x_nodes, .int x_variables, .ref m_wordAt, .ref m_wordSize, .ref m_clockOf, .ref m_given, .ref m_truth, .ref m_placeOf, .ref m_leftFrom, .ref m_bodyOf, .ref m_lefts, .ref m_fromOf, .int x_equations, .int x_leftCount, .ref m_sort, .ref m_one, .ref m_kid, .ref m_beside, .ref m_clock, .ref m_state, .ref m_price, .ref m_high, .int x_parsed, .ref m_isTruth, .int x_placeNow, .ref m_full, .ref m_part, .ref m_low, .ref m_definedBy, .ref m_definedAs, .ref m_partsOf, .int x_main, .int x_instances, .int x_all, .int x_states, .int x_memories, .int x_calls, .int x_allParts, .ref m_nodeOf, .ref m_outer, .ref m_callOf, .ref m_base, .ref m_statesFrom, .ref m_callsFrom, .ref m_childOf, .ref m_instanceOf, .ref m_localOf, .ref m_causeFrom, .ref m_causeOf, .int x_causesTotal, .ref m_reached, .ref m_todo, .ref m_order, .ref m_undone, .int x_instants, .ref m_inputs, .ref m_value, .ref m_memory, .ref m_later, .ref m_worth, .ref m_here, .ref m_keptMemory, .ref m_keptValue, .ref m_keptHere, .int x_keptInstants, .int x_isKept]))]) hD hS hA [0] rfl
  refine va_calli (va_runV (As := []) (rest := []) ⟨hx, hb, hml, hown, hG⟩ (c_M_peek0 l D cI cB cJ cZ s.heap.size g0 m_tape m_nodeAt m_nodeSize m_variableFrom m_inputCount m_outputCount m_equationFrom m_callCount m_stateCount m_wordAt m_wordSize m_clockOf m_given m_truth m_placeOf m_leftFrom m_bodyOf m_lefts m_fromOf m_sort m_one m_kid m_beside m_clock m_state m_price m_high m_isTruth m_full m_part m_low m_definedBy m_definedAs m_partsOf m_nodeOf m_outer m_callOf m_base m_statesFrom m_callsFrom m_childOf m_instanceOf m_localOf m_causeFrom m_causeOf m_reached m_todo m_order m_undone m_inputs m_value m_memory m_later m_worth m_here m_keptMemory m_keptValue m_keptHere x_size x_thrown x_faultKind x_faultPlace x_pos x_token x_tokenAt x_tokenEnd x_seen x_nodes x_variables x_equations x_leftCount x_parsed x_placeNow x_main x_instances x_all x_states x_memories x_calls x_allParts x_causesTotal x_instants x_keptInstants x_isKept h1 h2) (gcV 0 gG_good hG ml_M_292 im_M_peek se_M_peek in_M co_M_peek rfl rfl (by decide +kernel) ⟨(Nat.le_of_ble_eq_true rfl), (Nat.le_of_ble_eq_true rfl)⟩) (ct_preV hPc hK hDc (ci := 12) (q0 := 0) rfl rfl) rfl rfl hl.1 rfl (lv_room (Nat.le_of_ble_eq_true rfl)) d_M_is_1 ⟨(Nat.le_of_ble_eq_true rfl), (Nat.le_of_ble_eq_true rfl)⟩) hS (fun q _ h => hFc q h) hFc (fun rr _ t H1 locs ht hvm hw hB hz1 hk1 hS => ?_)
  obtain ⟨hP1, hD1⟩ := hB
  rw [ht] at hP1
  obtain ⟨hP, hD⟩ := va_join (wr := []) (w1 := [(g0, .inr (12, [.ref m_tape, .int x_size, .int x_thrown, .int x_faultKind, .int x_faultPlace, .int x_pos, .int 0, .int x_pos, .int x_pos, .int 1, .ref m_nodeAt, .ref m_nodeSize, .ref m_variableFrom, .ref m_inputCount, .ref m_outputCount, .ref m_equationFrom, .ref m_callCount, .ref m_stateCount, .int x_nodes, .int x_variables, .ref m_wordAt, .ref m_wordSize, .ref m_clockOf, .ref m_given, .ref m_truth, .ref m_placeOf, .ref m_leftFrom, .ref m_bodyOf, .ref m_lefts, .ref m_fromOf, .int x_equations, .int x_leftCount, .ref m_sort, .ref m_one, .ref m_kid, .ref m_beside, .ref m_clock, .ref m_state, .ref m_price, .ref m_high, .int x_parsed, .ref m_isTruth, .int x_placeNow, .ref m_full, .ref m_part, .ref m_low, .ref m_definedBy, .ref m_definedAs, .ref m_partsOf, .int x_main, .int x_instances, .int x_all, .int x_states, .int x_memories, .int x_calls, .int x_allParts, .ref m_nodeOf, .ref m_outer, .ref m_callOf, .ref m_base, .ref m_statesFrom, .ref m_callsFrom, .ref m_childOf, .ref m_instanceOf, .ref m_localOf, .ref m_causeFrom, .ref m_causeOf, .int x_causesTotal, .ref m_reached, .ref m_todo, .ref m_order, .ref m_undone, .int x_instants, .ref m_inputs, .ref m_value, .ref m_memory, .ref m_later, .ref m_worth, .ref m_here, .ref m_keptMemory, .ref m_keptValue, .ref m_keptHere, .int x_keptInstants, .int x_isKept]))]) hP hD [0] [] rfl rfl (by decide) (by decide) hk1 hFc hP1 hD1
  generalize H1 = H at hP hS ⊢
  have hP : va_P D kl [(g0, .inr (12, [.ref m_tape, .int x_size, .int x_thrown, .int x_faultKind, .int x_faultPlace, .int x_pos, .int 0, .int x_pos, .int x_pos, .int 1, .ref m_nodeAt, .ref m_nodeSize, .ref m_variableFrom, .ref m_inputCount, .ref m_outputCount, .ref m_equationFrom, .ref m_callCount, .ref m_stateCount, .int x_nodes, .int x_variables, .ref m_wordAt, .ref m_wordSize, .ref m_clockOf, .ref m_given, .ref m_truth, .ref m_placeOf, .ref m_leftFrom, .ref m_bodyOf, .ref m_lefts, .ref m_fromOf, .int x_equations, .int x_leftCount, .ref m_sort, .ref m_one, .ref m_kid, .ref m_beside, .ref m_clock, .ref m_state, .ref m_price, .ref m_high, .int x_parsed, .ref m_isTruth, .int x_placeNow, .ref m_full, .ref m_part, .ref m_low, .ref m_definedBy, .ref m_definedAs, .ref m_partsOf, .int x_main, .int x_instances, .int x_all, .int x_states, .int x_memories, .int x_calls, .int x_allParts, .ref m_nodeOf, .ref m_outer, .ref m_callOf, .ref m_base, .ref m_statesFrom, .ref m_callsFrom, .ref m_childOf, .ref m_instanceOf, .ref m_localOf, .ref m_causeFrom, .ref m_causeOf, .int x_causesTotal, .ref m_reached, .ref m_todo, .ref m_order, .ref m_undone, .int x_instants, .ref m_inputs, .ref m_value, .ref m_memory, .ref m_later, .ref m_worth, .ref m_here, .ref m_keptMemory, .ref m_keptValue, .ref m_keptHere, .int x_keptInstants, .int x_isKept]))] H := hP
  have hD : va_D A [(g0, .inr (12, [.ref m_tape, .int x_size, .int x_thrown, .int x_faultKind, .int x_faultPlace, .int x_pos, .int 0, .int x_pos, .int x_pos, .int 1, .ref m_nodeAt, .ref m_nodeSize, .ref m_variableFrom, .ref m_inputCount, .ref m_outputCount, .ref m_equationFrom, .ref m_callCount, .ref m_stateCount, .int x_nodes, .int x_variables, .ref m_wordAt, .ref m_wordSize, .ref m_clockOf, .ref m_given, .ref m_truth, .ref m_placeOf, .ref m_leftFrom, .ref m_bodyOf, .ref m_lefts, .ref m_fromOf, .int x_equations, .int x_leftCount, .ref m_sort, .ref m_one, .ref m_kid, .ref m_beside, .ref m_clock, .ref m_state, .ref m_price, .ref m_high, .int x_parsed, .ref m_isTruth, .int x_placeNow, .ref m_full, .ref m_part, .ref m_low, .ref m_definedBy, .ref m_definedAs, .ref m_partsOf, .int x_main, .int x_instances, .int x_all, .int x_states, .int x_memories, .int x_calls, .int x_allParts, .ref m_nodeOf, .ref m_outer, .ref m_callOf, .ref m_base, .ref m_statesFrom, .ref m_callsFrom, .ref m_childOf, .ref m_instanceOf, .ref m_localOf, .ref m_causeFrom, .ref m_causeOf, .int x_causesTotal, .ref m_reached, .ref m_todo, .ref m_order, .ref m_undone, .int x_instants, .ref m_inputs, .ref m_value, .ref m_memory, .ref m_later, .ref m_worth, .ref m_here, .ref m_keptMemory, .ref m_keptValue, .ref m_keptHere, .int x_keptInstants, .int x_isKept]))] := hD
  rw [hw]
  refine lv_iconst (v := 1) hx hb d_M_is_4 (by decide) ?_
  refine lv_icmp_ne (tgt := 24) hx hb d_M_is_5 (by decide) (fun _ => ?_) (fun zz2 => absurd zz2 (by decide))
  refine lv_iconst (v := 0) hx hb d_M_is_24 (by decide) ?_
  exact W.zret (v := 0) hx hb hr (by first | rfl | decide) (fun t ht hW => ⟨⟨0, (), rfl, rfl, by rw [ht]; exact hP, hD⟩, hS.F ht⟩) hS.2.2 d_M_is_25

set_option maxHeartbeats 4000000 in
set_option maxRecDepth 100000 in
theorem c_M_is1 (l : Launch) (D : va_G) (cI cB cJ cZ : ClassId) (sz : Nat) (g0 : Nat) (m_tape m_nodeAt m_nodeSize m_variableFrom m_inputCount m_outputCount m_equationFrom m_callCount m_stateCount m_wordAt m_wordSize m_clockOf m_given m_truth m_placeOf m_leftFrom m_bodyOf m_lefts m_fromOf m_sort m_one m_kid m_beside m_clock m_state m_price m_high m_isTruth m_full m_part m_low m_definedBy m_definedAs m_partsOf m_nodeOf m_outer m_callOf m_base m_statesFrom m_callsFrom m_childOf m_instanceOf m_localOf m_causeFrom m_causeOf m_reached m_todo m_order m_undone m_inputs m_value m_memory m_later m_worth m_here m_keptMemory m_keptValue m_keptHere : Nat) (x_size x_thrown x_faultKind x_faultPlace x_pos x_token x_tokenAt x_tokenEnd x_seen x_nodes x_variables x_equations x_leftCount x_parsed x_placeNow x_main x_instances x_all x_states x_memories x_calls x_allParts x_causesTotal x_instants x_keptInstants x_isKept : Int32) (sa : Nat) (h1 : ¬ x_seen = 0) (h2 : ¬ x_token = 1) : Met l y_M_is (Cond.code y_M_is b_M_is 3 (some .boolean) :: gG) { frames := 2, cells := 0, slots := 0, locals := 50 } (va_Pc [.ref g0, .ref sa] (ct_P D (tyL cI cB cJ cZ) [(g0, .inr (12, [.ref m_tape, .int x_size, .int x_thrown, .int x_faultKind, .int x_faultPlace, .int x_pos, .int x_token, .int x_tokenAt, .int x_tokenEnd, .int x_seen, .ref m_nodeAt, .ref m_nodeSize, .ref m_variableFrom, .ref m_inputCount, .ref m_outputCount, .ref m_equationFrom, .ref m_callCount, .ref m_stateCount, .int x_nodes, .int x_variables, .ref m_wordAt, .ref m_wordSize, .ref m_clockOf, .ref m_given, .ref m_truth, .ref m_placeOf, .ref m_leftFrom, .ref m_bodyOf, .ref m_lefts, .ref m_fromOf, .int x_equations, .int x_leftCount, .ref m_sort, .ref m_one, .ref m_kid, .ref m_beside, .ref m_clock, .ref m_state, .ref m_price, .ref m_high, .int x_parsed, .ref m_isTruth, .int x_placeNow, .ref m_full, .ref m_part, .ref m_low, .ref m_definedBy, .ref m_definedAs, .ref m_partsOf, .int x_main, .int x_instances, .int x_all, .int x_states, .int x_memories, .int x_calls, .int x_allParts, .ref m_nodeOf, .ref m_outer, .ref m_callOf, .ref m_base, .ref m_statesFrom, .ref m_callsFrom, .ref m_childOf, .ref m_instanceOf, .ref m_localOf, .ref m_causeFrom, .ref m_causeOf, .int x_causesTotal, .ref m_reached, .ref m_todo, .ref m_order, .ref m_undone, .int x_instants, .ref m_inputs, .ref m_value, .ref m_memory, .ref m_later, .ref m_worth, .ref m_here, .ref m_keptMemory, .ref m_keptValue, .ref m_keptHere, .int x_keptInstants, .int x_isKept]))] sz)) (QcRead 0) 0 0 (fun _ => False) := by
  refine Met.ofW (cc := b_M_is) (maxL := 3) (ret := (some .boolean)) (by decide) rfl ?_
  intro p e s m args below meth c s₁ B hml hv
  obtain ⟨rfl, hsz, hP, hK, hD0⟩ := hv
  have hx := B.exec
  have hb := B.bytes
  have hr := B.returns
  have hts := atoms_spec (ws := Cond.code y_M_is b_M_is 3 (some .boolean) :: gG) B.pre
  have hG : ∀ w9 ∈ gG, w9.before [.ref g0, .ref sa].toArray s = true := fun w9 h => hts w9 (List.mem_cons_of_mem _ h)
  have hown : s.vm.findClass R_M = some m.cls := findClass_of_methodNamed B.named
  have hlocks := B.notSynchronized
  subst hsz
  have hD := hD0.self (sz := s.heap.size)
  generalize hAe : va_A [(g0, .inr (12, [.ref m_tape, .int x_size, .int x_thrown, .int x_faultKind, .int x_faultPlace, .int x_pos, .int x_token, .int x_tokenAt, .int x_tokenEnd, .int x_seen, .ref m_nodeAt, .ref m_nodeSize, .ref m_variableFrom, .ref m_inputCount, .ref m_outputCount, .ref m_equationFrom, .ref m_callCount, .ref m_stateCount, .int x_nodes, .int x_variables, .ref m_wordAt, .ref m_wordSize, .ref m_clockOf, .ref m_given, .ref m_truth, .ref m_placeOf, .ref m_leftFrom, .ref m_bodyOf, .ref m_lefts, .ref m_fromOf, .int x_equations, .int x_leftCount, .ref m_sort, .ref m_one, .ref m_kid, .ref m_beside, .ref m_clock, .ref m_state, .ref m_price, .ref m_high, .int x_parsed, .ref m_isTruth, .int x_placeNow, .ref m_full, .ref m_part, .ref m_low, .ref m_definedBy, .ref m_definedAs, .ref m_partsOf, .int x_main, .int x_instances, .int x_all, .int x_states, .int x_memories, .int x_calls, .int x_allParts, .ref m_nodeOf, .ref m_outer, .ref m_callOf, .ref m_base, .ref m_statesFrom, .ref m_callsFrom, .ref m_childOf, .ref m_instanceOf, .ref m_localOf, .ref m_causeFrom, .ref m_causeOf, .int x_causesTotal, .ref m_reached, .ref m_todo, .ref m_order, .ref m_undone, .int x_instants, .ref m_inputs, .ref m_value, .ref m_memory, .ref m_later, .ref m_worth, .ref m_here, .ref m_keptMemory, .ref m_keptValue, .ref m_keptHere, .int x_keptInstants, .int x_isKept]))] s.heap.size = A at hD
  have hA : ∀ q : Nat, s.heap.size ≤ q → A q := fun q h => by rw [← hAe]; exact Or.inr h
  have hS : va_S A s.heap s.heap [] := va_S.rf
  have hl := lv_entry ([.ref g0, .ref sa]) (n := 3) (Nat.le_of_ble_eq_true rfl)
  rw [lg_entry_eq]
  generalize (lg_sl ([.ref g0, .ref sa]) ++ List.replicate (3 - (lg_sl ([.ref g0, .ref sa])).length) Slot.unset).toArray = ls at hl ⊢
  have hl : lv_has ls 3 [(0, .ref g0), (1, .ref sa)] := hl
  refine lv_aload_n hx hb d_M_is_0 rfl (lv_at hl 0 rfl) ?_
  have hPc := hP.sub (ws' := [(g0, .inr (12, [.ref m_tape, .int x_size, .int x_thrown, .int x_faultKind, .int x_faultPlace, .int x_pos, .int x_token, .int x_tokenAt, .int x_tokenEnd, .int x_seen, .ref m_nodeAt, .ref m_nodeSize, .ref m_variableFrom, .ref m_inputCount, .ref m_outputCount, .ref m_equationFrom, .ref m_callCount, .ref m_stateCount, .int x_nodes, .int x_variables, .ref m_wordAt, .ref m_wordSize, .ref m_clockOf, .ref m_given, .ref m_truth, .ref m_placeOf, .ref m_leftFrom, .ref m_bodyOf, .ref m_lefts, .ref m_fromOf, .int x_equations, .int x_leftCount, .ref m_sort, .ref m_one, .ref m_kid, .ref m_beside, .ref m_clock, .ref m_state, .ref m_price, .ref m_high, .int x_parsed, .ref m_isTruth, .int x_placeNow, .ref m_full, .ref m_part, .ref m_low, .ref m_definedBy, .ref m_definedAs, .ref m_partsOf, .int x_main, .int x_instances, .int x_all, .int x_states, .int x_memories, .int x_calls, .int x_allParts, .ref m_nodeOf, .ref m_outer, .ref m_callOf, .ref m_base, .ref m_statesFrom, .ref m_callsFrom, .ref m_childOf, .ref m_instanceOf, .ref m_localOf, .ref m_causeFrom, .ref m_causeOf, .int x_causesTotal, .ref m_reached, .ref m_todo, .ref m_order, .ref m_undone, .int x_instants, .ref m_inputs, .ref m_value, .ref m_memory, .ref m_later, .ref m_worth, .ref m_here, .ref m_keptMemory, .ref m_keptValue, .ref m_keptHere, .int x_keptInstants, .int x_isKept]))]) [0] rfl
  have hDc := hD.sub (ws' := [(g0, .inr (12, [.ref m_tape, .int x_size, .int x_thrown, .int x_faultKind, .int x_faultPlace, .int x_pos, .int x_token, .int x_tokenAt, .int x_tokenEnd, .int x_seen, .ref m_nodeAt, .ref m_nodeSize, .ref m_variableFrom, .ref m_inputCount, .ref m_outputCount, .ref m_equationFrom, .ref m_callCount, .ref m_stateCount, .int x_nodes, .int x_variables, .ref m_wordAt, .ref m_wordSize, .ref m_clockOf, .ref m_given, .ref m_truth, .ref m_placeOf, .ref m_leftFrom, .ref m_bodyOf, .ref m_lefts, .ref m_fromOf, .int x_equations, .int x_leftCount, .ref m_sort, .ref m_one, .ref m_kid, .ref m_beside, .ref m_clock, .ref m_state, .ref m_price, .ref m_high, .int x_parsed, .ref m_isTruth, .int x_placeNow, .ref m_full, .ref m_part, .ref m_low, .ref m_definedBy, .ref m_definedAs, .ref m_partsOf, .int x_main, .int x_instances, .int x_all, .int x_states, .int x_memories, .int x_calls, .int x_allParts, .ref m_nodeOf, .ref m_outer, .ref m_callOf, .ref m_base, .ref m_statesFrom, .ref m_callsFrom, .ref m_childOf, .ref m_instanceOf, .ref m_localOf, .ref m_causeFrom, .ref m_causeOf, .int x_causesTotal, .ref m_reached, .ref m_todo, .ref m_order, .ref m_undone, .int x_instants, .ref m_inputs, .ref m_value, .ref m_memory, .ref m_later, .ref m_worth, .ref m_here, .ref m_keptMemory, .ref m_keptValue, .ref m_keptHere, .int x_keptInstants, .int x_isKept]))]) [0] (by decide) rfl
  refine W.callR (W.runV (As := []) (rest := []) (C := R_M) ⟨hx, hb, hml, hown, hG⟩ (c_M_peek1 l D cI cB cJ cZ s.heap.size g0 m_tape m_nodeAt m_nodeSize m_variableFrom m_inputCount m_outputCount m_equationFrom m_callCount m_stateCount m_wordAt m_wordSize m_clockOf m_given m_truth m_placeOf m_leftFrom m_bodyOf m_lefts m_fromOf m_sort m_one m_kid m_beside m_clock m_state m_price m_high m_isTruth m_full m_part m_low m_definedBy m_definedAs m_partsOf m_nodeOf m_outer m_callOf m_base m_statesFrom m_callsFrom m_childOf m_instanceOf m_localOf m_causeFrom m_causeOf m_reached m_todo m_order m_undone m_inputs m_value m_memory m_later m_worth m_here m_keptMemory m_keptValue m_keptHere x_size x_thrown x_faultKind x_faultPlace x_pos x_token x_tokenAt x_tokenEnd x_seen x_nodes x_variables x_equations x_leftCount x_parsed x_placeNow x_main x_instances x_all x_states x_memories x_calls x_allParts x_causesTotal x_instants x_keptInstants x_isKept h1) (gcV 0 gG_good hG ml_M_292 im_M_peek se_M_peek in_M co_M_peek rfl rfl (by decide +kernel) ⟨(Nat.le_of_ble_eq_true rfl), (Nat.le_of_ble_eq_true rfl)⟩) (ct_preV hPc hK hDc (ci := 12) (q0 := 0) rfl rfl) rfl rfl hl.1 rfl (lv_room (Nat.le_of_ble_eq_true rfl)) d_M_is_1 ⟨(Nat.le_of_ble_eq_true rfl), (Nat.le_of_ble_eq_true rfl)⟩) ?_
  refine W.eq (g2 := F0 m 4 ls [.int x_token]) rfl ?_
  refine lv_iconst (v := 1) hx hb d_M_is_4 (by decide) ?_
  refine lv_icmp_ne (tgt := 24) hx hb d_M_is_5 (by decide) (fun _ => ?_) (fun zz1 => absurd zz1 h2)
  refine lv_iconst (v := 0) hx hb d_M_is_24 (by decide) ?_
  exact W.zret (v := 0) hx hb hr (by first | rfl | decide) (fun t ht hW => ⟨rfl, ht⟩) (fun q h => by cases h) d_M_is_25

set_option maxHeartbeats 4000000 in
set_option maxRecDepth 100000 in
theorem c_M_cant1 (l : Launch) (D : va_G) (cI cB cJ cZ : ClassId) (sz : Nat) (g0 : Nat) (m_tape m_nodeAt m_nodeSize m_variableFrom m_inputCount m_outputCount m_equationFrom m_callCount m_stateCount m_wordAt m_wordSize m_clockOf m_given m_truth m_placeOf m_leftFrom m_bodyOf m_lefts m_fromOf m_sort m_one m_kid m_beside m_clock m_state m_price m_high m_isTruth m_full m_part m_low m_definedBy m_definedAs m_partsOf m_nodeOf m_outer m_callOf m_base m_statesFrom m_callsFrom m_childOf m_instanceOf m_localOf m_causeFrom m_causeOf m_reached m_todo m_order m_undone m_inputs m_value m_memory m_later m_worth m_here m_keptMemory m_keptValue m_keptHere : Nat) (x_size x_thrown x_faultKind x_faultPlace x_pos x_token x_tokenAt x_tokenEnd x_seen x_nodes x_variables x_equations x_leftCount x_parsed x_placeNow x_main x_instances x_all x_states x_memories x_calls x_allParts x_causesTotal x_instants x_keptInstants x_isKept : Int32) (h1 : ¬ x_seen = 0) : Met l y_M_cant (Cond.code y_M_cant b_M_cant 1 (some (.object "StreamNodesModel$Wrong")) :: gG) { frames := 5, cells := 1, slots := 8, locals := 140 } (va_Pc [.ref g0] (fun U => ct_P D (tyL cI cB cJ cZ) [(g0, .inr (12, [.ref m_tape, .int x_size, .int x_thrown, .int x_faultKind, .int x_faultPlace, .int x_pos, .int x_token, .int x_tokenAt, .int x_tokenEnd, .int x_seen, .ref m_nodeAt, .ref m_nodeSize, .ref m_variableFrom, .ref m_inputCount, .ref m_outputCount, .ref m_equationFrom, .ref m_callCount, .ref m_stateCount, .int x_nodes, .int x_variables, .ref m_wordAt, .ref m_wordSize, .ref m_clockOf, .ref m_given, .ref m_truth, .ref m_placeOf, .ref m_leftFrom, .ref m_bodyOf, .ref m_lefts, .ref m_fromOf, .int x_equations, .int x_leftCount, .ref m_sort, .ref m_one, .ref m_kid, .ref m_beside, .ref m_clock, .ref m_state, .ref m_price, .ref m_high, .int x_parsed, .ref m_isTruth, .int x_placeNow, .ref m_full, .ref m_part, .ref m_low, .ref m_definedBy, .ref m_definedAs, .ref m_partsOf, .int x_main, .int x_instances, .int x_all, .int x_states, .int x_memories, .int x_calls, .int x_allParts, .ref m_nodeOf, .ref m_outer, .ref m_callOf, .ref m_base, .ref m_statesFrom, .ref m_callsFrom, .ref m_childOf, .ref m_instanceOf, .ref m_localOf, .ref m_causeFrom, .ref m_causeOf, .int x_causesTotal, .ref m_reached, .ref m_todo, .ref m_order, .ref m_undone, .int x_instants, .ref m_inputs, .ref m_value, .ref m_memory, .ref m_later, .ref m_worth, .ref m_here, .ref m_keptMemory, .ref m_keptValue, .ref m_keptHere, .int x_keptInstants, .int x_isKept]))] sz U ∧ xt_Z (va_A [(g0, .inr (12, [.ref m_tape, .int x_size, .int x_thrown, .int x_faultKind, .int x_faultPlace, .int x_pos, .int x_token, .int x_tokenAt, .int x_tokenEnd, .int x_seen, .ref m_nodeAt, .ref m_nodeSize, .ref m_variableFrom, .ref m_inputCount, .ref m_outputCount, .ref m_equationFrom, .ref m_callCount, .ref m_stateCount, .int x_nodes, .int x_variables, .ref m_wordAt, .ref m_wordSize, .ref m_clockOf, .ref m_given, .ref m_truth, .ref m_placeOf, .ref m_leftFrom, .ref m_bodyOf, .ref m_lefts, .ref m_fromOf, .int x_equations, .int x_leftCount, .ref m_sort, .ref m_one, .ref m_kid, .ref m_beside, .ref m_clock, .ref m_state, .ref m_price, .ref m_high, .int x_parsed, .ref m_isTruth, .int x_placeNow, .ref m_full, .ref m_part, .ref m_low, .ref m_definedBy, .ref m_definedAs, .ref m_partsOf, .int x_main, .int x_instances, .int x_all, .int x_states, .int x_memories, .int x_calls, .int x_allParts, .ref m_nodeOf, .ref m_outer, .ref m_callOf, .ref m_base, .ref m_statesFrom, .ref m_callsFrom, .ref m_childOf, .ref m_instanceOf, .ref m_localOf, .ref m_causeFrom, .ref m_causeOf, .int x_causesTotal, .ref m_reached, .ref m_todo, .ref m_order, .ref m_undone, .int x_instants, .ref m_inputs, .ref m_value, .ref m_memory, .ref m_later, .ref m_worth, .ref m_here, .ref m_keptMemory, .ref m_keptValue, .ref m_keptHere, .int x_keptInstants, .int x_isKept]))] sz) U U.heap)) (va_Qr (fun _ : Unit => True) (fun _ q t => sz ≤ q ∧ va_P D kl [(g0, .inr (12, [.ref m_tape, .int x_size, .int x_thrown, .int x_faultKind, .int x_faultPlace, .int x_pos, .int x_token, .int x_tokenAt, .int x_tokenEnd, .int x_seen, .ref m_nodeAt, .ref m_nodeSize, .ref m_variableFrom, .ref m_inputCount, .ref m_outputCount, .ref m_equationFrom, .ref m_callCount, .ref m_stateCount, .int x_nodes, .int x_variables, .ref m_wordAt, .ref m_wordSize, .ref m_clockOf, .ref m_given, .ref m_truth, .ref m_placeOf, .ref m_leftFrom, .ref m_bodyOf, .ref m_lefts, .ref m_fromOf, .int x_equations, .int x_leftCount, .ref m_sort, .ref m_one, .ref m_kid, .ref m_beside, .ref m_clock, .ref m_state, .ref m_price, .ref m_high, .int x_parsed, .ref m_isTruth, .int x_placeNow, .ref m_full, .ref m_part, .ref m_low, .ref m_definedBy, .ref m_definedAs, .ref m_partsOf, .int x_main, .int x_instances, .int x_all, .int x_states, .int x_memories, .int x_calls, .int x_allParts, .ref m_nodeOf, .ref m_outer, .ref m_callOf, .ref m_base, .ref m_statesFrom, .ref m_callsFrom, .ref m_childOf, .ref m_instanceOf, .ref m_localOf, .ref m_causeFrom, .ref m_causeOf, .int x_causesTotal, .ref m_reached, .ref m_todo, .ref m_order, .ref m_undone, .int x_instants, .ref m_inputs, .ref m_value, .ref m_memory, .ref m_later, .ref m_worth, .ref m_here, .ref m_keptMemory, .ref m_keptValue, .ref m_keptHere, .int x_keptInstants, .int x_isKept])), (q, .inr (13, [.null, .null, .null, .null, .null, .int 1, .int x_tokenAt, .int 0]))] t.heap ∧ va_D (va_A [(g0, .inr (12, [.ref m_tape, .int x_size, .int x_thrown, .int x_faultKind, .int x_faultPlace, .int x_pos, .int x_token, .int x_tokenAt, .int x_tokenEnd, .int x_seen, .ref m_nodeAt, .ref m_nodeSize, .ref m_variableFrom, .ref m_inputCount, .ref m_outputCount, .ref m_equationFrom, .ref m_callCount, .ref m_stateCount, .int x_nodes, .int x_variables, .ref m_wordAt, .ref m_wordSize, .ref m_clockOf, .ref m_given, .ref m_truth, .ref m_placeOf, .ref m_leftFrom, .ref m_bodyOf, .ref m_lefts, .ref m_fromOf, .int x_equations, .int x_leftCount, .ref m_sort, .ref m_one, .ref m_kid, .ref m_beside, .ref m_clock, .ref m_state, .ref m_price, .ref m_high, .int x_parsed, .ref m_isTruth, .int x_placeNow, .ref m_full, .ref m_part, .ref m_low, .ref m_definedBy, .ref m_definedAs, .ref m_partsOf, .int x_main, .int x_instances, .int x_all, .int x_states, .int x_memories, .int x_calls, .int x_allParts, .ref m_nodeOf, .ref m_outer, .ref m_callOf, .ref m_base, .ref m_statesFrom, .ref m_callsFrom, .ref m_childOf, .ref m_instanceOf, .ref m_localOf, .ref m_causeFrom, .ref m_causeOf, .int x_causesTotal, .ref m_reached, .ref m_todo, .ref m_order, .ref m_undone, .int x_instants, .ref m_inputs, .ref m_value, .ref m_memory, .ref m_later, .ref m_worth, .ref m_here, .ref m_keptMemory, .ref m_keptValue, .ref m_keptHere, .int x_keptInstants, .int x_isKept]))] sz) [(g0, .inr (12, [.ref m_tape, .int x_size, .int x_thrown, .int x_faultKind, .int x_faultPlace, .int x_pos, .int x_token, .int x_tokenAt, .int x_tokenEnd, .int x_seen, .ref m_nodeAt, .ref m_nodeSize, .ref m_variableFrom, .ref m_inputCount, .ref m_outputCount, .ref m_equationFrom, .ref m_callCount, .ref m_stateCount, .int x_nodes, .int x_variables, .ref m_wordAt, .ref m_wordSize, .ref m_clockOf, .ref m_given, .ref m_truth, .ref m_placeOf, .ref m_leftFrom, .ref m_bodyOf, .ref m_lefts, .ref m_fromOf, .int x_equations, .int x_leftCount, .ref m_sort, .ref m_one, .ref m_kid, .ref m_beside, .ref m_clock, .ref m_state, .ref m_price, .ref m_high, .int x_parsed, .ref m_isTruth, .int x_placeNow, .ref m_full, .ref m_part, .ref m_low, .ref m_definedBy, .ref m_definedAs, .ref m_partsOf, .int x_main, .int x_instances, .int x_all, .int x_states, .int x_memories, .int x_calls, .int x_allParts, .ref m_nodeOf, .ref m_outer, .ref m_callOf, .ref m_base, .ref m_statesFrom, .ref m_callsFrom, .ref m_childOf, .ref m_instanceOf, .ref m_localOf, .ref m_causeFrom, .ref m_causeOf, .int x_causesTotal, .ref m_reached, .ref m_todo, .ref m_order, .ref m_undone, .int x_instants, .ref m_inputs, .ref m_value, .ref m_memory, .ref m_later, .ref m_worth, .ref m_here, .ref m_keptMemory, .ref m_keptValue, .ref m_keptHere, .int x_keptInstants, .int x_isKept])), (q, .inr (13, [.null, .null, .null, .null, .null, .int 1, .int x_tokenAt, .int 0]))]) (va_A [(g0, .inr (12, [.ref m_tape, .int x_size, .int x_thrown, .int x_faultKind, .int x_faultPlace, .int x_pos, .int x_token, .int x_tokenAt, .int x_tokenEnd, .int x_seen, .ref m_nodeAt, .ref m_nodeSize, .ref m_variableFrom, .ref m_inputCount, .ref m_outputCount, .ref m_equationFrom, .ref m_callCount, .ref m_stateCount, .int x_nodes, .int x_variables, .ref m_wordAt, .ref m_wordSize, .ref m_clockOf, .ref m_given, .ref m_truth, .ref m_placeOf, .ref m_leftFrom, .ref m_bodyOf, .ref m_lefts, .ref m_fromOf, .int x_equations, .int x_leftCount, .ref m_sort, .ref m_one, .ref m_kid, .ref m_beside, .ref m_clock, .ref m_state, .ref m_price, .ref m_high, .int x_parsed, .ref m_isTruth, .int x_placeNow, .ref m_full, .ref m_part, .ref m_low, .ref m_definedBy, .ref m_definedAs, .ref m_partsOf, .int x_main, .int x_instances, .int x_all, .int x_states, .int x_memories, .int x_calls, .int x_allParts, .ref m_nodeOf, .ref m_outer, .ref m_callOf, .ref m_base, .ref m_statesFrom, .ref m_callsFrom, .ref m_childOf, .ref m_instanceOf, .ref m_localOf, .ref m_causeFrom, .ref m_causeOf, .int x_causesTotal, .ref m_reached, .ref m_todo, .ref m_order, .ref m_undone, .int x_instants, .ref m_inputs, .ref m_value, .ref m_memory, .ref m_later, .ref m_worth, .ref m_here, .ref m_keptMemory, .ref m_keptValue, .ref m_keptHere, .int x_keptInstants, .int x_isKept]))] sz)) 1 8 (va_A [(g0, .inr (12, [.ref m_tape, .int x_size, .int x_thrown, .int x_faultKind, .int x_faultPlace, .int x_pos, .int x_token, .int x_tokenAt, .int x_tokenEnd, .int x_seen, .ref m_nodeAt, .ref m_nodeSize, .ref m_variableFrom, .ref m_inputCount, .ref m_outputCount, .ref m_equationFrom, .ref m_callCount, .ref m_stateCount, .int x_nodes, .int x_variables, .ref m_wordAt, .ref m_wordSize, .ref m_clockOf, .ref m_given, .ref m_truth, .ref m_placeOf, .ref m_leftFrom, .ref m_bodyOf, .ref m_lefts, .ref m_fromOf, .int x_equations, .int x_leftCount, .ref m_sort, .ref m_one, .ref m_kid, .ref m_beside, .ref m_clock, .ref m_state, .ref m_price, .ref m_high, .int x_parsed, .ref m_isTruth, .int x_placeNow, .ref m_full, .ref m_part, .ref m_low, .ref m_definedBy, .ref m_definedAs, .ref m_partsOf, .int x_main, .int x_instances, .int x_all, .int x_states, .int x_memories, .int x_calls, .int x_allParts, .ref m_nodeOf, .ref m_outer, .ref m_callOf, .ref m_base, .ref m_statesFrom, .ref m_callsFrom, .ref m_childOf, .ref m_instanceOf, .ref m_localOf, .ref m_causeFrom, .ref m_causeOf, .int x_causesTotal, .ref m_reached, .ref m_todo, .ref m_order, .ref m_undone, .int x_instants, .ref m_inputs, .ref m_value, .ref m_memory, .ref m_later, .ref m_worth, .ref m_here, .ref m_keptMemory, .ref m_keptValue, .ref m_keptHere, .int x_keptInstants, .int x_isKept]))] sz) := by
  refine Met.ofW (cc := b_M_cant) (maxL := 1) (ret := (some (.object "StreamNodesModel$Wrong"))) (by decide) rfl ?_
  intro p e s m args below meth c s₁ B hml hv
  obtain ⟨rfl, ⟨hsz, hP, hK, hD0⟩, hZ⟩ := hv
  have hx := B.exec
  have hb := B.bytes
  have hr := B.returns
  have hts := atoms_spec (ws := Cond.code y_M_cant b_M_cant 1 (some (.object "StreamNodesModel$Wrong")) :: gG) B.pre
  have hG : ∀ w9 ∈ gG, w9.before [.ref g0].toArray s = true := fun w9 h => hts w9 (List.mem_cons_of_mem _ h)
  have hown : s.vm.findClass R_M = some m.cls := findClass_of_methodNamed B.named
  have hlocks := B.notSynchronized
  subst hsz
  have hD := hD0.self (sz := s.heap.size)
  generalize hAe : va_A [(g0, .inr (12, [.ref m_tape, .int x_size, .int x_thrown, .int x_faultKind, .int x_faultPlace, .int x_pos, .int x_token, .int x_tokenAt, .int x_tokenEnd, .int x_seen, .ref m_nodeAt, .ref m_nodeSize, .ref m_variableFrom, .ref m_inputCount, .ref m_outputCount, .ref m_equationFrom, .ref m_callCount, .ref m_stateCount, .int x_nodes, .int x_variables, .ref m_wordAt, .ref m_wordSize, .ref m_clockOf, .ref m_given, .ref m_truth, .ref m_placeOf, .ref m_leftFrom, .ref m_bodyOf, .ref m_lefts, .ref m_fromOf, .int x_equations, .int x_leftCount, .ref m_sort, .ref m_one, .ref m_kid, .ref m_beside, .ref m_clock, .ref m_state, .ref m_price, .ref m_high, .int x_parsed, .ref m_isTruth, .int x_placeNow, .ref m_full, .ref m_part, .ref m_low, .ref m_definedBy, .ref m_definedAs, .ref m_partsOf, .int x_main, .int x_instances, .int x_all, .int x_states, .int x_memories, .int x_calls, .int x_allParts, .ref m_nodeOf, .ref m_outer, .ref m_callOf, .ref m_base, .ref m_statesFrom, .ref m_callsFrom, .ref m_childOf, .ref m_instanceOf, .ref m_localOf, .ref m_causeFrom, .ref m_causeOf, .int x_causesTotal, .ref m_reached, .ref m_todo, .ref m_order, .ref m_undone, .int x_instants, .ref m_inputs, .ref m_value, .ref m_memory, .ref m_later, .ref m_worth, .ref m_here, .ref m_keptMemory, .ref m_keptValue, .ref m_keptHere, .int x_keptInstants, .int x_isKept]))] s.heap.size = A at hD hZ ⊢
  have hA : ∀ q : Nat, s.heap.size ≤ q → A q := fun q h => by rw [← hAe]; exact Or.inr h
  have hS : va_S A s.heap s.heap [] := va_S.rf
  have hl := lv_entry ([.ref g0]) (n := 1) (Nat.le_of_ble_eq_true rfl)
  rw [lg_entry_eq]
  generalize (lg_sl ([.ref g0]) ++ List.replicate (1 - (lg_sl ([.ref g0])).length) Slot.unset).toArray = ls at hl ⊢
  have hl : lv_has ls 1 [(0, .ref g0)] := hl
  refine lv_aload_n hx hb d_M_cant_0 rfl (lv_at hl 0 rfl) ?_
  have hPc := hP.sub (ws' := [(g0, .inr (12, [.ref m_tape, .int x_size, .int x_thrown, .int x_faultKind, .int x_faultPlace, .int x_pos, .int x_token, .int x_tokenAt, .int x_tokenEnd, .int x_seen, .ref m_nodeAt, .ref m_nodeSize, .ref m_variableFrom, .ref m_inputCount, .ref m_outputCount, .ref m_equationFrom, .ref m_callCount, .ref m_stateCount, .int x_nodes, .int x_variables, .ref m_wordAt, .ref m_wordSize, .ref m_clockOf, .ref m_given, .ref m_truth, .ref m_placeOf, .ref m_leftFrom, .ref m_bodyOf, .ref m_lefts, .ref m_fromOf, .int x_equations, .int x_leftCount, .ref m_sort, .ref m_one, .ref m_kid, .ref m_beside, .ref m_clock, .ref m_state, .ref m_price, .ref m_high, .int x_parsed, .ref m_isTruth, .int x_placeNow, .ref m_full, .ref m_part, .ref m_low, .ref m_definedBy, .ref m_definedAs, .ref m_partsOf, .int x_main, .int x_instances, .int x_all, .int x_states, .int x_memories, .int x_calls, .int x_allParts, .ref m_nodeOf, .ref m_outer, .ref m_callOf, .ref m_base, .ref m_statesFrom, .ref m_callsFrom, .ref m_childOf, .ref m_instanceOf, .ref m_localOf, .ref m_causeFrom, .ref m_causeOf, .int x_causesTotal, .ref m_reached, .ref m_todo, .ref m_order, .ref m_undone, .int x_instants, .ref m_inputs, .ref m_value, .ref m_memory, .ref m_later, .ref m_worth, .ref m_here, .ref m_keptMemory, .ref m_keptValue, .ref m_keptHere, .int x_keptInstants, .int x_isKept]))]) [0] rfl
  have hDc := hD.sub (ws' := [(g0, .inr (12, [.ref m_tape, .int x_size, .int x_thrown, .int x_faultKind, .int x_faultPlace, .int x_pos, .int x_token, .int x_tokenAt, .int x_tokenEnd, .int x_seen, .ref m_nodeAt, .ref m_nodeSize, .ref m_variableFrom, .ref m_inputCount, .ref m_outputCount, .ref m_equationFrom, .ref m_callCount, .ref m_stateCount, .int x_nodes, .int x_variables, .ref m_wordAt, .ref m_wordSize, .ref m_clockOf, .ref m_given, .ref m_truth, .ref m_placeOf, .ref m_leftFrom, .ref m_bodyOf, .ref m_lefts, .ref m_fromOf, .int x_equations, .int x_leftCount, .ref m_sort, .ref m_one, .ref m_kid, .ref m_beside, .ref m_clock, .ref m_state, .ref m_price, .ref m_high, .int x_parsed, .ref m_isTruth, .int x_placeNow, .ref m_full, .ref m_part, .ref m_low, .ref m_definedBy, .ref m_definedAs, .ref m_partsOf, .int x_main, .int x_instances, .int x_all, .int x_states, .int x_memories, .int x_calls, .int x_allParts, .ref m_nodeOf, .ref m_outer, .ref m_callOf, .ref m_base, .ref m_statesFrom, .ref m_callsFrom, .ref m_childOf, .ref m_instanceOf, .ref m_localOf, .ref m_causeFrom, .ref m_causeOf, .int x_causesTotal, .ref m_reached, .ref m_todo, .ref m_order, .ref m_undone, .int x_instants, .ref m_inputs, .ref m_value, .ref m_memory, .ref m_later, .ref m_worth, .ref m_here, .ref m_keptMemory, .ref m_keptValue, .ref m_keptHere, .int x_keptInstants, .int x_isKept]))]) [0] (by decide) rfl
  refine W.callR (W.runV (As := []) (rest := []) (C := R_M) ⟨hx, hb, hml, hown, hG⟩ (c_M_peek1 l D cI cB cJ cZ s.heap.size g0 m_tape m_nodeAt m_nodeSize m_variableFrom m_inputCount m_outputCount m_equationFrom m_callCount m_stateCount m_wordAt m_wordSize m_clockOf m_given m_truth m_placeOf m_leftFrom m_bodyOf m_lefts m_fromOf m_sort m_one m_kid m_beside m_clock m_state m_price m_high m_isTruth m_full m_part m_low m_definedBy m_definedAs m_partsOf m_nodeOf m_outer m_callOf m_base m_statesFrom m_callsFrom m_childOf m_instanceOf m_localOf m_causeFrom m_causeOf m_reached m_todo m_order m_undone m_inputs m_value m_memory m_later m_worth m_here m_keptMemory m_keptValue m_keptHere x_size x_thrown x_faultKind x_faultPlace x_pos x_token x_tokenAt x_tokenEnd x_seen x_nodes x_variables x_equations x_leftCount x_parsed x_placeNow x_main x_instances x_all x_states x_memories x_calls x_allParts x_causesTotal x_instants x_keptInstants x_isKept h1) (gcV 0 gG_good hG ml_M_292 im_M_peek se_M_peek in_M co_M_peek rfl rfl (by decide +kernel) ⟨(Nat.le_of_ble_eq_true rfl), (Nat.le_of_ble_eq_true rfl)⟩) (ct_preV hPc hK hDc (ci := 12) (q0 := 0) rfl rfl) rfl rfl hl.1 rfl (lv_room (Nat.le_of_ble_eq_true rfl)) d_M_cant_1 ⟨(Nat.le_of_ble_eq_true rfl), (Nat.le_of_ble_eq_true rfl)⟩) ?_
  refine W.eq (g2 := F0 m 4 ls [.int x_token]) rfl ?_
  refine lv_pop hx hb d_M_cant_4 rfl ?_
  refine va_new (ci := 13) (fs := [.null, .null, .null, .null, .null, .int 0, .int 0, .int 0]) (C := R_Wr) (T := T_Wr) (N := 8) hx hb hG gi_Wr ty_Wr to_Wr hown (hG _ cl_M_296) (hG _ ia_Wr) (hG _ in_Wr) hK hP hD hS hA rfl (fun j hj => by rcases (show j = 0 ∨ j = 1 ∨ j = 2 ∨ j = 3 ∨ j = 4 ∨ j = 5 ∨ j = 6 ∨ j = 7 by omega) with rfl | rfl | rfl | rfl | rfl | rfl | rfl | rfl <;> rfl) (Nat.le_of_ble_eq_true rfl) (Nat.le_of_ble_eq_true rfl) d_M_cant_5 (fun q1 H hP hD hS => ?_)
  have hP : va_P D kl [(g0, .inr (12, [.ref m_tape, .int x_size, .int x_thrown, .int x_faultKind, .int x_faultPlace, .int x_pos, .int x_token, .int x_tokenAt, .int x_tokenEnd, .int x_seen, .ref m_nodeAt, .ref m_nodeSize, .ref m_variableFrom, .ref m_inputCount, .ref m_outputCount, .ref m_equationFrom, .ref m_callCount, .ref m_stateCount, .int x_nodes, .int x_variables, .ref m_wordAt, .ref m_wordSize, .ref m_clockOf, .ref m_given, .ref m_truth, .ref m_placeOf, .ref m_leftFrom, .ref m_bodyOf, .ref m_lefts, .ref m_fromOf, .int x_equations, .int x_leftCount, .ref m_sort, .ref m_one, .ref m_kid, .ref m_beside, .ref m_clock, .ref m_state, .ref m_price, .ref m_high, .int x_parsed, .ref m_isTruth, .int x_placeNow, .ref m_full, .ref m_part, .ref m_low, .ref m_definedBy, .ref m_definedAs, .ref m_partsOf, .int x_main, .int x_instances, .int x_all, .int x_states, .int x_memories, .int x_calls, .int x_allParts, .ref m_nodeOf, .ref m_outer, .ref m_callOf, .ref m_base, .ref m_statesFrom, .ref m_callsFrom, .ref m_childOf, .ref m_instanceOf, .ref m_localOf, .ref m_causeFrom, .ref m_causeOf, .int x_causesTotal, .ref m_reached, .ref m_todo, .ref m_order, .ref m_undone, .int x_instants, .ref m_inputs, .ref m_value, .ref m_memory, .ref m_later, .ref m_worth, .ref m_here, .ref m_keptMemory, .ref m_keptValue, .ref m_keptHere, .int x_keptInstants, .int x_isKept])), (q1, .inr (13, [.null, .null, .null, .null, .null, .int 0, .int 0, .int 0]))] H := hP
  have hD : va_D A [(g0, .inr (12, [.ref m_tape, .int x_size, .int x_thrown, .int x_faultKind, .int x_faultPlace, .int x_pos, .int x_token, .int x_tokenAt, .int x_tokenEnd, .int x_seen, .ref m_nodeAt, .ref m_nodeSize, .ref m_variableFrom, .ref m_inputCount, .ref m_outputCount, .ref m_equationFrom, .ref m_callCount, .ref m_stateCount, .int x_nodes, .int x_variables, .ref m_wordAt, .ref m_wordSize, .ref m_clockOf, .ref m_given, .ref m_truth, .ref m_placeOf, .ref m_leftFrom, .ref m_bodyOf, .ref m_lefts, .ref m_fromOf, .int x_equations, .int x_leftCount, .ref m_sort, .ref m_one, .ref m_kid, .ref m_beside, .ref m_clock, .ref m_state, .ref m_price, .ref m_high, .int x_parsed, .ref m_isTruth, .int x_placeNow, .ref m_full, .ref m_part, .ref m_low, .ref m_definedBy, .ref m_definedAs, .ref m_partsOf, .int x_main, .int x_instances, .int x_all, .int x_states, .int x_memories, .int x_calls, .int x_allParts, .ref m_nodeOf, .ref m_outer, .ref m_callOf, .ref m_base, .ref m_statesFrom, .ref m_callsFrom, .ref m_childOf, .ref m_instanceOf, .ref m_localOf, .ref m_causeFrom, .ref m_causeOf, .int x_causesTotal, .ref m_reached, .ref m_todo, .ref m_order, .ref m_undone, .int x_instants, .ref m_inputs, .ref m_value, .ref m_memory, .ref m_later, .ref m_worth, .ref m_here, .ref m_keptMemory, .ref m_keptValue, .ref m_keptHere, .int x_keptInstants, .int x_isKept])), (q1, .inr (13, [.null, .null, .null, .null, .null, .int 0, .int 0, .int 0]))] := hD
  refine W.widen (k := 1) (n := 8) (Nat.le_of_ble_eq_true rfl) (Nat.le_of_ble_eq_true rfl) ?_
  have hqz : s.heap.size ≤ q1 := va_new1 hAe hD
  refine lv_dup hx hb d_M_cant_8 rfl ?_
  refine lv_iconst (v := 1) hx hb d_M_cant_9 (by decide) ?_
  refine lv_aload_n hx hb d_M_cant_10 rfl (lv_at hl 0 rfl) ?_
  refine va_get (D := D) (ci := 12) (v := .int x_tokenAt) (C := R_M) (T := T_M) (N := 84) hx hb hG gi_M hown hK hP 0 rfl rfl 7 (by decide) (hG _ fl_M_33) (fun _ h9 => h9) rfl d_M_cant_11 ?_
  have hPc := hP.sub (ws' := [(q1, .inr (13, [.null, .null, .null, .null, .null, .int 0, .int 0, .int 0]))]) [1] rfl
  have hDc := hD.sub (ws' := [(q1, .inr (13, [.null, .null, .null, .null, .null, .int 0, .int 0, .int 0]))]) [1] (by decide) rfl
  have hFc := va_free (wc := [(q1, .inr (13, [.null, .null, .null, .null, .null, .int 0, .int 0, .int 0]))]) hD hS hA [1] rfl
  refine va_callv (va_runI (As := [.int 1, .int x_tokenAt]) (rest := [.ref q1]) ⟨hx, hb, hml, hown, hG⟩ (c_Wr_init l D cI cB cJ cZ H.size q1 1 x_tokenAt) (gcI 2 gG_good hG ml_M_298 im_Wr_init in_Wr co_Wr_init rfl rfl rfl (by decide +kernel) ⟨(Nat.le_of_ble_eq_true rfl), (Nat.le_of_ble_eq_true rfl)⟩) (cz_pre hPc hK hDc hZ hS hFc) rfl rfl hl.1 rfl (lv_room (Nat.le_of_ble_eq_true rfl)) d_M_cant_14 ⟨(Nat.le_of_ble_eq_true rfl), (Nat.le_of_ble_eq_true rfl)⟩) hS (fun q _ h => hFc q h) hFc (fun _ t H1 locs ht hvm hw hB hz1 hk1 hS => ?_)
  obtain ⟨hP1, hD1⟩ := hB
  rw [ht] at hP1
  obtain ⟨hP, hD⟩ := va_join (wr := [(g0, .inr (12, [.ref m_tape, .int x_size, .int x_thrown, .int x_faultKind, .int x_faultPlace, .int x_pos, .int x_token, .int x_tokenAt, .int x_tokenEnd, .int x_seen, .ref m_nodeAt, .ref m_nodeSize, .ref m_variableFrom, .ref m_inputCount, .ref m_outputCount, .ref m_equationFrom, .ref m_callCount, .ref m_stateCount, .int x_nodes, .int x_variables, .ref m_wordAt, .ref m_wordSize, .ref m_clockOf, .ref m_given, .ref m_truth, .ref m_placeOf, .ref m_leftFrom, .ref m_bodyOf, .ref m_lefts, .ref m_fromOf, .int x_equations, .int x_leftCount, .ref m_sort, .ref m_one, .ref m_kid, .ref m_beside, .ref m_clock, .ref m_state, .ref m_price, .ref m_high, .int x_parsed, .ref m_isTruth, .int x_placeNow, .ref m_full, .ref m_part, .ref m_low, .ref m_definedBy, .ref m_definedAs, .ref m_partsOf, .int x_main, .int x_instances, .int x_all, .int x_states, .int x_memories, .int x_calls, .int x_allParts, .ref m_nodeOf, .ref m_outer, .ref m_callOf, .ref m_base, .ref m_statesFrom, .ref m_callsFrom, .ref m_childOf, .ref m_instanceOf, .ref m_localOf, .ref m_causeFrom, .ref m_causeOf, .int x_causesTotal, .ref m_reached, .ref m_todo, .ref m_order, .ref m_undone, .int x_instants, .ref m_inputs, .ref m_value, .ref m_memory, .ref m_later, .ref m_worth, .ref m_here, .ref m_keptMemory, .ref m_keptValue, .ref m_keptHere, .int x_keptInstants, .int x_isKept]))]) (w1 := [(q1, .inr (13, [.null, .null, .null, .null, .null, .int 1, .int x_tokenAt, .int 0]))]) hP hD [1] [0] rfl rfl (by decide) (by decide) hk1 hFc hP1 hD1
  generalize H1 = H at hP hS ⊢
  have hP : va_P D kl [(g0, .inr (12, [.ref m_tape, .int x_size, .int x_thrown, .int x_faultKind, .int x_faultPlace, .int x_pos, .int x_token, .int x_tokenAt, .int x_tokenEnd, .int x_seen, .ref m_nodeAt, .ref m_nodeSize, .ref m_variableFrom, .ref m_inputCount, .ref m_outputCount, .ref m_equationFrom, .ref m_callCount, .ref m_stateCount, .int x_nodes, .int x_variables, .ref m_wordAt, .ref m_wordSize, .ref m_clockOf, .ref m_given, .ref m_truth, .ref m_placeOf, .ref m_leftFrom, .ref m_bodyOf, .ref m_lefts, .ref m_fromOf, .int x_equations, .int x_leftCount, .ref m_sort, .ref m_one, .ref m_kid, .ref m_beside, .ref m_clock, .ref m_state, .ref m_price, .ref m_high, .int x_parsed, .ref m_isTruth, .int x_placeNow, .ref m_full, .ref m_part, .ref m_low, .ref m_definedBy, .ref m_definedAs, .ref m_partsOf, .int x_main, .int x_instances, .int x_all, .int x_states, .int x_memories, .int x_calls, .int x_allParts, .ref m_nodeOf, .ref m_outer, .ref m_callOf, .ref m_base, .ref m_statesFrom, .ref m_callsFrom, .ref m_childOf, .ref m_instanceOf, .ref m_localOf, .ref m_causeFrom, .ref m_causeOf, .int x_causesTotal, .ref m_reached, .ref m_todo, .ref m_order, .ref m_undone, .int x_instants, .ref m_inputs, .ref m_value, .ref m_memory, .ref m_later, .ref m_worth, .ref m_here, .ref m_keptMemory, .ref m_keptValue, .ref m_keptHere, .int x_keptInstants, .int x_isKept])), (q1, .inr (13, [.null, .null, .null, .null, .null, .int 1, .int x_tokenAt, .int 0]))] H := hP
  have hD : va_D A [(g0, .inr (12, [.ref m_tape, .int x_size, .int x_thrown, .int x_faultKind, .int x_faultPlace, .int x_pos, .int x_token, .int x_tokenAt, .int x_tokenEnd, .int x_seen, .ref m_nodeAt, .ref m_nodeSize, .ref m_variableFrom, .ref m_inputCount, .ref m_outputCount, .ref m_equationFrom, .ref m_callCount, .ref m_stateCount, .int x_nodes, .int x_variables, .ref m_wordAt, .ref m_wordSize, .ref m_clockOf, .ref m_given, .ref m_truth, .ref m_placeOf, .ref m_leftFrom, .ref m_bodyOf, .ref m_lefts, .ref m_fromOf, .int x_equations, .int x_leftCount, .ref m_sort, .ref m_one, .ref m_kid, .ref m_beside, .ref m_clock, .ref m_state, .ref m_price, .ref m_high, .int x_parsed, .ref m_isTruth, .int x_placeNow, .ref m_full, .ref m_part, .ref m_low, .ref m_definedBy, .ref m_definedAs, .ref m_partsOf, .int x_main, .int x_instances, .int x_all, .int x_states, .int x_memories, .int x_calls, .int x_allParts, .ref m_nodeOf, .ref m_outer, .ref m_callOf, .ref m_base, .ref m_statesFrom, .ref m_callsFrom, .ref m_childOf, .ref m_instanceOf, .ref m_localOf, .ref m_causeFrom, .ref m_causeOf, .int x_causesTotal, .ref m_reached, .ref m_todo, .ref m_order, .ref m_undone, .int x_instants, .ref m_inputs, .ref m_value, .ref m_memory, .ref m_later, .ref m_worth, .ref m_here, .ref m_keptMemory, .ref m_keptValue, .ref m_keptHere, .int x_keptInstants, .int x_isKept])), (q1, .inr (13, [.null, .null, .null, .null, .null, .int 1, .int x_tokenAt, .int 0]))] := hD
  exact W.aret (v := .ref q1) hx hb hr (Or.inl ⟨_, rfl⟩) (Or.inr ⟨_, rfl⟩) (fun t ht hW => ⟨⟨(), q1, rfl, trivial, hqz, by rw [ht]; exact hP, hD⟩, hS.F ht⟩) hS.2.2 d_M_cant_17

