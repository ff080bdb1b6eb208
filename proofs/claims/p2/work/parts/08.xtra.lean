/-! rows about throwing that several parts need: Wrong is made, thrown, texts are read -/
theorem xt_none {c : Code} {pc : Nat} (h : c.exceptionTable.isEmpty = true) : ∀ x ∈ c.exceptionTable.toList, covers x pc = false := by
  intro x hx
  have h0 : c.exceptionTable.size = 0 := by simpa [Array.isEmpty] using h
  have h1 : c.exceptionTable.toList = [] := List.eq_nil_of_length_eq_zero (by simpa using h0)
  rw [h1] at hx
  cases hx
theorem cz_blind {av : List Value} {D : va_G} {tys : List (ClassId × FieldType)} {ws : va_W} {sz : Nat} {A : Nat → Prop} : FrameBlind (va_Pc av (fun U => ct_P D tys ws sz U ∧ xt_Z A U U.heap)) := fun a U g mk q => ⟨q.1, (ct_blind (av := av) a U g mk ⟨q.1, q.2.1⟩).2, q.2.2.moved (U := U.calling g mk a) (Vm.Alike.refl U.vm)⟩
theorem cz_pre {s : State} {H : Heap} {av : List Value} {D : va_G} {tys : List (ClassId × FieldType)} {ws : va_W} {A B : Nat → Prop} {locs : List Loc} (hP : va_P D kl ws H) (hK : va_K D kl tys s) (hD : va_D A ws) (hZ : xt_Z B s s.heap) (hS : va_S B s.heap H locs) (hF : ∀ q, va_A ws H.size q → B q) : PreS s H (va_Pc av (fun U => ct_P D tys ws H.size U ∧ xt_Z (va_A ws H.size) U U.heap)) av :=
  ⟨cz_blind, fun U hU hW => ⟨rfl, ((ct_pre (av := av) hP hK hD).2 U hU hW).2, by rw [hU]; exact ((hZ.kept hS.2.1).narrow hF).moved hW.alike⟩⟩
theorem cz_preV {s : State} {H : Heap} {av : List Value} {D : va_G} {tys : List (ClassId × FieldType)} {ws : va_W} {A B : Nat → Prop} {locs : List Loc} {C : String} {T : u_T} {N ci b q0 : Nat} {fs : List Value} (hP : va_P D kl ws H) (hK : va_K D kl tys s) (hD : va_D A ws) (hZ : xt_Z B s s.heap) (hS : va_S B s.heap H locs) (hF : ∀ q, va_A ws H.size q → B q) (hc : kl[ci]? = some (C, T, N)) (he : ws[q0]? = some (b, .inr (ci, fs))) : PreV s H C b (va_Pc (.ref b :: av) (fun U => ct_P D tys ws H.size U ∧ xt_Z (va_A ws H.size) U U.heap)) av :=
  ⟨cz_blind, va_recv hK hP hc he, (cz_pre hP hK hD hZ hS hF).2⟩
/-- .. with a text of the reference's -/
theorem cr_blind {av : List Value} {D : va_G} {tys : List (ClassId × FieldType)} {ws : va_W} {sz : Nat} {A : Nat → Prop} {own tx : String} {k a0 : Nat} : FrameBlind (va_Pc av (fun U => ct_P D tys ws sz U ∧ xt_Z A U U.heap ∧ vk_R own k tx a0 U)) := fun a U g mk q => ⟨q.1, (ct_blind (av := av) a U g mk ⟨q.1, q.2.1⟩).2, q.2.2.1.moved (U := U.calling g mk a) (Vm.Alike.refl U.vm), q.2.2.2.same (u := U) rfl⟩
theorem cr_preV {s : State} {H : Heap} {av : List Value} {D : va_G} {tys : List (ClassId × FieldType)} {ws : va_W} {A B : Nat → Prop} {locs : List Loc} {C : String} {T : u_T} {N ci b q0 : Nat} {fs : List Value} {own tx : String} {k a0 : Nat} (hP : va_P D kl ws H) (hK : va_K D kl tys s) (hD : va_D A ws) (hZ : xt_Z B s s.heap) (hS : va_S B s.heap H locs) (hF : ∀ q, va_A ws H.size q → B q) (hR : vk_R own k tx a0 s) (hc : kl[ci]? = some (C, T, N)) (he : ws[q0]? = some (b, .inr (ci, fs))) : PreV s H C b (va_Pc (.ref b :: av) (fun U => ct_P D tys ws H.size U ∧ xt_Z (va_A ws H.size) U U.heap ∧ vk_R own k tx a0 U)) av :=
  ⟨cr_blind, va_recv hK hP hc he, fun U hU hW => ⟨rfl, ((ct_pre (av := .ref b :: av) hP hK hD).2 U hU hW).2, by rw [hU]; exact ((hZ.kept hS.2.1).narrow hF).moved hW.alike, hR.warm hW⟩⟩
/-- athrow of an object that this method, or one that it called, has made -/
theorem xt_athrow {p : Program} {l : Launch} {e : Env} {R : Room} {s : State} {m : MethodId} {args : Array Value} {below : List Frame} {meth : Method} {c : Code} {H : Heap} {locs : List Loc} {cells slots : Nat} {cc : ByteArray} (hexec : p.tables.exec = Jvm.exec) (hb : c.code = cc) {E : String} {Qx : State → Nat → State → Prop} {free : Nat → Prop} {pc : Nat} {ls : Array Slot} {rest : List Value} {a : Addr} {ce : Cell} (haz : s.heap.size ≤ a) (hce : H[a]? = some ce) (hcv : ce.vm.isStatics = false) (hcl : s.vm.findClass E = some ce.cls)
    (hout : ∀ x ∈ c.exceptionTable.toList, covers x pc = false) (hlocks : meth.locks = false) (hL : ∀ q ∈ locs, free q.base) (hq : ∀ t : State, t.heap = H → s.WarmedH t.vm → Qx s a t) (hdg : decode cc pc = .ok (.athrow, 1)) : W p l e R s m args below meth c H locs cells slots (xt_MQ below s E Qx free cells slots) (F0 m pc ls (.ref a :: rest)) := by
  intro T hT X
  obtain ⟨hwalk, hrun, hended, hW, hsame⟩ := X.athrowLeaves hexec (g := F0 m pc ls (.ref a :: rest)) rfl rfl rfl hout (a := a) (rest := rest) rfl (by rw [hb]; exact hdg) hlocks
  exact ⟨_, hwalk, .threw a, hrun, hended, a, ce, locs, rfl, haz, by show T.heap[a]? = some ce; rw [hT]; exact hce, hcv, hcl, hq _ hT hW, hW, hsame, hL⟩
/-- the second of two cells is new, where the start had the first alone -/
theorem va_new1 {A : Nat → Prop} {g q sz : Nat} {x x1 y : va_E} (hA : va_A [(g, x)] sz = A) (hD : va_D A [(g, x1), (q, y)]) : sz ≤ q := by
  have h := hD.2 1 _ rfl
  rw [← hA] at h
  rcases h with ⟨k, e, hk⟩ | h
  · match k, hk with
    | 0, hk => have h1 : g = q := congrArg Prod.fst (Option.some.inj hk); exact absurd (hD.1 0 1 _ _ rfl rfl h1) (by decide)
    | k + 1, hk => simp at hk
  · exact h
abbrev b_java_lang_Throwable_init_1 : ByteArray := prog_25_method_5_code
abbrev y_java_lang_Throwable_init_1 : MethodName := ⟨"java/lang/Throwable", "<init>", "(Ljava/lang/String;Ljava/lang/Throwable;ZZ)V"⟩
theorem d_java_lang_Throwable_init_1_0 : decode b_java_lang_Throwable_init_1 0 = .ok (.aload_n 0, 1) := by decide +kernel
theorem d_java_lang_Throwable_init_1_1 : decode b_java_lang_Throwable_init_1 1 = .ok (.invokespecial 1, 3) := by decide +kernel
theorem d_java_lang_Throwable_init_1_4 : decode b_java_lang_Throwable_init_1 4 = .ok (.aload_n 0, 1) := by decide +kernel
theorem d_java_lang_Throwable_init_1_5 : decode b_java_lang_Throwable_init_1 5 = .ok (.aload_n 0, 1) := by decide +kernel
theorem d_java_lang_Throwable_init_1_6 : decode b_java_lang_Throwable_init_1 6 = .ok (.putfield 7, 3) := by decide +kernel
theorem d_java_lang_Throwable_init_1_9 : decode b_java_lang_Throwable_init_1 9 = .ok (.aload_n 0, 1) := by decide +kernel
theorem d_java_lang_Throwable_init_1_10 : decode b_java_lang_Throwable_init_1 10 = .ok (.getstatic 13, 3) := by decide +kernel
theorem d_java_lang_Throwable_init_1_13 : decode b_java_lang_Throwable_init_1 13 = .ok (.putfield 17, 3) := by decide +kernel
theorem d_java_lang_Throwable_init_1_16 : decode b_java_lang_Throwable_init_1 16 = .ok (.aload_n 0, 1) := by decide +kernel
theorem d_java_lang_Throwable_init_1_17 : decode b_java_lang_Throwable_init_1 17 = .ok (.getstatic 20, 3) := by decide +kernel
theorem d_java_lang_Throwable_init_1_20 : decode b_java_lang_Throwable_init_1 20 = .ok (.putfield 24, 3) := by decide +kernel
theorem d_java_lang_Throwable_init_1_23 : decode b_java_lang_Throwable_init_1 23 = .ok (.iload 4, 2) := by decide +kernel
theorem d_java_lang_Throwable_init_1_25 : decode b_java_lang_Throwable_init_1 25 = .ok (.ifCond .eq 11, 3) := by decide +kernel
theorem d_java_lang_Throwable_init_1_28 : decode b_java_lang_Throwable_init_1 28 = .ok (.aload_n 0, 1) := by decide +kernel
theorem d_java_lang_Throwable_init_1_29 : decode b_java_lang_Throwable_init_1 29 = .ok (.invokevirtual 27, 3) := by decide +kernel
theorem d_java_lang_Throwable_init_1_32 : decode b_java_lang_Throwable_init_1 32 = .ok (.pop, 1) := by decide +kernel
theorem d_java_lang_Throwable_init_1_33 : decode b_java_lang_Throwable_init_1 33 = .ok (.goto 8, 3) := by decide +kernel
theorem d_java_lang_Throwable_init_1_36 : decode b_java_lang_Throwable_init_1 36 = .ok (.aload_n 0, 1) := by decide +kernel
theorem d_java_lang_Throwable_init_1_37 : decode b_java_lang_Throwable_init_1 37 = .ok (.aconst_null, 1) := by decide +kernel
theorem d_java_lang_Throwable_init_1_38 : decode b_java_lang_Throwable_init_1 38 = .ok (.putfield 17, 3) := by decide +kernel
theorem d_java_lang_Throwable_init_1_41 : decode b_java_lang_Throwable_init_1 41 = .ok (.aload_n 0, 1) := by decide +kernel
theorem d_java_lang_Throwable_init_1_42 : decode b_java_lang_Throwable_init_1 42 = .ok (.aload_n 1, 1) := by decide +kernel
theorem d_java_lang_Throwable_init_1_43 : decode b_java_lang_Throwable_init_1 43 = .ok (.putfield 31, 3) := by decide +kernel
theorem d_java_lang_Throwable_init_1_46 : decode b_java_lang_Throwable_init_1 46 = .ok (.aload_n 0, 1) := by decide +kernel
theorem d_java_lang_Throwable_init_1_47 : decode b_java_lang_Throwable_init_1 47 = .ok (.aload_n 2, 1) := by decide +kernel
theorem d_java_lang_Throwable_init_1_48 : decode b_java_lang_Throwable_init_1 48 = .ok (.putfield 7, 3) := by decide +kernel
theorem d_java_lang_Throwable_init_1_51 : decode b_java_lang_Throwable_init_1 51 = .ok (.iload_n 3, 1) := by decide +kernel
theorem d_java_lang_Throwable_init_1_52 : decode b_java_lang_Throwable_init_1 52 = .ok (.ifCond .ne 8, 3) := by decide +kernel
theorem d_java_lang_Throwable_init_1_55 : decode b_java_lang_Throwable_init_1 55 = .ok (.aload_n 0, 1) := by decide +kernel
theorem d_java_lang_Throwable_init_1_56 : decode b_java_lang_Throwable_init_1 56 = .ok (.aconst_null, 1) := by decide +kernel
theorem d_java_lang_Throwable_init_1_57 : decode b_java_lang_Throwable_init_1 57 = .ok (.putfield 24, 3) := by decide +kernel
theorem d_java_lang_Throwable_init_1_60 : decode b_java_lang_Throwable_init_1 60 = .ok (.return_, 1) := by decide +kernel
abbrev b_java_lang_Exception_init_1 : ByteArray := prog_16_method_5_code
abbrev y_java_lang_Exception_init_1 : MethodName := ⟨"java/lang/Exception", "<init>", "(Ljava/lang/String;Ljava/lang/Throwable;ZZ)V"⟩
theorem d_java_lang_Exception_init_1_0 : decode b_java_lang_Exception_init_1 0 = .ok (.aload_n 0, 1) := by decide +kernel
theorem d_java_lang_Exception_init_1_1 : decode b_java_lang_Exception_init_1 1 = .ok (.aload_n 1, 1) := by decide +kernel
theorem d_java_lang_Exception_init_1_2 : decode b_java_lang_Exception_init_1 2 = .ok (.aload_n 2, 1) := by decide +kernel
theorem d_java_lang_Exception_init_1_3 : decode b_java_lang_Exception_init_1 3 = .ok (.iload_n 3, 1) := by decide +kernel
theorem d_java_lang_Exception_init_1_4 : decode b_java_lang_Exception_init_1 4 = .ok (.iload 4, 2) := by decide +kernel
theorem d_java_lang_Exception_init_1_6 : decode b_java_lang_Exception_init_1 6 = .ok (.invokespecial 16, 3) := by decide +kernel
theorem d_java_lang_Exception_init_1_9 : decode b_java_lang_Exception_init_1 9 = .ok (.return_, 1) := by decide +kernel
abbrev b_java_lang_RuntimeException_init_1 : ByteArray := prog_20_method_5_code
abbrev y_java_lang_RuntimeException_init_1 : MethodName := ⟨"java/lang/RuntimeException", "<init>", "(Ljava/lang/String;Ljava/lang/Throwable;ZZ)V"⟩
theorem d_java_lang_RuntimeException_init_1_0 : decode b_java_lang_RuntimeException_init_1 0 = .ok (.aload_n 0, 1) := by decide +kernel
theorem d_java_lang_RuntimeException_init_1_1 : decode b_java_lang_RuntimeException_init_1 1 = .ok (.aload_n 1, 1) := by decide +kernel
theorem d_java_lang_RuntimeException_init_1_2 : decode b_java_lang_RuntimeException_init_1 2 = .ok (.aload_n 2, 1) := by decide +kernel
theorem d_java_lang_RuntimeException_init_1_3 : decode b_java_lang_RuntimeException_init_1 3 = .ok (.iload_n 3, 1) := by decide +kernel
theorem d_java_lang_RuntimeException_init_1_4 : decode b_java_lang_RuntimeException_init_1 4 = .ok (.iload 4, 2) := by decide +kernel
theorem d_java_lang_RuntimeException_init_1_6 : decode b_java_lang_RuntimeException_init_1 6 = .ok (.invokespecial 16, 3) := by decide +kernel
theorem d_java_lang_RuntimeException_init_1_9 : decode b_java_lang_RuntimeException_init_1 9 = .ok (.return_, 1) := by decide +kernel
set_option maxHeartbeats 4000000 in
set_option maxRecDepth 100000 in
theorem c_Thr_init4 (l : Launch) (D : va_G) (cI cB cJ cZ : ClassId) (sz : Nat) (a : Nat) : Met l y_java_lang_Throwable_init_1 (Cond.code y_java_lang_Throwable_init_1 b_java_lang_Throwable_init_1 5 none :: gG) { frames := 1, cells := 0, slots := 0, locals := 12 } (va_Pc [.ref a, .null, .null, .int 0, .int 0] (fun U => ct_P D (tyL cI cB cJ cZ) [(a, .inr (13, [.null, .null, .null, .null, .null, .int 0, .int 0, .int 0]))] sz U ∧ xt_Z (va_A [(a, .inr (13, [.null, .null, .null, .null, .null, .int 0, .int 0, .int 0]))] sz) U U.heap)) (va_Qv (fun _ : Unit => True) (fun _ t => va_P D kl [(a, .inr (13, [.null, .null, .null, .null, .null, .int 0, .int 0, .int 0]))] t.heap ∧ va_D (va_A [(a, .inr (13, [.null, .null, .null, .null, .null, .int 0, .int 0, .int 0]))] sz) [(a, .inr (13, [.null, .null, .null, .null, .null, .int 0, .int 0, .int 0]))]) (va_A [(a, .inr (13, [.null, .null, .null, .null, .null, .int 0, .int 0, .int 0]))] sz)) 0 0 (va_A [(a, .inr (13, [.null, .null, .null, .null, .null, .int 0, .int 0, .int 0]))] sz) := by
  refine Met.ofW (cc := b_java_lang_Throwable_init_1) (maxL := 5) (ret := none) (by decide) rfl ?_
  intro p e s m args below meth c s₁ B hml hv
  obtain ⟨rfl, ⟨hsz, hP, hK, hD0⟩, hZ⟩ := hv
  have hx := B.exec
  have hb := B.bytes
  have hr := B.returns
  have hts := atoms_spec (ws := Cond.code y_java_lang_Throwable_init_1 b_java_lang_Throwable_init_1 5 none :: gG) B.pre
  have hG : ∀ w9 ∈ gG, w9.before [.ref a, .null, .null, .int 0, .int 0].toArray s = true := fun w9 h => hts w9 (List.mem_cons_of_mem _ h)
  have hown : s.vm.findClass "java/lang/Throwable" = some m.cls := findClass_of_methodNamed B.named
  have hlocks := B.notSynchronized
  have hin : meth.name = "<init>" := (name_of_methodNamed B.named B.method).1
  subst hsz
  have hD := hD0.self (sz := s.heap.size)
  generalize hAe : va_A [(a, .inr (13, [.null, .null, .null, .null, .null, .int 0, .int 0, .int 0]))] s.heap.size = A at hD hZ ⊢
  have hA : ∀ q : Nat, s.heap.size ≤ q → A q := fun q h => by rw [← hAe]; exact Or.inr h
  have hS : va_S A s.heap s.heap [] := va_S.rf
  have hl := lv_entry ([.ref a, .null, .null, .int 0, .int 0]) (n := 5) (Nat.le_of_ble_eq_true rfl)
  rw [lg_entry_eq]
  generalize (lg_sl ([.ref a, .null, .null, .int 0, .int 0]) ++ List.replicate (5 - (lg_sl ([.ref a, .null, .null, .int 0, .int 0])).length) Slot.unset).toArray = ls at hl ⊢
  have hl : lv_has ls 5 [(0, .ref a), (1, .null), (2, .null), (3, .int 0), (4, .int 0)] := hl
  have hZ1 : ∃ r : Option Nat, va_Z Bundle.tN "UNASSIGNED_STACK" Bundle.steD (va_rf r) A s s.heap := hZ.1.elim (fun h => ⟨none, h⟩) (fun h => h.elim (fun t h => ⟨some t, h⟩))
  have hZ2 : ∃ r : Option Nat, va_Z Bundle.tN "SUPPRESSED_SENTINEL" Bundle.listD (va_rf r) A s s.heap := hZ.2.elim (fun h => ⟨none, h⟩) (fun h => h.elim (fun t h => ⟨some t, h⟩))
  obtain ⟨r1, hZ1⟩ := hZ1
  obtain ⟨r2, hZ2⟩ := hZ2
  refine lv_aload_n hx hb d_java_lang_Throwable_init_1_0 rfl (lv_at hl 0 rfl) ?_
  refine W.objInit hx hb hown (hG _ ml_java_lang_Throwable_1) (hG _ im_java_lang_Object_init) (hG _ co_java_lang_Object_init) rfl (by rw [hml]; exact hl.1) rfl d_java_lang_Throwable_init_1_1 (Nat.le_of_ble_eq_true rfl) (Nat.le_of_ble_eq_true rfl) ?_
  refine W.eq (g2 := F0 m 4 ls []) rfl ?_
  refine lv_aload_n hx hb d_java_lang_Throwable_init_1_4 rfl (lv_at hl 0 rfl) ?_
  refine lv_aload_n hx hb d_java_lang_Throwable_init_1_5 rfl (lv_at hl 0 rfl) ?_
  refine va_put (D := D) (ci := 13) (v := .ref a) (ty := .object "java/lang/Throwable") (C := R_Wr) (T := T_Wr) (N := 8) hx hb hG gi_Wr ty_Wr to_Wr nm_Wr hown hK hP hD hS 0 rfl rfl 0 (by decide) (hG _ fl_java_lang_Throwable_7) (fun _ h9 => h9) rfl (by decide +kernel) rfl rfl (Nat.le_of_ble_eq_true rfl) d_java_lang_Throwable_init_1_6 (fun H locs hP hD hS => ?_)
  have hP : va_P D kl [(a, .inr (13, [.ref a, .null, .null, .null, .null, .int 0, .int 0, .int 0]))] H := hP
  have hD : va_D A [(a, .inr (13, [.ref a, .null, .null, .null, .null, .int 0, .int 0, .int 0]))] := hD
  refine lv_aload_n hx hb d_java_lang_Throwable_init_1_9 rfl (lv_at hl 0 rfl) ?_
  refine va_gets (v := va_rf r1) hx hb hZ1 hS hown (hG _ fl_java_lang_Throwable_13) (fun _ h9 => h9) d_java_lang_Throwable_init_1_10 ?_
  refine va_put (D := D) (ci := 13) (v := va_rf r1) (ty := .array (.object "java/lang/StackTraceElement")) (C := R_Wr) (T := T_Wr) (N := 8) hx hb hG gi_Wr ty_Wr to_Wr nm_Wr hown hK hP hD hS 0 rfl rfl 1 (by decide) (hG _ fl_java_lang_Throwable_17) (fun _ h9 => h9) rfl (by decide +kernel) (by cases r1 <;> rfl) (by cases r1 <;> rfl) (Nat.le_of_ble_eq_true rfl) d_java_lang_Throwable_init_1_13 (fun H locs hP hD hS => ?_)
  have hP : va_P D kl [(a, .inr (13, [.ref a, va_rf r1, .null, .null, .null, .int 0, .int 0, .int 0]))] H := hP
  have hD : va_D A [(a, .inr (13, [.ref a, va_rf r1, .null, .null, .null, .int 0, .int 0, .int 0]))] := hD
  refine lv_aload_n hx hb d_java_lang_Throwable_init_1_16 rfl (lv_at hl 0 rfl) ?_
  refine va_gets (v := va_rf r2) hx hb hZ2 hS hown (hG _ fl_java_lang_Throwable_20) (fun _ h9 => h9) d_java_lang_Throwable_init_1_17 ?_
  refine va_put (D := D) (ci := 13) (v := va_rf r2) (ty := .object "java/util/List") (C := R_Wr) (T := T_Wr) (N := 8) hx hb hG gi_Wr ty_Wr to_Wr nm_Wr hown hK hP hD hS 0 rfl rfl 2 (by decide) (hG _ fl_java_lang_Throwable_24) (fun _ h9 => h9) rfl (by decide +kernel) (by cases r2 <;> rfl) (by cases r2 <;> rfl) (Nat.le_of_ble_eq_true rfl) d_java_lang_Throwable_init_1_20 (fun H locs hP hD hS => ?_)
  have hP : va_P D kl [(a, .inr (13, [.ref a, va_rf r1, va_rf r2, .null, .null, .int 0, .int 0, .int 0]))] H := hP
  have hD : va_D A [(a, .inr (13, [.ref a, va_rf r1, va_rf r2, .null, .null, .int 0, .int 0, .int 0]))] := hD
  refine lv_iload hx hb d_java_lang_Throwable_init_1_23 (lv_at hl 4 rfl) ?_
  refine lv_if_eq (tgt := 36) hx hb d_java_lang_Throwable_init_1_25 (by decide) (fun _ => ?_) (fun zz1 => absurd rfl zz1)
  refine lv_aload_n hx hb d_java_lang_Throwable_init_1_36 rfl (lv_at hl 0 rfl) ?_
  refine lv_null hx hb d_java_lang_Throwable_init_1_37 ?_
  refine va_put (D := D) (ci := 13) (v := .null) (ty := .array (.object "java/lang/StackTraceElement")) (C := R_Wr) (T := T_Wr) (N := 8) hx hb hG gi_Wr ty_Wr to_Wr nm_Wr hown hK hP hD hS 0 rfl rfl 1 (by decide) (hG _ fl_java_lang_Throwable_17) (fun _ h9 => h9) rfl (by decide +kernel) rfl rfl (Nat.le_of_ble_eq_true rfl) d_java_lang_Throwable_init_1_38 (fun H locs hP hD hS => ?_)
  have hP : va_P D kl [(a, .inr (13, [.ref a, .null, va_rf r2, .null, .null, .int 0, .int 0, .int 0]))] H := hP
  have hD : va_D A [(a, .inr (13, [.ref a, .null, va_rf r2, .null, .null, .int 0, .int 0, .int 0]))] := hD
  refine lv_aload_n hx hb d_java_lang_Throwable_init_1_41 rfl (lv_at hl 0 rfl) ?_
  refine lv_aload_nN hx hb d_java_lang_Throwable_init_1_42 rfl (lv_at hl 1 rfl) ?_
  refine va_put (D := D) (ci := 13) (v := .null) (ty := .object "java/lang/String") (C := R_Wr) (T := T_Wr) (N := 8) hx hb hG gi_Wr ty_Wr to_Wr nm_Wr hown hK hP hD hS 0 rfl rfl 3 (by decide) (hG _ fl_java_lang_Throwable_31) (fun _ h9 => h9) rfl (by decide +kernel) rfl rfl (Nat.le_of_ble_eq_true rfl) d_java_lang_Throwable_init_1_43 (fun H locs hP hD hS => ?_)
  have hP : va_P D kl [(a, .inr (13, [.ref a, .null, va_rf r2, .null, .null, .int 0, .int 0, .int 0]))] H := hP
  have hD : va_D A [(a, .inr (13, [.ref a, .null, va_rf r2, .null, .null, .int 0, .int 0, .int 0]))] := hD
  refine lv_aload_n hx hb d_java_lang_Throwable_init_1_46 rfl (lv_at hl 0 rfl) ?_
  refine lv_aload_nN hx hb d_java_lang_Throwable_init_1_47 rfl (lv_at hl 2 rfl) ?_
  refine va_put (D := D) (ci := 13) (v := .null) (ty := .object "java/lang/Throwable") (C := R_Wr) (T := T_Wr) (N := 8) hx hb hG gi_Wr ty_Wr to_Wr nm_Wr hown hK hP hD hS 0 rfl rfl 0 (by decide) (hG _ fl_java_lang_Throwable_7) (fun _ h9 => h9) rfl (by decide +kernel) rfl rfl (Nat.le_of_ble_eq_true rfl) d_java_lang_Throwable_init_1_48 (fun H locs hP hD hS => ?_)
  have hP : va_P D kl [(a, .inr (13, [.null, .null, va_rf r2, .null, .null, .int 0, .int 0, .int 0]))] H := hP
  have hD : va_D A [(a, .inr (13, [.null, .null, va_rf r2, .null, .null, .int 0, .int 0, .int 0]))] := hD
  refine lv_iload_n hx hb d_java_lang_Throwable_init_1_51 rfl (lv_at hl 3 rfl) ?_
  refine lv_if_ne (tgt := 60) hx hb d_java_lang_Throwable_init_1_52 (by decide) (fun zz2 => absurd zz2 (fun z => z rfl)) (fun _ => ?_)
  refine lv_aload_n hx hb d_java_lang_Throwable_init_1_55 rfl (lv_at hl 0 rfl) ?_
  refine lv_null hx hb d_java_lang_Throwable_init_1_56 ?_
  refine va_put (D := D) (ci := 13) (v := .null) (ty := .object "java/util/List") (C := R_Wr) (T := T_Wr) (N := 8) hx hb hG gi_Wr ty_Wr to_Wr nm_Wr hown hK hP hD hS 0 rfl rfl 2 (by decide) (hG _ fl_java_lang_Throwable_24) (fun _ h9 => h9) rfl (by decide +kernel) rfl rfl (Nat.le_of_ble_eq_true rfl) d_java_lang_Throwable_init_1_57 (fun H locs hP hD hS => ?_)
  have hP : va_P D kl [(a, .inr (13, [.null, .null, .null, .null, .null, .int 0, .int 0, .int 0]))] H := hP
  have hD : va_D A [(a, .inr (13, [.null, .null, .null, .null, .null, .int 0, .int 0, .int 0]))] := hD
  exact W.vret hx hb hr (fun t ht hW => ⟨⟨(), rfl, trivial, by rw [ht]; exact hP, hD⟩, hS.F ht⟩) hS.2.2 d_java_lang_Throwable_init_1_60

set_option maxHeartbeats 4000000 in
set_option maxRecDepth 100000 in
theorem c_Ex_init4 (l : Launch) (D : va_G) (cI cB cJ cZ : ClassId) (sz : Nat) (a : Nat) : Met l y_java_lang_Exception_init_1 (Cond.code y_java_lang_Exception_init_1 b_java_lang_Exception_init_1 5 none :: gG) { frames := 2, cells := 0, slots := 0, locals := 40 } (va_Pc [.ref a, .null, .null, .int 0, .int 0] (fun U => ct_P D (tyL cI cB cJ cZ) [(a, .inr (13, [.null, .null, .null, .null, .null, .int 0, .int 0, .int 0]))] sz U ∧ xt_Z (va_A [(a, .inr (13, [.null, .null, .null, .null, .null, .int 0, .int 0, .int 0]))] sz) U U.heap)) (va_Qv (fun _ : Unit => True) (fun _ t => va_P D kl [(a, .inr (13, [.null, .null, .null, .null, .null, .int 0, .int 0, .int 0]))] t.heap ∧ va_D (va_A [(a, .inr (13, [.null, .null, .null, .null, .null, .int 0, .int 0, .int 0]))] sz) [(a, .inr (13, [.null, .null, .null, .null, .null, .int 0, .int 0, .int 0]))]) (va_A [(a, .inr (13, [.null, .null, .null, .null, .null, .int 0, .int 0, .int 0]))] sz)) 0 0 (va_A [(a, .inr (13, [.null, .null, .null, .null, .null, .int 0, .int 0, .int 0]))] sz) := by
  refine Met.ofW (cc := b_java_lang_Exception_init_1) (maxL := 5) (ret := none) (by decide) rfl ?_
  intro p e s m args below meth c s₁ B hml hv
  obtain ⟨rfl, ⟨hsz, hP, hK, hD0⟩, hZ⟩ := hv
  have hx := B.exec
  have hb := B.bytes
  have hr := B.returns
  have hts := atoms_spec (ws := Cond.code y_java_lang_Exception_init_1 b_java_lang_Exception_init_1 5 none :: gG) B.pre
  have hG : ∀ w9 ∈ gG, w9.before [.ref a, .null, .null, .int 0, .int 0].toArray s = true := fun w9 h => hts w9 (List.mem_cons_of_mem _ h)
  have hown : s.vm.findClass "java/lang/Exception" = some m.cls := findClass_of_methodNamed B.named
  have hlocks := B.notSynchronized
  have hin : meth.name = "<init>" := (name_of_methodNamed B.named B.method).1
  subst hsz
  have hD := hD0.self (sz := s.heap.size)
  generalize hAe : va_A [(a, .inr (13, [.null, .null, .null, .null, .null, .int 0, .int 0, .int 0]))] s.heap.size = A at hD hZ ⊢
  have hA : ∀ q : Nat, s.heap.size ≤ q → A q := fun q h => by rw [← hAe]; exact Or.inr h
  have hS : va_S A s.heap s.heap [] := va_S.rf
  have hl := lv_entry ([.ref a, .null, .null, .int 0, .int 0]) (n := 5) (Nat.le_of_ble_eq_true rfl)
  rw [lg_entry_eq]
  generalize (lg_sl ([.ref a, .null, .null, .int 0, .int 0]) ++ List.replicate (5 - (lg_sl ([.ref a, .null, .null, .int 0, .int 0])).length) Slot.unset).toArray = ls at hl ⊢
  have hl : lv_has ls 5 [(0, .ref a), (1, .null), (2, .null), (3, .int 0), (4, .int 0)] := hl
  refine lv_aload_n hx hb d_java_lang_Exception_init_1_0 rfl (lv_at hl 0 rfl) ?_
  refine lv_aload_nN hx hb d_java_lang_Exception_init_1_1 rfl (lv_at hl 1 rfl) ?_
  refine lv_aload_nN hx hb d_java_lang_Exception_init_1_2 rfl (lv_at hl 2 rfl) ?_
  refine lv_iload_n hx hb d_java_lang_Exception_init_1_3 rfl (lv_at hl 3 rfl) ?_
  refine lv_iload hx hb d_java_lang_Exception_init_1_4 (lv_at hl 4 rfl) ?_
  have hPc := hP.sub (ws' := [(a, .inr (13, [.null, .null, .null, .null, .null, .int 0, .int 0, .int 0]))]) [0] rfl
  have hDc := hD.sub (ws' := [(a, .inr (13, [.null, .null, .null, .null, .null, .int 0, .int 0, .int 0]))]) [0] (by decide) rfl
  have hFc := va_free (wc := [(a, .inr (13, [.null, .null, .null, .null, .null, .int 0, .int 0, .int 0]))]) hD hS hA [0] rfl
  refine va_callv (va_runI (As := [.null, .null, .int 0, .int 0]) (rest := []) ⟨hx, hb, hml, hown, hG⟩ (c_Thr_init4 l D cI cB cJ cZ s.heap.size a) (gcI 4 gG_good hG ml_java_lang_Exception_16 im_java_lang_Throwable_init_1 in_java_lang_Throwable co_java_lang_Throwable_init_1 rfl rfl rfl (by decide +kernel) ⟨(Nat.le_of_ble_eq_true rfl), (Nat.le_of_ble_eq_true rfl)⟩) (cz_pre hPc hK hDc hZ hS hFc) rfl rfl hl.1 rfl (lv_room (Nat.le_of_ble_eq_true rfl)) d_java_lang_Exception_init_1_6 ⟨(Nat.le_of_ble_eq_true rfl), (Nat.le_of_ble_eq_true rfl)⟩) hS (fun q _ h => hFc q h) hFc (fun _ t H1 locs ht hvm hw hB hz1 hk1 hS => ?_)
  obtain ⟨hP1, hD1⟩ := hB
  rw [ht] at hP1
  obtain ⟨hP, hD⟩ := va_join (wr := []) (w1 := [(a, .inr (13, [.null, .null, .null, .null, .null, .int 0, .int 0, .int 0]))]) hP hD [0] [] rfl rfl (by decide) (by decide) hk1 hFc hP1 hD1
  generalize H1 = H at hP hS ⊢
  have hP : va_P D kl [(a, .inr (13, [.null, .null, .null, .null, .null, .int 0, .int 0, .int 0]))] H := hP
  have hD : va_D A [(a, .inr (13, [.null, .null, .null, .null, .null, .int 0, .int 0, .int 0]))] := hD
  exact W.vret hx hb hr (fun t ht hW => ⟨⟨(), rfl, trivial, by rw [ht]; exact hP, hD⟩, hS.F ht⟩) hS.2.2 d_java_lang_Exception_init_1_9

set_option maxHeartbeats 4000000 in
set_option maxRecDepth 100000 in
theorem c_Re_init4 (l : Launch) (D : va_G) (cI cB cJ cZ : ClassId) (sz : Nat) (a : Nat) : Met l y_java_lang_RuntimeException_init_1 (Cond.code y_java_lang_RuntimeException_init_1 b_java_lang_RuntimeException_init_1 5 none :: gG) { frames := 3, cells := 0, slots := 0, locals := 70 } (va_Pc [.ref a, .null, .null, .int 0, .int 0] (fun U => ct_P D (tyL cI cB cJ cZ) [(a, .inr (13, [.null, .null, .null, .null, .null, .int 0, .int 0, .int 0]))] sz U ∧ xt_Z (va_A [(a, .inr (13, [.null, .null, .null, .null, .null, .int 0, .int 0, .int 0]))] sz) U U.heap)) (va_Qv (fun _ : Unit => True) (fun _ t => va_P D kl [(a, .inr (13, [.null, .null, .null, .null, .null, .int 0, .int 0, .int 0]))] t.heap ∧ va_D (va_A [(a, .inr (13, [.null, .null, .null, .null, .null, .int 0, .int 0, .int 0]))] sz) [(a, .inr (13, [.null, .null, .null, .null, .null, .int 0, .int 0, .int 0]))]) (va_A [(a, .inr (13, [.null, .null, .null, .null, .null, .int 0, .int 0, .int 0]))] sz)) 0 0 (va_A [(a, .inr (13, [.null, .null, .null, .null, .null, .int 0, .int 0, .int 0]))] sz) := by
  refine Met.ofW (cc := b_java_lang_RuntimeException_init_1) (maxL := 5) (ret := none) (by decide) rfl ?_
  intro p e s m args below meth c s₁ B hml hv
  obtain ⟨rfl, ⟨hsz, hP, hK, hD0⟩, hZ⟩ := hv
  have hx := B.exec
  have hb := B.bytes
  have hr := B.returns
  have hts := atoms_spec (ws := Cond.code y_java_lang_RuntimeException_init_1 b_java_lang_RuntimeException_init_1 5 none :: gG) B.pre
  have hG : ∀ w9 ∈ gG, w9.before [.ref a, .null, .null, .int 0, .int 0].toArray s = true := fun w9 h => hts w9 (List.mem_cons_of_mem _ h)
  have hown : s.vm.findClass "java/lang/RuntimeException" = some m.cls := findClass_of_methodNamed B.named
  have hlocks := B.notSynchronized
  have hin : meth.name = "<init>" := (name_of_methodNamed B.named B.method).1
  subst hsz
  have hD := hD0.self (sz := s.heap.size)
  generalize hAe : va_A [(a, .inr (13, [.null, .null, .null, .null, .null, .int 0, .int 0, .int 0]))] s.heap.size = A at hD hZ ⊢
  have hA : ∀ q : Nat, s.heap.size ≤ q → A q := fun q h => by rw [← hAe]; exact Or.inr h
  have hS : va_S A s.heap s.heap [] := va_S.rf
  have hl := lv_entry ([.ref a, .null, .null, .int 0, .int 0]) (n := 5) (Nat.le_of_ble_eq_true rfl)
  rw [lg_entry_eq]
  generalize (lg_sl ([.ref a, .null, .null, .int 0, .int 0]) ++ List.replicate (5 - (lg_sl ([.ref a, .null, .null, .int 0, .int 0])).length) Slot.unset).toArray = ls at hl ⊢
  have hl : lv_has ls 5 [(0, .ref a), (1, .null), (2, .null), (3, .int 0), (4, .int 0)] := hl
  refine lv_aload_n hx hb d_java_lang_RuntimeException_init_1_0 rfl (lv_at hl 0 rfl) ?_
  refine lv_aload_nN hx hb d_java_lang_RuntimeException_init_1_1 rfl (lv_at hl 1 rfl) ?_
  refine lv_aload_nN hx hb d_java_lang_RuntimeException_init_1_2 rfl (lv_at hl 2 rfl) ?_
  refine lv_iload_n hx hb d_java_lang_RuntimeException_init_1_3 rfl (lv_at hl 3 rfl) ?_
  refine lv_iload hx hb d_java_lang_RuntimeException_init_1_4 (lv_at hl 4 rfl) ?_
  have hPc := hP.sub (ws' := [(a, .inr (13, [.null, .null, .null, .null, .null, .int 0, .int 0, .int 0]))]) [0] rfl
  have hDc := hD.sub (ws' := [(a, .inr (13, [.null, .null, .null, .null, .null, .int 0, .int 0, .int 0]))]) [0] (by decide) rfl
  have hFc := va_free (wc := [(a, .inr (13, [.null, .null, .null, .null, .null, .int 0, .int 0, .int 0]))]) hD hS hA [0] rfl
  refine va_callv (va_runI (As := [.null, .null, .int 0, .int 0]) (rest := []) ⟨hx, hb, hml, hown, hG⟩ (c_Ex_init4 l D cI cB cJ cZ s.heap.size a) (gcI 4 gG_good hG ml_java_lang_RuntimeException_16 im_java_lang_Exception_init_1 in_java_lang_Exception co_java_lang_Exception_init_1 rfl rfl rfl (by decide +kernel) ⟨(Nat.le_of_ble_eq_true rfl), (Nat.le_of_ble_eq_true rfl)⟩) (cz_pre hPc hK hDc hZ hS hFc) rfl rfl hl.1 rfl (lv_room (Nat.le_of_ble_eq_true rfl)) d_java_lang_RuntimeException_init_1_6 ⟨(Nat.le_of_ble_eq_true rfl), (Nat.le_of_ble_eq_true rfl)⟩) hS (fun q _ h => hFc q h) hFc (fun _ t H1 locs ht hvm hw hB hz1 hk1 hS => ?_)
  obtain ⟨hP1, hD1⟩ := hB
  rw [ht] at hP1
  obtain ⟨hP, hD⟩ := va_join (wr := []) (w1 := [(a, .inr (13, [.null, .null, .null, .null, .null, .int 0, .int 0, .int 0]))]) hP hD [0] [] rfl rfl (by decide) (by decide) hk1 hFc hP1 hD1
  generalize H1 = H at hP hS ⊢
  have hP : va_P D kl [(a, .inr (13, [.null, .null, .null, .null, .null, .int 0, .int 0, .int 0]))] H := hP
  have hD : va_D A [(a, .inr (13, [.null, .null, .null, .null, .null, .int 0, .int 0, .int 0]))] := hD
  exact W.vret hx hb hr (fun t ht hW => ⟨⟨(), rfl, trivial, by rw [ht]; exact hP, hD⟩, hS.F ht⟩) hS.2.2 d_java_lang_RuntimeException_init_1_9

theorem d_Wr_init_0 : decode b_Wr_init 0 = .ok (.aload_n 0, 1) := by decide +kernel
theorem d_Wr_init_1 : decode b_Wr_init 1 = .ok (.aconst_null, 1) := by decide +kernel
theorem d_Wr_init_2 : decode b_Wr_init 2 = .ok (.aconst_null, 1) := by decide +kernel
theorem d_Wr_init_3 : decode b_Wr_init 3 = .ok (.iconst 0, 1) := by decide +kernel
theorem d_Wr_init_4 : decode b_Wr_init 4 = .ok (.iconst 0, 1) := by decide +kernel
theorem d_Wr_init_5 : decode b_Wr_init 5 = .ok (.invokespecial 1, 3) := by decide +kernel
theorem d_Wr_init_8 : decode b_Wr_init 8 = .ok (.aload_n 0, 1) := by decide +kernel
theorem d_Wr_init_9 : decode b_Wr_init 9 = .ok (.iload_n 1, 1) := by decide +kernel
theorem d_Wr_init_10 : decode b_Wr_init 10 = .ok (.putfield 7, 3) := by decide +kernel
theorem d_Wr_init_13 : decode b_Wr_init 13 = .ok (.aload_n 0, 1) := by decide +kernel
theorem d_Wr_init_14 : decode b_Wr_init 14 = .ok (.iload_n 2, 1) := by decide +kernel
theorem d_Wr_init_15 : decode b_Wr_init 15 = .ok (.putfield 13, 3) := by decide +kernel
theorem d_Wr_init_18 : decode b_Wr_init 18 = .ok (.return_, 1) := by decide +kernel
set_option maxHeartbeats 4000000 in
set_option maxRecDepth 100000 in
theorem c_Wr_init (l : Launch) (D : va_G) (cI cB cJ cZ : ClassId) (sz : Nat) (a : Nat) (kk pp : Int32) : Met l y_Wr_init (Cond.code y_Wr_init b_Wr_init 3 none :: gG) { frames := 4, cells := 0, slots := 0, locals := 100 } (va_Pc [.ref a, .int kk, .int pp] (fun U => ct_P D (tyL cI cB cJ cZ) [(a, .inr (13, [.null, .null, .null, .null, .null, .int 0, .int 0, .int 0]))] sz U ∧ xt_Z (va_A [(a, .inr (13, [.null, .null, .null, .null, .null, .int 0, .int 0, .int 0]))] sz) U U.heap)) (va_Qv (fun _ : Unit => True) (fun _ t => va_P D kl [(a, .inr (13, [.null, .null, .null, .null, .null, .int kk, .int pp, .int 0]))] t.heap ∧ va_D (va_A [(a, .inr (13, [.null, .null, .null, .null, .null, .int 0, .int 0, .int 0]))] sz) [(a, .inr (13, [.null, .null, .null, .null, .null, .int kk, .int pp, .int 0]))]) (va_A [(a, .inr (13, [.null, .null, .null, .null, .null, .int 0, .int 0, .int 0]))] sz)) 0 0 (va_A [(a, .inr (13, [.null, .null, .null, .null, .null, .int 0, .int 0, .int 0]))] sz) := by
  refine Met.ofW (cc := b_Wr_init) (maxL := 3) (ret := none) (by decide) rfl ?_
  intro p e s m args below meth c s₁ B hml hv
  obtain ⟨rfl, ⟨hsz, hP, hK, hD0⟩, hZ⟩ := hv
  have hx := B.exec
  have hb := B.bytes
  have hr := B.returns
  have hts := atoms_spec (ws := Cond.code y_Wr_init b_Wr_init 3 none :: gG) B.pre
  have hG : ∀ w9 ∈ gG, w9.before [.ref a, .int kk, .int pp].toArray s = true := fun w9 h => hts w9 (List.mem_cons_of_mem _ h)
  have hown : s.vm.findClass R_Wr = some m.cls := findClass_of_methodNamed B.named
  have hlocks := B.notSynchronized
  have hin : meth.name = "<init>" := (name_of_methodNamed B.named B.method).1
  subst hsz
  have hD := hD0.self (sz := s.heap.size)
  generalize hAe : va_A [(a, .inr (13, [.null, .null, .null, .null, .null, .int 0, .int 0, .int 0]))] s.heap.size = A at hD hZ ⊢
  have hA : ∀ q : Nat, s.heap.size ≤ q → A q := fun q h => by rw [← hAe]; exact Or.inr h
  have hS : va_S A s.heap s.heap [] := va_S.rf
  have hl := lv_entry ([.ref a, .int kk, .int pp]) (n := 3) (Nat.le_of_ble_eq_true rfl)
  rw [lg_entry_eq]
  generalize (lg_sl ([.ref a, .int kk, .int pp]) ++ List.replicate (3 - (lg_sl ([.ref a, .int kk, .int pp])).length) Slot.unset).toArray = ls at hl ⊢
  have hl : lv_has ls 3 [(0, .ref a), (1, .int kk), (2, .int pp)] := hl
  refine lv_aload_n hx hb d_Wr_init_0 rfl (lv_at hl 0 rfl) ?_
  refine lv_null hx hb d_Wr_init_1 ?_
  refine lv_null hx hb d_Wr_init_2 ?_
  refine lv_iconst (v := 0) hx hb d_Wr_init_3 (by decide) ?_
  refine lv_iconst (v := 0) hx hb d_Wr_init_4 (by decide) ?_
  have hPc := hP.sub (ws' := [(a, .inr (13, [.null, .null, .null, .null, .null, .int 0, .int 0, .int 0]))]) [0] rfl
  have hDc := hD.sub (ws' := [(a, .inr (13, [.null, .null, .null, .null, .null, .int 0, .int 0, .int 0]))]) [0] (by decide) rfl
  have hFc := va_free (wc := [(a, .inr (13, [.null, .null, .null, .null, .null, .int 0, .int 0, .int 0]))]) hD hS hA [0] rfl
  refine va_callv (va_runI (As := [.null, .null, .int 0, .int 0]) (rest := []) ⟨hx, hb, hml, hown, hG⟩ (c_Re_init4 l D cI cB cJ cZ s.heap.size a) (gcI 4 gG_good hG ml_Wr_1 im_java_lang_RuntimeException_init_1 in_java_lang_RuntimeException co_java_lang_RuntimeException_init_1 rfl rfl rfl (by decide +kernel) ⟨(Nat.le_of_ble_eq_true rfl), (Nat.le_of_ble_eq_true rfl)⟩) (cz_pre hPc hK hDc hZ hS hFc) rfl rfl hl.1 rfl (lv_room (Nat.le_of_ble_eq_true rfl)) d_Wr_init_5 ⟨(Nat.le_of_ble_eq_true rfl), (Nat.le_of_ble_eq_true rfl)⟩) hS (fun q _ h => hFc q h) hFc (fun _ t H1 locs ht hvm hw hB hz1 hk1 hS => ?_)
  obtain ⟨hP1, hD1⟩ := hB
  rw [ht] at hP1
  obtain ⟨hP, hD⟩ := va_join (wr := []) (w1 := [(a, .inr (13, [.null, .null, .null, .null, .null, .int 0, .int 0, .int 0]))]) hP hD [0] [] rfl rfl (by decide) (by decide) hk1 hFc hP1 hD1
  generalize H1 = H at hP hS ⊢
  have hP : va_P D kl [(a, .inr (13, [.null, .null, .null, .null, .null, .int 0, .int 0, .int 0]))] H := hP
  have hD : va_D A [(a, .inr (13, [.null, .null, .null, .null, .null, .int 0, .int 0, .int 0]))] := hD
  refine lv_aload_n hx hb d_Wr_init_8 rfl (lv_at hl 0 rfl) ?_
  refine lv_iload_n hx hb d_Wr_init_9 rfl (lv_at hl 1 rfl) ?_
  refine va_putF (D := D) (ci := 13) (v := .int kk) (ty := .int) (C := R_Wr) (T := T_Wr) (N := 8) hx hb hG gi_Wr ty_Wr to_Wr nm_Wr hown hK hP hD hS 0 rfl rfl 5 (by decide) (hG _ fl_Wr_7) (fun _ h9 => h9) rfl hin rfl (by decide +kernel) rfl rfl (Nat.le_of_ble_eq_true rfl) d_Wr_init_10 (fun H locs hP hD hS => ?_)
  have hP : va_P D kl [(a, .inr (13, [.null, .null, .null, .null, .null, .int kk, .int 0, .int 0]))] H := hP
  have hD : va_D A [(a, .inr (13, [.null, .null, .null, .null, .null, .int kk, .int 0, .int 0]))] := hD
  refine lv_aload_n hx hb d_Wr_init_13 rfl (lv_at hl 0 rfl) ?_
  refine lv_iload_n hx hb d_Wr_init_14 rfl (lv_at hl 2 rfl) ?_
  refine va_putF (D := D) (ci := 13) (v := .int pp) (ty := .int) (C := R_Wr) (T := T_Wr) (N := 8) hx hb hG gi_Wr ty_Wr to_Wr nm_Wr hown hK hP hD hS 0 rfl rfl 6 (by decide) (hG _ fl_Wr_13) (fun _ h9 => h9) rfl hin rfl (by decide +kernel) rfl rfl (Nat.le_of_ble_eq_true rfl) d_Wr_init_15 (fun H locs hP hD hS => ?_)
  have hP : va_P D kl [(a, .inr (13, [.null, .null, .null, .null, .null, .int kk, .int pp, .int 0]))] H := hP
  have hD : va_D A [(a, .inr (13, [.null, .null, .null, .null, .null, .int kk, .int pp, .int 0]))] := hD
  exact W.vret hx hb hr (fun t ht hW => ⟨⟨(), rfl, trivial, by rw [ht]; exact hP, hD⟩, hS.F ht⟩) hS.2.2 d_Wr_init_18

/-- what a method leaves that throws: B of the object, and what was there behind A -/
def xq_Q (B : Nat → State → Prop) (A : Nat → Prop) : State → Nat → State → Prop := fun st a t => B a t ∧ va_F A st t
section XQ
variable {p : Program} {l : Launch} {e : Env} {R : Room} {s : State} {m : MethodId} {args : Array Value} {below : List Frame} {meth : Method} {c : Code} {H : Heap} {locs : List Loc} {cells slots : Nat} {Q : State → Prop}
theorem xt_callB {y : MethodName} {ws : List Cond} {rm : Room} {Pc : Array Value → State → Prop} {E : String} {B : Nat → State → Prop} {A0 A1 free : Nat → Prop} {H0 : Heap} {mc ms maxL nL n index : Nat} {bytes cc : ByteArray} {ret : Option FieldType} {Ts : List Cond} {own C : String} {b : Addr} {As rest : List Value} {g : JFrame}
    (S : CallFix p m c cc nL s args Ts own) (hM : xt_Met l y ws rm Pc E (xq_Q B A1) free mc ms) (cw : CallW R s args own C index y bytes maxL ret ws rm mc ms n) (hp : PreV s H C b Pc As)
    (hg : g.method = m) (hn : As.length = n) (hsize : g.locals.size = nL) (hstack : g.stack = As.reverse ++ .ref b :: rest) (hW : 2 * g.monitorRoom + (rest.map fun v => v.category).sum ≤ 8) (hdg : decode cc g.pc = .ok (.invokevirtual index, 3)) (hf : cells + mc ≤ R.cells ∧ slots + ms ≤ R.slots)
    (hS : va_S A0 H0 H locs) (hA : ∀ q, A1 q → A0 q) (hfr : ∀ q, free q → A0 q)
    (kk : ∀ (a : Addr) (ce : Cell) (t : State) (H1 : Heap) (locs1 : List Loc), t.heap = H1 → s.vm.Alike t.vm → B a t → H.size ≤ H1.size → (∀ q : Nat, q < H.size → ¬ A1 q → H1[q]? = H[q]?) → va_S A0 H0 H1 locs1 → H.size ≤ a → H1[a]? = some ce → ce.vm.isStatics = false → s.vm.findClass E = some ce.cls → xt_N p l e R s m args below meth c H1 locs1 (cells + mc) (slots + ms) Q { g with stack := rest } a) :
    W p l e R s m args below meth c H locs cells slots Q g := by
  refine xt_callV S hM cw hp hg hn hsize hstack hW hdg hf (fun a ce st₀ t H1 L h0 h1 hvm hQ hL haz hce hcv hcl => ?_)
  obtain ⟨hB, hz, hk⟩ := hQ
  rw [h0] at hz hk
  rw [h1] at hz hk
  exact kk a ce t H1 (locs ++ L) h1 hvm hB hz hk ⟨Nat.le_trans hS.1 hz, fun q h1 h2 => by rw [hk q (Nat.lt_of_lt_of_le h1 hS.1) (fun z => h2 (hA q z))]; exact hS.2.1 q h1 h2, fun q hq => by
      rcases List.mem_append.mp hq with h | h
      · exact hS.2.2 q h
      · exact hfr _ (hL q h)⟩ haz hce hcv hcl
/-- ldc_w of a text -/
theorem va_ldcwS {cc : ByteArray} {pc : Nat} {ls : Array Slot} {rest : List Value} (hexec : p.tables.exec = Jvm.exec) (hb : c.code = cc) {own tx : String} {index q : Nat} (hown : s.vm.findClass own = some m.cls) (hZ : vk_R own index tx q s) (hdg : decode cc pc = .ok (.ldc_w index, 3))
    (k : W p l e R s m args below meth c H locs cells slots Q (F0 m (pc + 3) ls (.ref q :: rest))) : W p l e R s m args below meth c H locs cells slots Q (F0 m pc ls rest) := by
  intro T hT X
  obtain ⟨t, a1, b1⟩ := k T hT X
  exact ⟨t, X.ldcStringW hexec hown (text := tx) (a := q) hZ.1 hZ.2 (g := F0 m pc ls rest) rfl (by rw [hb]; exact hdg) t a1, b1⟩
end XQ
