/-! constructors: all rows empty -/
theorem d_Er_init_0 : decode b_Er_init 0 = .ok (.aload_n 0, 1) := by decide +kernel
theorem d_Er_init_1 : decode b_Er_init 1 = .ok (.invokespecial 3, 3) := by decide +kernel
theorem d_Er_init_4 : decode b_Er_init 4 = .ok (.aload_n 0, 1) := by decide +kernel
theorem d_Er_init_5 : decode b_Er_init 5 = .ok (.sipush 512, 3) := by decide +kernel
theorem d_Er_init_8 : decode b_Er_init 8 = .ok (.newarray .int, 2) := by decide +kernel
theorem d_Er_init_10 : decode b_Er_init 10 = .ok (.putfield 11, 3) := by decide +kernel
theorem d_Er_init_13 : decode b_Er_init 13 = .ok (.aload_n 0, 1) := by decide +kernel
theorem d_Er_init_14 : decode b_Er_init 14 = .ok (.sipush 512, 3) := by decide +kernel
theorem d_Er_init_17 : decode b_Er_init 17 = .ok (.newarray .int, 2) := by decide +kernel
theorem d_Er_init_19 : decode b_Er_init 19 = .ok (.putfield 15, 3) := by decide +kernel
theorem d_Er_init_22 : decode b_Er_init 22 = .ok (.aload_n 0, 1) := by decide +kernel
theorem d_Er_init_23 : decode b_Er_init 23 = .ok (.sipush 512, 3) := by decide +kernel
theorem d_Er_init_26 : decode b_Er_init 26 = .ok (.newarray .int, 2) := by decide +kernel
theorem d_Er_init_28 : decode b_Er_init 28 = .ok (.putfield 18, 3) := by decide +kernel
theorem d_Er_init_31 : decode b_Er_init 31 = .ok (.aload_n 0, 1) := by decide +kernel
theorem d_Er_init_32 : decode b_Er_init 32 = .ok (.sipush 512, 3) := by decide +kernel
theorem d_Er_init_35 : decode b_Er_init 35 = .ok (.newarray .int, 2) := by decide +kernel
theorem d_Er_init_37 : decode b_Er_init 37 = .ok (.putfield 21, 3) := by decide +kernel
theorem d_Er_init_40 : decode b_Er_init 40 = .ok (.aload_n 0, 1) := by decide +kernel
theorem d_Er_init_41 : decode b_Er_init 41 = .ok (.sipush 512, 3) := by decide +kernel
theorem d_Er_init_44 : decode b_Er_init 44 = .ok (.newarray .int, 2) := by decide +kernel
theorem d_Er_init_46 : decode b_Er_init 46 = .ok (.putfield 24, 3) := by decide +kernel
theorem d_Er_init_49 : decode b_Er_init 49 = .ok (.aload_n 0, 1) := by decide +kernel
theorem d_Er_init_50 : decode b_Er_init 50 = .ok (.aload_n 1, 1) := by decide +kernel
theorem d_Er_init_51 : decode b_Er_init 51 = .ok (.putfield 27, 3) := by decide +kernel
theorem d_Er_init_54 : decode b_Er_init 54 = .ok (.aload_n 0, 1) := by decide +kernel
theorem d_Er_init_55 : decode b_Er_init 55 = .ok (.aload_n 2, 1) := by decide +kernel
theorem d_Er_init_56 : decode b_Er_init 56 = .ok (.putfield 31, 3) := by decide +kernel
theorem d_Er_init_59 : decode b_Er_init 59 = .ok (.aload_n 0, 1) := by decide +kernel
theorem d_Er_init_60 : decode b_Er_init 60 = .ok (.aload_n 3, 1) := by decide +kernel
theorem d_Er_init_61 : decode b_Er_init 61 = .ok (.putfield 35, 3) := by decide +kernel
theorem d_Er_init_64 : decode b_Er_init 64 = .ok (.return_, 1) := by decide +kernel
set_option maxHeartbeats 4000000 in
set_option maxRecDepth 100000 in
theorem c_Er_init (l : Launch) (D : va_G) (cI cB cJ cZ : ClassId) (sz : Nat) (h0 g1 g2 g3 : Nat) : Met l y_Er_init (Cond.code y_Er_init b_Er_init 4 none :: gG) { frames := 1, cells := 5, slots := 2560, locals := 12 } (va_Pc [.ref h0, .ref g1, .ref g2, .ref g3] (ct_P D (tyL cI cB cJ cZ) [(h0, .inr (3, [.null, .null, .null, .null, .null, .null, .null, .null, .int 0, .int 0, .int 0, .int 0, .int 0, .int 0, .int 0]))] sz)) (va_Qv (fun _ : Unit => True) (fun _ t => ∃ q1 q2 q3 q4 q5 : Nat, va_P D kl [(h0, .inr (3, [.ref g1, .ref g2, .ref g3, .ref q1, .ref q2, .ref q3, .ref q4, .ref q5, .int 0, .int 0, .int 0, .int 0, .int 0, .int 0, .int 0])), (q1, .inl (cI, 512, .inl (fun _ => 0))), (q2, .inl (cI, 512, .inl (fun _ => 0))), (q3, .inl (cI, 512, .inl (fun _ => 0))), (q4, .inl (cI, 512, .inl (fun _ => 0))), (q5, .inl (cI, 512, .inl (fun _ => 0)))] t.heap ∧ va_D (va_A [(h0, .inr (3, [.null, .null, .null, .null, .null, .null, .null, .null, .int 0, .int 0, .int 0, .int 0, .int 0, .int 0, .int 0]))] sz) [(h0, .inr (3, [.ref g1, .ref g2, .ref g3, .ref q1, .ref q2, .ref q3, .ref q4, .ref q5, .int 0, .int 0, .int 0, .int 0, .int 0, .int 0, .int 0])), (q1, .inl (cI, 512, .inl (fun _ => 0))), (q2, .inl (cI, 512, .inl (fun _ => 0))), (q3, .inl (cI, 512, .inl (fun _ => 0))), (q4, .inl (cI, 512, .inl (fun _ => 0))), (q5, .inl (cI, 512, .inl (fun _ => 0)))]) (va_A [(h0, .inr (3, [.null, .null, .null, .null, .null, .null, .null, .null, .int 0, .int 0, .int 0, .int 0, .int 0, .int 0, .int 0]))] sz)) 5 2560 (va_A [(h0, .inr (3, [.null, .null, .null, .null, .null, .null, .null, .null, .int 0, .int 0, .int 0, .int 0, .int 0, .int 0, .int 0]))] sz) := by
  refine Met.ofW (cc := b_Er_init) (maxL := 4) (ret := none) (by decide) rfl ?_
  intro p e s m args below meth c s₁ B hml hv
  obtain ⟨rfl, hsz, hP, hK, hD0⟩ := hv
  have hx := B.exec
  have hb := B.bytes
  have hr := B.returns
  have hts := atoms_spec (ws := Cond.code y_Er_init b_Er_init 4 none :: gG) B.pre
  have hG : ∀ w ∈ gG, w.before [.ref h0, .ref g1, .ref g2, .ref g3].toArray s = true := fun w h => hts w (List.mem_cons_of_mem _ h)
  have hown : s.vm.findClass R_Er = some m.cls := findClass_of_methodNamed B.named
  have hlocks := B.notSynchronized
  have hin : meth.name = "<init>" := (name_of_methodNamed B.named B.method).1
  subst hsz
  have hD := hD0.self (sz := s.heap.size)
  generalize hAe : va_A [(h0, .inr (3, [.null, .null, .null, .null, .null, .null, .null, .null, .int 0, .int 0, .int 0, .int 0, .int 0, .int 0, .int 0]))] s.heap.size = A at hD ⊢
  have hA : ∀ q : Nat, s.heap.size ≤ q → A q := fun q h => by rw [← hAe]; exact Or.inr h
  have hS : va_S A s.heap s.heap [] := va_S.rf
  have hl := lv_entry ([.ref h0, .ref g1, .ref g2, .ref g3]) (n := 4) (Nat.le_of_ble_eq_true rfl)
  rw [lg_entry_eq]
  generalize (lg_sl ([.ref h0, .ref g1, .ref g2, .ref g3]) ++ List.replicate (4 - (lg_sl ([.ref h0, .ref g1, .ref g2, .ref g3])).length) Slot.unset).toArray = ls at hl ⊢
  have hl : lv_has ls 4 [(0, .ref h0), (1, .ref g1), (2, .ref g2), (3, .ref g3)] := hl
  refine lv_aload_n hx hb d_Er_init_0 rfl (lv_at hl 0 rfl) ?_
  refine W.objInit hx hb hown (hG _ ml_Er_3) (hG _ im_java_lang_Object_init) (hG _ co_java_lang_Object_init) rfl (by rw [hml]; exact hl.1) rfl d_Er_init_1 (Nat.le_of_ble_eq_true rfl) (Nat.le_of_ble_eq_true rfl) ?_
  refine W.eq (g2 := F0 m 4 ls []) rfl ?_
  refine lv_aload_n hx hb d_Er_init_4 rfl (lv_at hl 0 rfl) ?_
  refine lv_sipush (v := 512) hx hb d_Er_init_5 (by decide) ?_
  refine ra_new (atype := .int) (D := D) hx hb (hG _ ac_int) rfl (fun _ h => by cases h) hK hP hD hS hA 0 rfl (512, .inl (fun _ => 0)) (fun _ => rfl) (by decide +kernel) (by decide +kernel) (Nat.le_of_ble_eq_true rfl) (Nat.le_of_ble_eq_true rfl) (Nat.le_of_ble_eq_true rfl) d_Er_init_8 (fun q1 H hP hD hS => ?_)
  have hP : va_P D kl [(h0, .inr (3, [.null, .null, .null, .null, .null, .null, .null, .null, .int 0, .int 0, .int 0, .int 0, .int 0, .int 0, .int 0])), (q1, .inl (cI, 512, .inl (fun _ => 0)))] H := hP
  have hD : va_D A [(h0, .inr (3, [.null, .null, .null, .null, .null, .null, .null, .null, .int 0, .int 0, .int 0, .int 0, .int 0, .int 0, .int 0])), (q1, .inl (cI, 512, .inl (fun _ => 0)))] := hD
  refine W.widen (k := 1) (n := 512) (Nat.le_of_ble_eq_true rfl) (Nat.le_of_ble_eq_true rfl) ?_
  refine va_putF (D := D) (ci := 3) (v := .ref q1) (ty := .array .int) (C := R_Er) (T := T_Er) (N := 15) hx hb hG gi_Er ty_Er to_Er nm_Er hown hK hP hD hS 0 rfl rfl 3 (by decide) (hG _ fl_Er_11) (fun _ h9 => h9) rfl hin rfl (by decide +kernel) rfl rfl (Nat.le_of_ble_eq_true rfl) d_Er_init_10 (fun H locs hP hD hS => ?_)
  have hP : va_P D kl [(h0, .inr (3, [.null, .null, .null, .ref q1, .null, .null, .null, .null, .int 0, .int 0, .int 0, .int 0, .int 0, .int 0, .int 0])), (q1, .inl (cI, 512, .inl (fun _ => 0)))] H := hP
  have hD : va_D A [(h0, .inr (3, [.null, .null, .null, .ref q1, .null, .null, .null, .null, .int 0, .int 0, .int 0, .int 0, .int 0, .int 0, .int 0])), (q1, .inl (cI, 512, .inl (fun _ => 0)))] := hD
  refine lv_aload_n hx hb d_Er_init_13 rfl (lv_at hl 0 rfl) ?_
  refine lv_sipush (v := 512) hx hb d_Er_init_14 (by decide) ?_
  refine ra_new (atype := .int) (D := D) hx hb (hG _ ac_int) rfl (fun _ h => by cases h) hK hP hD hS hA 0 rfl (512, .inl (fun _ => 0)) (fun _ => rfl) (by decide +kernel) (by decide +kernel) (Nat.le_of_ble_eq_true rfl) (Nat.le_of_ble_eq_true rfl) (Nat.le_of_ble_eq_true rfl) d_Er_init_17 (fun q2 H hP hD hS => ?_)
  have hP : va_P D kl [(h0, .inr (3, [.null, .null, .null, .ref q1, .null, .null, .null, .null, .int 0, .int 0, .int 0, .int 0, .int 0, .int 0, .int 0])), (q1, .inl (cI, 512, .inl (fun _ => 0))), (q2, .inl (cI, 512, .inl (fun _ => 0)))] H := hP
  have hD : va_D A [(h0, .inr (3, [.null, .null, .null, .ref q1, .null, .null, .null, .null, .int 0, .int 0, .int 0, .int 0, .int 0, .int 0, .int 0])), (q1, .inl (cI, 512, .inl (fun _ => 0))), (q2, .inl (cI, 512, .inl (fun _ => 0)))] := hD
  refine W.widen (k := 2) (n := 1024) (Nat.le_of_ble_eq_true rfl) (Nat.le_of_ble_eq_true rfl) ?_
  refine va_putF (D := D) (ci := 3) (v := .ref q2) (ty := .array .int) (C := R_Er) (T := T_Er) (N := 15) hx hb hG gi_Er ty_Er to_Er nm_Er hown hK hP hD hS 0 rfl rfl 4 (by decide) (hG _ fl_Er_15) (fun _ h9 => h9) rfl hin rfl (by decide +kernel) rfl rfl (Nat.le_of_ble_eq_true rfl) d_Er_init_19 (fun H locs hP hD hS => ?_)
  have hP : va_P D kl [(h0, .inr (3, [.null, .null, .null, .ref q1, .ref q2, .null, .null, .null, .int 0, .int 0, .int 0, .int 0, .int 0, .int 0, .int 0])), (q1, .inl (cI, 512, .inl (fun _ => 0))), (q2, .inl (cI, 512, .inl (fun _ => 0)))] H := hP
  have hD : va_D A [(h0, .inr (3, [.null, .null, .null, .ref q1, .ref q2, .null, .null, .null, .int 0, .int 0, .int 0, .int 0, .int 0, .int 0, .int 0])), (q1, .inl (cI, 512, .inl (fun _ => 0))), (q2, .inl (cI, 512, .inl (fun _ => 0)))] := hD
  refine lv_aload_n hx hb d_Er_init_22 rfl (lv_at hl 0 rfl) ?_
  refine lv_sipush (v := 512) hx hb d_Er_init_23 (by decide) ?_
  refine ra_new (atype := .int) (D := D) hx hb (hG _ ac_int) rfl (fun _ h => by cases h) hK hP hD hS hA 0 rfl (512, .inl (fun _ => 0)) (fun _ => rfl) (by decide +kernel) (by decide +kernel) (Nat.le_of_ble_eq_true rfl) (Nat.le_of_ble_eq_true rfl) (Nat.le_of_ble_eq_true rfl) d_Er_init_26 (fun q3 H hP hD hS => ?_)
  have hP : va_P D kl [(h0, .inr (3, [.null, .null, .null, .ref q1, .ref q2, .null, .null, .null, .int 0, .int 0, .int 0, .int 0, .int 0, .int 0, .int 0])), (q1, .inl (cI, 512, .inl (fun _ => 0))), (q2, .inl (cI, 512, .inl (fun _ => 0))), (q3, .inl (cI, 512, .inl (fun _ => 0)))] H := hP
  have hD : va_D A [(h0, .inr (3, [.null, .null, .null, .ref q1, .ref q2, .null, .null, .null, .int 0, .int 0, .int 0, .int 0, .int 0, .int 0, .int 0])), (q1, .inl (cI, 512, .inl (fun _ => 0))), (q2, .inl (cI, 512, .inl (fun _ => 0))), (q3, .inl (cI, 512, .inl (fun _ => 0)))] := hD
  refine W.widen (k := 3) (n := 1536) (Nat.le_of_ble_eq_true rfl) (Nat.le_of_ble_eq_true rfl) ?_
  refine va_putF (D := D) (ci := 3) (v := .ref q3) (ty := .array .int) (C := R_Er) (T := T_Er) (N := 15) hx hb hG gi_Er ty_Er to_Er nm_Er hown hK hP hD hS 0 rfl rfl 5 (by decide) (hG _ fl_Er_18) (fun _ h9 => h9) rfl hin rfl (by decide +kernel) rfl rfl (Nat.le_of_ble_eq_true rfl) d_Er_init_28 (fun H locs hP hD hS => ?_)
  have hP : va_P D kl [(h0, .inr (3, [.null, .null, .null, .ref q1, .ref q2, .ref q3, .null, .null, .int 0, .int 0, .int 0, .int 0, .int 0, .int 0, .int 0])), (q1, .inl (cI, 512, .inl (fun _ => 0))), (q2, .inl (cI, 512, .inl (fun _ => 0))), (q3, .inl (cI, 512, .inl (fun _ => 0)))] H := hP
  have hD : va_D A [(h0, .inr (3, [.null, .null, .null, .ref q1, .ref q2, .ref q3, .null, .null, .int 0, .int 0, .int 0, .int 0, .int 0, .int 0, .int 0])), (q1, .inl (cI, 512, .inl (fun _ => 0))), (q2, .inl (cI, 512, .inl (fun _ => 0))), (q3, .inl (cI, 512, .inl (fun _ => 0)))] := hD
  refine lv_aload_n hx hb d_Er_init_31 rfl (lv_at hl 0 rfl) ?_
  refine lv_sipush (v := 512) hx hb d_Er_init_32 (by decide) ?_
  refine ra_new (atype := .int) (D := D) hx hb (hG _ ac_int) rfl (fun _ h => by cases h) hK hP hD hS hA 0 rfl (512, .inl (fun _ => 0)) (fun _ => rfl) (by decide +kernel) (by decide +kernel) (Nat.le_of_ble_eq_true rfl) (Nat.le_of_ble_eq_true rfl) (Nat.le_of_ble_eq_true rfl) d_Er_init_35 (fun q4 H hP hD hS => ?_)
  have hP : va_P D kl [(h0, .inr (3, [.null, .null, .null, .ref q1, .ref q2, .ref q3, .null, .null, .int 0, .int 0, .int 0, .int 0, .int 0, .int 0, .int 0])), (q1, .inl (cI, 512, .inl (fun _ => 0))), (q2, .inl (cI, 512, .inl (fun _ => 0))), (q3, .inl (cI, 512, .inl (fun _ => 0))), (q4, .inl (cI, 512, .inl (fun _ => 0)))] H := hP
  have hD : va_D A [(h0, .inr (3, [.null, .null, .null, .ref q1, .ref q2, .ref q3, .null, .null, .int 0, .int 0, .int 0, .int 0, .int 0, .int 0, .int 0])), (q1, .inl (cI, 512, .inl (fun _ => 0))), (q2, .inl (cI, 512, .inl (fun _ => 0))), (q3, .inl (cI, 512, .inl (fun _ => 0))), (q4, .inl (cI, 512, .inl (fun _ => 0)))] := hD
  refine W.widen (k := 4) (n := 2048) (Nat.le_of_ble_eq_true rfl) (Nat.le_of_ble_eq_true rfl) ?_
  refine va_putF (D := D) (ci := 3) (v := .ref q4) (ty := .array .int) (C := R_Er) (T := T_Er) (N := 15) hx hb hG gi_Er ty_Er to_Er nm_Er hown hK hP hD hS 0 rfl rfl 6 (by decide) (hG _ fl_Er_21) (fun _ h9 => h9) rfl hin rfl (by decide +kernel) rfl rfl (Nat.le_of_ble_eq_true rfl) d_Er_init_37 (fun H locs hP hD hS => ?_)
  have hP : va_P D kl [(h0, .inr (3, [.null, .null, .null, .ref q1, .ref q2, .ref q3, .ref q4, .null, .int 0, .int 0, .int 0, .int 0, .int 0, .int 0, .int 0])), (q1, .inl (cI, 512, .inl (fun _ => 0))), (q2, .inl (cI, 512, .inl (fun _ => 0))), (q3, .inl (cI, 512, .inl (fun _ => 0))), (q4, .inl (cI, 512, .inl (fun _ => 0)))] H := hP
  have hD : va_D A [(h0, .inr (3, [.null, .null, .null, .ref q1, .ref q2, .ref q3, .ref q4, .null, .int 0, .int 0, .int 0, .int 0, .int 0, .int 0, .int 0])), (q1, .inl (cI, 512, .inl (fun _ => 0))), (q2, .inl (cI, 512, .inl (fun _ => 0))), (q3, .inl (cI, 512, .inl (fun _ => 0))), (q4, .inl (cI, 512, .inl (fun _ => 0)))] := hD
  refine lv_aload_n hx hb d_Er_init_40 rfl (lv_at hl 0 rfl) ?_
  refine lv_sipush (v := 512) hx hb d_Er_init_41 (by decide) ?_
  refine ra_new (atype := .int) (D := D) hx hb (hG _ ac_int) rfl (fun _ h => by cases h) hK hP hD hS hA 0 rfl (512, .inl (fun _ => 0)) (fun _ => rfl) (by decide +kernel) (by decide +kernel) (Nat.le_of_ble_eq_true rfl) (Nat.le_of_ble_eq_true rfl) (Nat.le_of_ble_eq_true rfl) d_Er_init_44 (fun q5 H hP hD hS => ?_)
  have hP : va_P D kl [(h0, .inr (3, [.null, .null, .null, .ref q1, .ref q2, .ref q3, .ref q4, .null, .int 0, .int 0, .int 0, .int 0, .int 0, .int 0, .int 0])), (q1, .inl (cI, 512, .inl (fun _ => 0))), (q2, .inl (cI, 512, .inl (fun _ => 0))), (q3, .inl (cI, 512, .inl (fun _ => 0))), (q4, .inl (cI, 512, .inl (fun _ => 0))), (q5, .inl (cI, 512, .inl (fun _ => 0)))] H := hP
  have hD : va_D A [(h0, .inr (3, [.null, .null, .null, .ref q1, .ref q2, .ref q3, .ref q4, .null, .int 0, .int 0, .int 0, .int 0, .int 0, .int 0, .int 0])), (q1, .inl (cI, 512, .inl (fun _ => 0))), (q2, .inl (cI, 512, .inl (fun _ => 0))), (q3, .inl (cI, 512, .inl (fun _ => 0))), (q4, .inl (cI, 512, .inl (fun _ => 0))), (q5, .inl (cI, 512, .inl (fun _ => 0)))] := hD
  refine W.widen (k := 5) (n := 2560) (Nat.le_of_ble_eq_true rfl) (Nat.le_of_ble_eq_true rfl) ?_
  refine va_putF (D := D) (ci := 3) (v := .ref q5) (ty := .array .int) (C := R_Er) (T := T_Er) (N := 15) hx hb hG gi_Er ty_Er to_Er nm_Er hown hK hP hD hS 0 rfl rfl 7 (by decide) (hG _ fl_Er_24) (fun _ h9 => h9) rfl hin rfl (by decide +kernel) rfl rfl (Nat.le_of_ble_eq_true rfl) d_Er_init_46 (fun H locs hP hD hS => ?_)
  have hP : va_P D kl [(h0, .inr (3, [.null, .null, .null, .ref q1, .ref q2, .ref q3, .ref q4, .ref q5, .int 0, .int 0, .int 0, .int 0, .int 0, .int 0, .int 0])), (q1, .inl (cI, 512, .inl (fun _ => 0))), (q2, .inl (cI, 512, .inl (fun _ => 0))), (q3, .inl (cI, 512, .inl (fun _ => 0))), (q4, .inl (cI, 512, .inl (fun _ => 0))), (q5, .inl (cI, 512, .inl (fun _ => 0)))] H := hP
  have hD : va_D A [(h0, .inr (3, [.null, .null, .null, .ref q1, .ref q2, .ref q3, .ref q4, .ref q5, .int 0, .int 0, .int 0, .int 0, .int 0, .int 0, .int 0])), (q1, .inl (cI, 512, .inl (fun _ => 0))), (q2, .inl (cI, 512, .inl (fun _ => 0))), (q3, .inl (cI, 512, .inl (fun _ => 0))), (q4, .inl (cI, 512, .inl (fun _ => 0))), (q5, .inl (cI, 512, .inl (fun _ => 0)))] := hD
  refine lv_aload_n hx hb d_Er_init_49 rfl (lv_at hl 0 rfl) ?_
  refine lv_aload_n hx hb d_Er_init_50 rfl (lv_at hl 1 rfl) ?_
  refine va_putF (D := D) (ci := 3) (v := .ref g1) (ty := .object "StreamNodes$Tokens") (C := R_Er) (T := T_Er) (N := 15) hx hb hG gi_Er ty_Er to_Er nm_Er hown hK hP hD hS 0 rfl rfl 0 (by decide) (hG _ fl_Er_27) (fun _ h9 => h9) rfl hin rfl (by decide +kernel) rfl rfl (Nat.le_of_ble_eq_true rfl) d_Er_init_51 (fun H locs hP hD hS => ?_)
  have hP : va_P D kl [(h0, .inr (3, [.ref g1, .null, .null, .ref q1, .ref q2, .ref q3, .ref q4, .ref q5, .int 0, .int 0, .int 0, .int 0, .int 0, .int 0, .int 0])), (q1, .inl (cI, 512, .inl (fun _ => 0))), (q2, .inl (cI, 512, .inl (fun _ => 0))), (q3, .inl (cI, 512, .inl (fun _ => 0))), (q4, .inl (cI, 512, .inl (fun _ => 0))), (q5, .inl (cI, 512, .inl (fun _ => 0)))] H := hP
  have hD : va_D A [(h0, .inr (3, [.ref g1, .null, .null, .ref q1, .ref q2, .ref q3, .ref q4, .ref q5, .int 0, .int 0, .int 0, .int 0, .int 0, .int 0, .int 0])), (q1, .inl (cI, 512, .inl (fun _ => 0))), (q2, .inl (cI, 512, .inl (fun _ => 0))), (q3, .inl (cI, 512, .inl (fun _ => 0))), (q4, .inl (cI, 512, .inl (fun _ => 0))), (q5, .inl (cI, 512, .inl (fun _ => 0)))] := hD
  refine lv_aload_n hx hb d_Er_init_54 rfl (lv_at hl 0 rfl) ?_
  refine lv_aload_n hx hb d_Er_init_55 rfl (lv_at hl 2 rfl) ?_
  refine va_putF (D := D) (ci := 3) (v := .ref g2) (ty := .object "StreamNodes$Nodes") (C := R_Er) (T := T_Er) (N := 15) hx hb hG gi_Er ty_Er to_Er nm_Er hown hK hP hD hS 0 rfl rfl 1 (by decide) (hG _ fl_Er_31) (fun _ h9 => h9) rfl hin rfl (by decide +kernel) rfl rfl (Nat.le_of_ble_eq_true rfl) d_Er_init_56 (fun H locs hP hD hS => ?_)
  have hP : va_P D kl [(h0, .inr (3, [.ref g1, .ref g2, .null, .ref q1, .ref q2, .ref q3, .ref q4, .ref q5, .int 0, .int 0, .int 0, .int 0, .int 0, .int 0, .int 0])), (q1, .inl (cI, 512, .inl (fun _ => 0))), (q2, .inl (cI, 512, .inl (fun _ => 0))), (q3, .inl (cI, 512, .inl (fun _ => 0))), (q4, .inl (cI, 512, .inl (fun _ => 0))), (q5, .inl (cI, 512, .inl (fun _ => 0)))] H := hP
  have hD : va_D A [(h0, .inr (3, [.ref g1, .ref g2, .null, .ref q1, .ref q2, .ref q3, .ref q4, .ref q5, .int 0, .int 0, .int 0, .int 0, .int 0, .int 0, .int 0])), (q1, .inl (cI, 512, .inl (fun _ => 0))), (q2, .inl (cI, 512, .inl (fun _ => 0))), (q3, .inl (cI, 512, .inl (fun _ => 0))), (q4, .inl (cI, 512, .inl (fun _ => 0))), (q5, .inl (cI, 512, .inl (fun _ => 0)))] := hD
  refine lv_aload_n hx hb d_Er_init_59 rfl (lv_at hl 0 rfl) ?_
  refine lv_aload_n hx hb d_Er_init_60 rfl (lv_at hl 3 rfl) ?_
  refine va_putF (D := D) (ci := 3) (v := .ref g3) (ty := .object "StreamNodes$Code") (C := R_Er) (T := T_Er) (N := 15) hx hb hG gi_Er ty_Er to_Er nm_Er hown hK hP hD hS 0 rfl rfl 2 (by decide) (hG _ fl_Er_35) (fun _ h9 => h9) rfl hin rfl (by decide +kernel) rfl rfl (Nat.le_of_ble_eq_true rfl) d_Er_init_61 (fun H locs hP hD hS => ?_)
  have hP : va_P D kl [(h0, .inr (3, [.ref g1, .ref g2, .ref g3, .ref q1, .ref q2, .ref q3, .ref q4, .ref q5, .int 0, .int 0, .int 0, .int 0, .int 0, .int 0, .int 0])), (q1, .inl (cI, 512, .inl (fun _ => 0))), (q2, .inl (cI, 512, .inl (fun _ => 0))), (q3, .inl (cI, 512, .inl (fun _ => 0))), (q4, .inl (cI, 512, .inl (fun _ => 0))), (q5, .inl (cI, 512, .inl (fun _ => 0)))] H := hP
  have hD : va_D A [(h0, .inr (3, [.ref g1, .ref g2, .ref g3, .ref q1, .ref q2, .ref q3, .ref q4, .ref q5, .int 0, .int 0, .int 0, .int 0, .int 0, .int 0, .int 0])), (q1, .inl (cI, 512, .inl (fun _ => 0))), (q2, .inl (cI, 512, .inl (fun _ => 0))), (q3, .inl (cI, 512, .inl (fun _ => 0))), (q4, .inl (cI, 512, .inl (fun _ => 0))), (q5, .inl (cI, 512, .inl (fun _ => 0)))] := hD
  exact W.vret hx hb hr (fun t ht hW => ⟨⟨(), rfl, trivial, q1, q2, q3, q4, q5, by rw [ht]; exact hP, hD⟩, hS.F ht⟩) hS.2.2 d_Er_init_64

theorem d_Ck_init_0 : decode b_Ck_init 0 = .ok (.aload_n 0, 1) := by decide +kernel
theorem d_Ck_init_1 : decode b_Ck_init 1 = .ok (.invokespecial 3, 3) := by decide +kernel
theorem d_Ck_init_4 : decode b_Ck_init 4 = .ok (.aload_n 0, 1) := by decide +kernel
theorem d_Ck_init_5 : decode b_Ck_init 5 = .ok (.ldc 9, 2) := by decide +kernel
theorem d_Ck_init_7 : decode b_Ck_init 7 = .ok (.newarray .int, 2) := by decide +kernel
theorem d_Ck_init_9 : decode b_Ck_init 9 = .ok (.putfield 10, 3) := by decide +kernel
theorem d_Ck_init_12 : decode b_Ck_init 12 = .ok (.aload_n 0, 1) := by decide +kernel
theorem d_Ck_init_13 : decode b_Ck_init 13 = .ok (.aload_n 1, 1) := by decide +kernel
theorem d_Ck_init_14 : decode b_Ck_init 14 = .ok (.putfield 16, 3) := by decide +kernel
theorem d_Ck_init_17 : decode b_Ck_init 17 = .ok (.aload_n 0, 1) := by decide +kernel
theorem d_Ck_init_18 : decode b_Ck_init 18 = .ok (.aload_n 2, 1) := by decide +kernel
theorem d_Ck_init_19 : decode b_Ck_init 19 = .ok (.putfield 20, 3) := by decide +kernel
theorem d_Ck_init_22 : decode b_Ck_init 22 = .ok (.aload_n 0, 1) := by decide +kernel
theorem d_Ck_init_23 : decode b_Ck_init 23 = .ok (.aload_n 3, 1) := by decide +kernel
theorem d_Ck_init_24 : decode b_Ck_init 24 = .ok (.putfield 24, 3) := by decide +kernel
theorem d_Ck_init_27 : decode b_Ck_init 27 = .ok (.return_, 1) := by decide +kernel
set_option maxHeartbeats 4000000 in
set_option maxRecDepth 100000 in
theorem c_Ck_init (l : Launch) (D : va_G) (cI cB cJ cZ : ClassId) (sz : Nat) (h0 g1 g2 g3 : Nat) : Met l y_Ck_init (Cond.code y_Ck_init b_Ck_init 4 none :: gG) { frames := 1, cells := 1, slots := 32769, locals := 12 } (va_Pc [.ref h0, .ref g1, .ref g2, .ref g3] (ct_P D (tyL cI cB cJ cZ) [(h0, .inr (1, [.null, .null, .null, .null, .int 0, .int 0]))] sz)) (va_Qv (fun _ : Unit => True) (fun _ t => ∃ q1 : Nat, va_P D kl [(h0, .inr (1, [.ref g1, .ref g2, .ref g3, .ref q1, .int 0, .int 0])), (q1, .inl (cI, 32769, .inl (fun _ => 0)))] t.heap ∧ va_D (va_A [(h0, .inr (1, [.null, .null, .null, .null, .int 0, .int 0]))] sz) [(h0, .inr (1, [.ref g1, .ref g2, .ref g3, .ref q1, .int 0, .int 0])), (q1, .inl (cI, 32769, .inl (fun _ => 0)))]) (va_A [(h0, .inr (1, [.null, .null, .null, .null, .int 0, .int 0]))] sz)) 1 32769 (va_A [(h0, .inr (1, [.null, .null, .null, .null, .int 0, .int 0]))] sz) := by
  refine Met.ofW (cc := b_Ck_init) (maxL := 4) (ret := none) (by decide) rfl ?_
  intro p e s m args below meth c s₁ B hml hv
  obtain ⟨rfl, hsz, hP, hK, hD0⟩ := hv
  have hx := B.exec
  have hb := B.bytes
  have hr := B.returns
  have hts := atoms_spec (ws := Cond.code y_Ck_init b_Ck_init 4 none :: gG) B.pre
  have hG : ∀ w ∈ gG, w.before [.ref h0, .ref g1, .ref g2, .ref g3].toArray s = true := fun w h => hts w (List.mem_cons_of_mem _ h)
  have hown : s.vm.findClass R_Ck = some m.cls := findClass_of_methodNamed B.named
  have hlocks := B.notSynchronized
  have hin : meth.name = "<init>" := (name_of_methodNamed B.named B.method).1
  subst hsz
  have hD := hD0.self (sz := s.heap.size)
  generalize hAe : va_A [(h0, .inr (1, [.null, .null, .null, .null, .int 0, .int 0]))] s.heap.size = A at hD ⊢
  have hA : ∀ q : Nat, s.heap.size ≤ q → A q := fun q h => by rw [← hAe]; exact Or.inr h
  have hS : va_S A s.heap s.heap [] := va_S.rf
  have hl := lv_entry ([.ref h0, .ref g1, .ref g2, .ref g3]) (n := 4) (Nat.le_of_ble_eq_true rfl)
  rw [lg_entry_eq]
  generalize (lg_sl ([.ref h0, .ref g1, .ref g2, .ref g3]) ++ List.replicate (4 - (lg_sl ([.ref h0, .ref g1, .ref g2, .ref g3])).length) Slot.unset).toArray = ls at hl ⊢
  have hl : lv_has ls 4 [(0, .ref h0), (1, .ref g1), (2, .ref g2), (3, .ref g3)] := hl
  refine lv_aload_n hx hb d_Ck_init_0 rfl (lv_at hl 0 rfl) ?_
  refine W.objInit hx hb hown (hG _ ml_Ck_3) (hG _ im_java_lang_Object_init) (hG _ co_java_lang_Object_init) rfl (by rw [hml]; exact hl.1) rfl d_Ck_init_1 (Nat.le_of_ble_eq_true rfl) (Nat.le_of_ble_eq_true rfl) ?_
  refine W.eq (g2 := F0 m 4 ls []) rfl ?_
  refine lv_aload_n hx hb d_Ck_init_4 rfl (lv_at hl 0 rfl) ?_
  refine lv_ldc (v := 32769) hx hb hown (hG _ ct_Ck_9) d_Ck_init_5 ?_
  refine ra_new (atype := .int) (D := D) hx hb (hG _ ac_int) rfl (fun _ h => by cases h) hK hP hD hS hA 0 rfl (32769, .inl (fun _ => 0)) (fun _ => rfl) (by decide +kernel) (by decide +kernel) (Nat.le_of_ble_eq_true rfl) (Nat.le_of_ble_eq_true rfl) (Nat.le_of_ble_eq_true rfl) d_Ck_init_7 (fun q1 H hP hD hS => ?_)
  have hP : va_P D kl [(h0, .inr (1, [.null, .null, .null, .null, .int 0, .int 0])), (q1, .inl (cI, 32769, .inl (fun _ => 0)))] H := hP
  have hD : va_D A [(h0, .inr (1, [.null, .null, .null, .null, .int 0, .int 0])), (q1, .inl (cI, 32769, .inl (fun _ => 0)))] := hD
  refine W.widen (k := 1) (n := 32769) (Nat.le_of_ble_eq_true rfl) (Nat.le_of_ble_eq_true rfl) ?_
  refine va_putF (D := D) (ci := 1) (v := .ref q1) (ty := .array .int) (C := R_Ck) (T := T_Ck) (N := 6) hx hb hG gi_Ck ty_Ck to_Ck nm_Ck hown hK hP hD hS 0 rfl rfl 3 (by decide) (hG _ fl_Ck_10) (fun _ h9 => h9) rfl hin rfl (by decide +kernel) rfl rfl (Nat.le_of_ble_eq_true rfl) d_Ck_init_9 (fun H locs hP hD hS => ?_)
  have hP : va_P D kl [(h0, .inr (1, [.null, .null, .null, .ref q1, .int 0, .int 0])), (q1, .inl (cI, 32769, .inl (fun _ => 0)))] H := hP
  have hD : va_D A [(h0, .inr (1, [.null, .null, .null, .ref q1, .int 0, .int 0])), (q1, .inl (cI, 32769, .inl (fun _ => 0)))] := hD
  refine lv_aload_n hx hb d_Ck_init_12 rfl (lv_at hl 0 rfl) ?_
  refine lv_aload_n hx hb d_Ck_init_13 rfl (lv_at hl 1 rfl) ?_
  refine va_putF (D := D) (ci := 1) (v := .ref g1) (ty := .object "StreamNodes$Tokens") (C := R_Ck) (T := T_Ck) (N := 6) hx hb hG gi_Ck ty_Ck to_Ck nm_Ck hown hK hP hD hS 0 rfl rfl 0 (by decide) (hG _ fl_Ck_16) (fun _ h9 => h9) rfl hin rfl (by decide +kernel) rfl rfl (Nat.le_of_ble_eq_true rfl) d_Ck_init_14 (fun H locs hP hD hS => ?_)
  have hP : va_P D kl [(h0, .inr (1, [.ref g1, .null, .null, .ref q1, .int 0, .int 0])), (q1, .inl (cI, 32769, .inl (fun _ => 0)))] H := hP
  have hD : va_D A [(h0, .inr (1, [.ref g1, .null, .null, .ref q1, .int 0, .int 0])), (q1, .inl (cI, 32769, .inl (fun _ => 0)))] := hD
  refine lv_aload_n hx hb d_Ck_init_17 rfl (lv_at hl 0 rfl) ?_
  refine lv_aload_n hx hb d_Ck_init_18 rfl (lv_at hl 2 rfl) ?_
  refine va_putF (D := D) (ci := 1) (v := .ref g2) (ty := .object "StreamNodes$Nodes") (C := R_Ck) (T := T_Ck) (N := 6) hx hb hG gi_Ck ty_Ck to_Ck nm_Ck hown hK hP hD hS 0 rfl rfl 1 (by decide) (hG _ fl_Ck_20) (fun _ h9 => h9) rfl hin rfl (by decide +kernel) rfl rfl (Nat.le_of_ble_eq_true rfl) d_Ck_init_19 (fun H locs hP hD hS => ?_)
  have hP : va_P D kl [(h0, .inr (1, [.ref g1, .ref g2, .null, .ref q1, .int 0, .int 0])), (q1, .inl (cI, 32769, .inl (fun _ => 0)))] H := hP
  have hD : va_D A [(h0, .inr (1, [.ref g1, .ref g2, .null, .ref q1, .int 0, .int 0])), (q1, .inl (cI, 32769, .inl (fun _ => 0)))] := hD
  refine lv_aload_n hx hb d_Ck_init_22 rfl (lv_at hl 0 rfl) ?_
  refine lv_aload_n hx hb d_Ck_init_23 rfl (lv_at hl 3 rfl) ?_
  refine va_putF (D := D) (ci := 1) (v := .ref g3) (ty := .object "StreamNodes$Code") (C := R_Ck) (T := T_Ck) (N := 6) hx hb hG gi_Ck ty_Ck to_Ck nm_Ck hown hK hP hD hS 0 rfl rfl 2 (by decide) (hG _ fl_Ck_24) (fun _ h9 => h9) rfl hin rfl (by decide +kernel) rfl rfl (Nat.le_of_ble_eq_true rfl) d_Ck_init_24 (fun H locs hP hD hS => ?_)
  have hP : va_P D kl [(h0, .inr (1, [.ref g1, .ref g2, .ref g3, .ref q1, .int 0, .int 0])), (q1, .inl (cI, 32769, .inl (fun _ => 0)))] H := hP
  have hD : va_D A [(h0, .inr (1, [.ref g1, .ref g2, .ref g3, .ref q1, .int 0, .int 0])), (q1, .inl (cI, 32769, .inl (fun _ => 0)))] := hD
  exact W.vret hx hb hr (fun t ht hW => ⟨⟨(), rfl, trivial, q1, by rw [ht]; exact hP, hD⟩, hS.F ht⟩) hS.2.2 d_Ck_init_27

theorem d_Nr_init_0 : decode b_Nr_init 0 = .ok (.aload_n 0, 1) := by decide +kernel
theorem d_Nr_init_1 : decode b_Nr_init 1 = .ok (.invokespecial 3, 3) := by decide +kernel
theorem d_Nr_init_4 : decode b_Nr_init 4 = .ok (.aload_n 0, 1) := by decide +kernel
theorem d_Nr_init_5 : decode b_Nr_init 5 = .ok (.aload_n 1, 1) := by decide +kernel
theorem d_Nr_init_6 : decode b_Nr_init 6 = .ok (.putfield 9, 3) := by decide +kernel
theorem d_Nr_init_9 : decode b_Nr_init 9 = .ok (.aload_n 0, 1) := by decide +kernel
theorem d_Nr_init_10 : decode b_Nr_init 10 = .ok (.aload_n 2, 1) := by decide +kernel
theorem d_Nr_init_11 : decode b_Nr_init 11 = .ok (.putfield 15, 3) := by decide +kernel
theorem d_Nr_init_14 : decode b_Nr_init 14 = .ok (.aload_n 0, 1) := by decide +kernel
theorem d_Nr_init_15 : decode b_Nr_init 15 = .ok (.aload_n 3, 1) := by decide +kernel
theorem d_Nr_init_16 : decode b_Nr_init 16 = .ok (.putfield 19, 3) := by decide +kernel
theorem d_Nr_init_19 : decode b_Nr_init 19 = .ok (.aload_n 0, 1) := by decide +kernel
theorem d_Nr_init_20 : decode b_Nr_init 20 = .ok (.new 23, 3) := by decide +kernel
theorem d_Nr_init_23 : decode b_Nr_init 23 = .ok (.dup, 1) := by decide +kernel
theorem d_Nr_init_24 : decode b_Nr_init 24 = .ok (.aload_n 1, 1) := by decide +kernel
theorem d_Nr_init_25 : decode b_Nr_init 25 = .ok (.aload_n 2, 1) := by decide +kernel
theorem d_Nr_init_26 : decode b_Nr_init 26 = .ok (.aload_n 3, 1) := by decide +kernel
theorem d_Nr_init_27 : decode b_Nr_init 27 = .ok (.invokespecial 25, 3) := by decide +kernel
theorem d_Nr_init_30 : decode b_Nr_init 30 = .ok (.putfield 28, 3) := by decide +kernel
theorem d_Nr_init_33 : decode b_Nr_init 33 = .ok (.aload_n 0, 1) := by decide +kernel
theorem d_Nr_init_34 : decode b_Nr_init 34 = .ok (.new 32, 3) := by decide +kernel
theorem d_Nr_init_37 : decode b_Nr_init 37 = .ok (.dup, 1) := by decide +kernel
theorem d_Nr_init_38 : decode b_Nr_init 38 = .ok (.aload_n 1, 1) := by decide +kernel
theorem d_Nr_init_39 : decode b_Nr_init 39 = .ok (.aload_n 2, 1) := by decide +kernel
theorem d_Nr_init_40 : decode b_Nr_init 40 = .ok (.aload_n 3, 1) := by decide +kernel
theorem d_Nr_init_41 : decode b_Nr_init 41 = .ok (.invokespecial 34, 3) := by decide +kernel
theorem d_Nr_init_44 : decode b_Nr_init 44 = .ok (.putfield 35, 3) := by decide +kernel
theorem d_Nr_init_47 : decode b_Nr_init 47 = .ok (.return_, 1) := by decide +kernel
set_option maxHeartbeats 4000000 in
set_option maxRecDepth 100000 in
theorem c_Nr_init (l : Launch) (D : va_G) (cI cB cJ cZ : ClassId) (sz : Nat) (h0 g1 g2 g3 : Nat) : Met l y_Nr_init (Cond.code y_Nr_init b_Nr_init 4 none :: gG) { frames := 2, cells := 8, slots := 35350, locals := 44 } (va_Pc [.ref h0, .ref g1, .ref g2, .ref g3] (ct_P D (tyL cI cB cJ cZ) [(h0, .inr (5, [.null, .null, .null, .null, .null]))] sz)) (va_Qv (fun _ : Unit => True) (fun _ t => ∃ q1 q2 q3 q4 q5 q6 q9 q10 : Nat, va_P D kl [(h0, .inr (5, [.ref g1, .ref g2, .ref g3, .ref q1, .ref q9])), (q1, .inr (3, [.ref g1, .ref g2, .ref g3, .ref q2, .ref q3, .ref q4, .ref q5, .ref q6, .int 0, .int 0, .int 0, .int 0, .int 0, .int 0, .int 0])), (q2, .inl (cI, 512, .inl (fun _ => 0))), (q3, .inl (cI, 512, .inl (fun _ => 0))), (q4, .inl (cI, 512, .inl (fun _ => 0))), (q5, .inl (cI, 512, .inl (fun _ => 0))), (q6, .inl (cI, 512, .inl (fun _ => 0))), (q9, .inr (1, [.ref g1, .ref g2, .ref g3, .ref q10, .int 0, .int 0])), (q10, .inl (cI, 32769, .inl (fun _ => 0)))] t.heap ∧ va_D (va_A [(h0, .inr (5, [.null, .null, .null, .null, .null]))] sz) [(h0, .inr (5, [.ref g1, .ref g2, .ref g3, .ref q1, .ref q9])), (q1, .inr (3, [.ref g1, .ref g2, .ref g3, .ref q2, .ref q3, .ref q4, .ref q5, .ref q6, .int 0, .int 0, .int 0, .int 0, .int 0, .int 0, .int 0])), (q2, .inl (cI, 512, .inl (fun _ => 0))), (q3, .inl (cI, 512, .inl (fun _ => 0))), (q4, .inl (cI, 512, .inl (fun _ => 0))), (q5, .inl (cI, 512, .inl (fun _ => 0))), (q6, .inl (cI, 512, .inl (fun _ => 0))), (q9, .inr (1, [.ref g1, .ref g2, .ref g3, .ref q10, .int 0, .int 0])), (q10, .inl (cI, 32769, .inl (fun _ => 0)))]) (va_A [(h0, .inr (5, [.null, .null, .null, .null, .null]))] sz)) 8 35350 (va_A [(h0, .inr (5, [.null, .null, .null, .null, .null]))] sz) := by
  refine Met.ofW (cc := b_Nr_init) (maxL := 4) (ret := none) (by decide) rfl ?_
  intro p e s m args below meth c s₁ B hml hv
  obtain ⟨rfl, hsz, hP, hK, hD0⟩ := hv
  have hx := B.exec
  have hb := B.bytes
  have hr := B.returns
  have hts := atoms_spec (ws := Cond.code y_Nr_init b_Nr_init 4 none :: gG) B.pre
  have hG : ∀ w ∈ gG, w.before [.ref h0, .ref g1, .ref g2, .ref g3].toArray s = true := fun w h => hts w (List.mem_cons_of_mem _ h)
  have hown : s.vm.findClass R_Nr = some m.cls := findClass_of_methodNamed B.named
  have hlocks := B.notSynchronized
  have hin : meth.name = "<init>" := (name_of_methodNamed B.named B.method).1
  subst hsz
  have hD := hD0.self (sz := s.heap.size)
  generalize hAe : va_A [(h0, .inr (5, [.null, .null, .null, .null, .null]))] s.heap.size = A at hD ⊢
  have hA : ∀ q : Nat, s.heap.size ≤ q → A q := fun q h => by rw [← hAe]; exact Or.inr h
  have hS : va_S A s.heap s.heap [] := va_S.rf
  have hl := lv_entry ([.ref h0, .ref g1, .ref g2, .ref g3]) (n := 4) (Nat.le_of_ble_eq_true rfl)
  rw [lg_entry_eq]
  generalize (lg_sl ([.ref h0, .ref g1, .ref g2, .ref g3]) ++ List.replicate (4 - (lg_sl ([.ref h0, .ref g1, .ref g2, .ref g3])).length) Slot.unset).toArray = ls at hl ⊢
  have hl : lv_has ls 4 [(0, .ref h0), (1, .ref g1), (2, .ref g2), (3, .ref g3)] := hl
  refine lv_aload_n hx hb d_Nr_init_0 rfl (lv_at hl 0 rfl) ?_
  refine W.objInit hx hb hown (hG _ ml_Nr_3) (hG _ im_java_lang_Object_init) (hG _ co_java_lang_Object_init) rfl (by rw [hml]; exact hl.1) rfl d_Nr_init_1 (Nat.le_of_ble_eq_true rfl) (Nat.le_of_ble_eq_true rfl) ?_
  refine W.eq (g2 := F0 m 4 ls []) rfl ?_
  refine lv_aload_n hx hb d_Nr_init_4 rfl (lv_at hl 0 rfl) ?_
  refine lv_aload_n hx hb d_Nr_init_5 rfl (lv_at hl 1 rfl) ?_
  refine va_putF (D := D) (ci := 5) (v := .ref g1) (ty := .object "StreamNodes$Tokens") (C := R_Nr) (T := T_Nr) (N := 5) hx hb hG gi_Nr ty_Nr to_Nr nm_Nr hown hK hP hD hS 0 rfl rfl 0 (by decide) (hG _ fl_Nr_9) (fun _ h9 => h9) rfl hin rfl (by decide +kernel) rfl rfl (Nat.le_of_ble_eq_true rfl) d_Nr_init_6 (fun H locs hP hD hS => ?_)
  have hP : va_P D kl [(h0, .inr (5, [.ref g1, .null, .null, .null, .null]))] H := hP
  have hD : va_D A [(h0, .inr (5, [.ref g1, .null, .null, .null, .null]))] := hD
  refine lv_aload_n hx hb d_Nr_init_9 rfl (lv_at hl 0 rfl) ?_
  refine lv_aload_n hx hb d_Nr_init_10 rfl (lv_at hl 2 rfl) ?_
  refine va_putF (D := D) (ci := 5) (v := .ref g2) (ty := .object "StreamNodes$Nodes") (C := R_Nr) (T := T_Nr) (N := 5) hx hb hG gi_Nr ty_Nr to_Nr nm_Nr hown hK hP hD hS 0 rfl rfl 1 (by decide) (hG _ fl_Nr_15) (fun _ h9 => h9) rfl hin rfl (by decide +kernel) rfl rfl (Nat.le_of_ble_eq_true rfl) d_Nr_init_11 (fun H locs hP hD hS => ?_)
  have hP : va_P D kl [(h0, .inr (5, [.ref g1, .ref g2, .null, .null, .null]))] H := hP
  have hD : va_D A [(h0, .inr (5, [.ref g1, .ref g2, .null, .null, .null]))] := hD
  refine lv_aload_n hx hb d_Nr_init_14 rfl (lv_at hl 0 rfl) ?_
  refine lv_aload_n hx hb d_Nr_init_15 rfl (lv_at hl 3 rfl) ?_
  refine va_putF (D := D) (ci := 5) (v := .ref g3) (ty := .object "StreamNodes$Code") (C := R_Nr) (T := T_Nr) (N := 5) hx hb hG gi_Nr ty_Nr to_Nr nm_Nr hown hK hP hD hS 0 rfl rfl 2 (by decide) (hG _ fl_Nr_19) (fun _ h9 => h9) rfl hin rfl (by decide +kernel) rfl rfl (Nat.le_of_ble_eq_true rfl) d_Nr_init_16 (fun H locs hP hD hS => ?_)
  have hP : va_P D kl [(h0, .inr (5, [.ref g1, .ref g2, .ref g3, .null, .null]))] H := hP
  have hD : va_D A [(h0, .inr (5, [.ref g1, .ref g2, .ref g3, .null, .null]))] := hD
  refine lv_aload_n hx hb d_Nr_init_19 rfl (lv_at hl 0 rfl) ?_
  refine va_new (ci := 3) (fs := [.null, .null, .null, .null, .null, .null, .null, .null, .int 0, .int 0, .int 0, .int 0, .int 0, .int 0, .int 0]) (C := R_Er) (T := T_Er) (N := 15) hx hb hG gi_Er ty_Er to_Er hown (hG _ cl_Nr_23) (hG _ ia_Er) (hG _ in_Er) hK hP hD hS hA rfl (fun j hj => by rcases (show j = 0 ∨ j = 1 ∨ j = 2 ∨ j = 3 ∨ j = 4 ∨ j = 5 ∨ j = 6 ∨ j = 7 ∨ j = 8 ∨ j = 9 ∨ j = 10 ∨ j = 11 ∨ j = 12 ∨ j = 13 ∨ j = 14 by omega) with rfl | rfl | rfl | rfl | rfl | rfl | rfl | rfl | rfl | rfl | rfl | rfl | rfl | rfl | rfl <;> rfl) (Nat.le_of_ble_eq_true rfl) (Nat.le_of_ble_eq_true rfl) d_Nr_init_20 (fun q1 H hP hD hS => ?_)
  have hP : va_P D kl [(h0, .inr (5, [.ref g1, .ref g2, .ref g3, .null, .null])), (q1, .inr (3, [.null, .null, .null, .null, .null, .null, .null, .null, .int 0, .int 0, .int 0, .int 0, .int 0, .int 0, .int 0]))] H := hP
  have hD : va_D A [(h0, .inr (5, [.ref g1, .ref g2, .ref g3, .null, .null])), (q1, .inr (3, [.null, .null, .null, .null, .null, .null, .null, .null, .int 0, .int 0, .int 0, .int 0, .int 0, .int 0, .int 0]))] := hD
  refine W.widen (k := 1) (n := 15) (Nat.le_of_ble_eq_true rfl) (Nat.le_of_ble_eq_true rfl) ?_
  refine lv_dup hx hb d_Nr_init_23 rfl ?_
  refine lv_aload_n hx hb d_Nr_init_24 rfl (lv_at hl 1 rfl) ?_
  refine lv_aload_n hx hb d_Nr_init_25 rfl (lv_at hl 2 rfl) ?_
  refine lv_aload_n hx hb d_Nr_init_26 rfl (lv_at hl 3 rfl) ?_
  have hPc := hP.sub (ws' := [(q1, .inr (3, [.null, .null, .null, .null, .null, .null, .null, .null, .int 0, .int 0, .int 0, .int 0, .int 0, .int 0, .int 0]))]) [1] rfl
  have hDc := hD.sub (ws' := [(q1, .inr (3, [.null, .null, .null, .null, .null, .null, .null, .null, .int 0, .int 0, .int 0, .int 0, .int 0, .int 0, .int 0]))]) [1] (by decide) rfl
  have hFc := va_free (wc := [(q1, .inr (3, [.null, .null, .null, .null, .null, .null, .null, .null, .int 0, .int 0, .int 0, .int 0, .int 0, .int 0, .int 0]))]) hD hS hA [1] rfl
  refine va_callv (va_runI (As := [.ref g1, .ref g2, .ref g3]) (rest := [.ref q1, .ref h0]) ⟨hx, hb, hml, hown, hG⟩ (c_Er_init l D cI cB cJ cZ H.size q1 g1 g2 g3) (gcI 3 gG_good hG ml_Nr_25 im_Er_init in_Er co_Er_init rfl rfl rfl (by decide +kernel) ⟨(Nat.le_of_ble_eq_true rfl), (Nat.le_of_ble_eq_true rfl)⟩) (ct_pre hPc hK hDc) rfl rfl hl.1 rfl (lv_room (Nat.le_of_ble_eq_true rfl)) d_Nr_init_27 ⟨(Nat.le_of_ble_eq_true rfl), (Nat.le_of_ble_eq_true rfl)⟩) hS (fun q _ h => hFc q h) hFc (fun _ t H1 locs ht hvm hw hB hz1 hk1 hS => ?_)
  obtain ⟨q2, q3, q4, q5, q6, hP1, hD1⟩ := hB
  rw [ht] at hP1
  obtain ⟨hP, hD⟩ := va_join (wr := [(h0, .inr (5, [.ref g1, .ref g2, .ref g3, .null, .null]))]) (w1 := [(q1, .inr (3, [.ref g1, .ref g2, .ref g3, .ref q2, .ref q3, .ref q4, .ref q5, .ref q6, .int 0, .int 0, .int 0, .int 0, .int 0, .int 0, .int 0])), (q2, .inl (cI, 512, .inl (fun _ => 0))), (q3, .inl (cI, 512, .inl (fun _ => 0))), (q4, .inl (cI, 512, .inl (fun _ => 0))), (q5, .inl (cI, 512, .inl (fun _ => 0))), (q6, .inl (cI, 512, .inl (fun _ => 0)))]) hP hD [1] [0] rfl rfl (by decide) (by decide) hk1 hFc hP1 hD1
  generalize H1 = H at hP hS ⊢
  have hP : va_P D kl [(h0, .inr (5, [.ref g1, .ref g2, .ref g3, .null, .null])), (q1, .inr (3, [.ref g1, .ref g2, .ref g3, .ref q2, .ref q3, .ref q4, .ref q5, .ref q6, .int 0, .int 0, .int 0, .int 0, .int 0, .int 0, .int 0])), (q2, .inl (cI, 512, .inl (fun _ => 0))), (q3, .inl (cI, 512, .inl (fun _ => 0))), (q4, .inl (cI, 512, .inl (fun _ => 0))), (q5, .inl (cI, 512, .inl (fun _ => 0))), (q6, .inl (cI, 512, .inl (fun _ => 0)))] H := hP
  have hD : va_D A [(h0, .inr (5, [.ref g1, .ref g2, .ref g3, .null, .null])), (q1, .inr (3, [.ref g1, .ref g2, .ref g3, .ref q2, .ref q3, .ref q4, .ref q5, .ref q6, .int 0, .int 0, .int 0, .int 0, .int 0, .int 0, .int 0])), (q2, .inl (cI, 512, .inl (fun _ => 0))), (q3, .inl (cI, 512, .inl (fun _ => 0))), (q4, .inl (cI, 512, .inl (fun _ => 0))), (q5, .inl (cI, 512, .inl (fun _ => 0))), (q6, .inl (cI, 512, .inl (fun _ => 0)))] := hD
  refine W.widen (k := 6) (n := 2575) (Nat.le_of_ble_eq_true rfl) (Nat.le_of_ble_eq_true rfl) ?_
  refine va_putF (D := D) (ci := 5) (v := .ref q1) (ty := .object "StreamNodes$ExpressionReader") (C := R_Nr) (T := T_Nr) (N := 5) hx hb hG gi_Nr ty_Nr to_Nr nm_Nr hown hK hP hD hS 0 rfl rfl 3 (by decide) (hG _ fl_Nr_28) (fun _ h9 => h9) rfl hin rfl (by decide +kernel) rfl rfl (Nat.le_of_ble_eq_true rfl) d_Nr_init_30 (fun H locs hP hD hS => ?_)
  have hP : va_P D kl [(h0, .inr (5, [.ref g1, .ref g2, .ref g3, .ref q1, .null])), (q1, .inr (3, [.ref g1, .ref g2, .ref g3, .ref q2, .ref q3, .ref q4, .ref q5, .ref q6, .int 0, .int 0, .int 0, .int 0, .int 0, .int 0, .int 0])), (q2, .inl (cI, 512, .inl (fun _ => 0))), (q3, .inl (cI, 512, .inl (fun _ => 0))), (q4, .inl (cI, 512, .inl (fun _ => 0))), (q5, .inl (cI, 512, .inl (fun _ => 0))), (q6, .inl (cI, 512, .inl (fun _ => 0)))] H := hP
  have hD : va_D A [(h0, .inr (5, [.ref g1, .ref g2, .ref g3, .ref q1, .null])), (q1, .inr (3, [.ref g1, .ref g2, .ref g3, .ref q2, .ref q3, .ref q4, .ref q5, .ref q6, .int 0, .int 0, .int 0, .int 0, .int 0, .int 0, .int 0])), (q2, .inl (cI, 512, .inl (fun _ => 0))), (q3, .inl (cI, 512, .inl (fun _ => 0))), (q4, .inl (cI, 512, .inl (fun _ => 0))), (q5, .inl (cI, 512, .inl (fun _ => 0))), (q6, .inl (cI, 512, .inl (fun _ => 0)))] := hD
  refine lv_aload_n hx hb d_Nr_init_33 rfl (lv_at hl 0 rfl) ?_
  refine va_new (ci := 1) (fs := [.null, .null, .null, .null, .int 0, .int 0]) (C := R_Ck) (T := T_Ck) (N := 6) hx hb hG gi_Ck ty_Ck to_Ck hown (hG _ cl_Nr_32) (hG _ ia_Ck) (hG _ in_Ck) hK hP hD hS hA rfl (fun j hj => by rcases (show j = 0 ∨ j = 1 ∨ j = 2 ∨ j = 3 ∨ j = 4 ∨ j = 5 by omega) with rfl | rfl | rfl | rfl | rfl | rfl <;> rfl) (Nat.le_of_ble_eq_true rfl) (Nat.le_of_ble_eq_true rfl) d_Nr_init_34 (fun q9 H hP hD hS => ?_)
  have hP : va_P D kl [(h0, .inr (5, [.ref g1, .ref g2, .ref g3, .ref q1, .null])), (q1, .inr (3, [.ref g1, .ref g2, .ref g3, .ref q2, .ref q3, .ref q4, .ref q5, .ref q6, .int 0, .int 0, .int 0, .int 0, .int 0, .int 0, .int 0])), (q2, .inl (cI, 512, .inl (fun _ => 0))), (q3, .inl (cI, 512, .inl (fun _ => 0))), (q4, .inl (cI, 512, .inl (fun _ => 0))), (q5, .inl (cI, 512, .inl (fun _ => 0))), (q6, .inl (cI, 512, .inl (fun _ => 0))), (q9, .inr (1, [.null, .null, .null, .null, .int 0, .int 0]))] H := hP
  have hD : va_D A [(h0, .inr (5, [.ref g1, .ref g2, .ref g3, .ref q1, .null])), (q1, .inr (3, [.ref g1, .ref g2, .ref g3, .ref q2, .ref q3, .ref q4, .ref q5, .ref q6, .int 0, .int 0, .int 0, .int 0, .int 0, .int 0, .int 0])), (q2, .inl (cI, 512, .inl (fun _ => 0))), (q3, .inl (cI, 512, .inl (fun _ => 0))), (q4, .inl (cI, 512, .inl (fun _ => 0))), (q5, .inl (cI, 512, .inl (fun _ => 0))), (q6, .inl (cI, 512, .inl (fun _ => 0))), (q9, .inr (1, [.null, .null, .null, .null, .int 0, .int 0]))] := hD
  refine W.widen (k := 7) (n := 2581) (Nat.le_of_ble_eq_true rfl) (Nat.le_of_ble_eq_true rfl) ?_
  refine lv_dup hx hb d_Nr_init_37 rfl ?_
  refine lv_aload_n hx hb d_Nr_init_38 rfl (lv_at hl 1 rfl) ?_
  refine lv_aload_n hx hb d_Nr_init_39 rfl (lv_at hl 2 rfl) ?_
  refine lv_aload_n hx hb d_Nr_init_40 rfl (lv_at hl 3 rfl) ?_
  have hPc := hP.sub (ws' := [(q9, .inr (1, [.null, .null, .null, .null, .int 0, .int 0]))]) [7] rfl
  have hDc := hD.sub (ws' := [(q9, .inr (1, [.null, .null, .null, .null, .int 0, .int 0]))]) [7] (by decide) rfl
  have hFc := va_free (wc := [(q9, .inr (1, [.null, .null, .null, .null, .int 0, .int 0]))]) hD hS hA [7] rfl
  refine va_callv (va_runI (As := [.ref g1, .ref g2, .ref g3]) (rest := [.ref q9, .ref h0]) ⟨hx, hb, hml, hown, hG⟩ (c_Ck_init l D cI cB cJ cZ H.size q9 g1 g2 g3) (gcI 3 gG_good hG ml_Nr_34 im_Ck_init in_Ck co_Ck_init rfl rfl rfl (by decide +kernel) ⟨(Nat.le_of_ble_eq_true rfl), (Nat.le_of_ble_eq_true rfl)⟩) (ct_pre hPc hK hDc) rfl rfl hl.1 rfl (lv_room (Nat.le_of_ble_eq_true rfl)) d_Nr_init_41 ⟨(Nat.le_of_ble_eq_true rfl), (Nat.le_of_ble_eq_true rfl)⟩) hS (fun q _ h => hFc q h) hFc (fun _ t H1 locs ht hvm hw hB hz1 hk1 hS => ?_)
  obtain ⟨q10, hP1, hD1⟩ := hB
  rw [ht] at hP1
  obtain ⟨hP, hD⟩ := va_join (wr := [(h0, .inr (5, [.ref g1, .ref g2, .ref g3, .ref q1, .null])), (q1, .inr (3, [.ref g1, .ref g2, .ref g3, .ref q2, .ref q3, .ref q4, .ref q5, .ref q6, .int 0, .int 0, .int 0, .int 0, .int 0, .int 0, .int 0])), (q2, .inl (cI, 512, .inl (fun _ => 0))), (q3, .inl (cI, 512, .inl (fun _ => 0))), (q4, .inl (cI, 512, .inl (fun _ => 0))), (q5, .inl (cI, 512, .inl (fun _ => 0))), (q6, .inl (cI, 512, .inl (fun _ => 0)))]) (w1 := [(q9, .inr (1, [.ref g1, .ref g2, .ref g3, .ref q10, .int 0, .int 0])), (q10, .inl (cI, 32769, .inl (fun _ => 0)))]) hP hD [7] [0, 1, 2, 3, 4, 5, 6] rfl rfl (by decide) (by decide) hk1 hFc hP1 hD1
  generalize H1 = H at hP hS ⊢
  have hP : va_P D kl [(h0, .inr (5, [.ref g1, .ref g2, .ref g3, .ref q1, .null])), (q1, .inr (3, [.ref g1, .ref g2, .ref g3, .ref q2, .ref q3, .ref q4, .ref q5, .ref q6, .int 0, .int 0, .int 0, .int 0, .int 0, .int 0, .int 0])), (q2, .inl (cI, 512, .inl (fun _ => 0))), (q3, .inl (cI, 512, .inl (fun _ => 0))), (q4, .inl (cI, 512, .inl (fun _ => 0))), (q5, .inl (cI, 512, .inl (fun _ => 0))), (q6, .inl (cI, 512, .inl (fun _ => 0))), (q9, .inr (1, [.ref g1, .ref g2, .ref g3, .ref q10, .int 0, .int 0])), (q10, .inl (cI, 32769, .inl (fun _ => 0)))] H := hP
  have hD : va_D A [(h0, .inr (5, [.ref g1, .ref g2, .ref g3, .ref q1, .null])), (q1, .inr (3, [.ref g1, .ref g2, .ref g3, .ref q2, .ref q3, .ref q4, .ref q5, .ref q6, .int 0, .int 0, .int 0, .int 0, .int 0, .int 0, .int 0])), (q2, .inl (cI, 512, .inl (fun _ => 0))), (q3, .inl (cI, 512, .inl (fun _ => 0))), (q4, .inl (cI, 512, .inl (fun _ => 0))), (q5, .inl (cI, 512, .inl (fun _ => 0))), (q6, .inl (cI, 512, .inl (fun _ => 0))), (q9, .inr (1, [.ref g1, .ref g2, .ref g3, .ref q10, .int 0, .int 0])), (q10, .inl (cI, 32769, .inl (fun _ => 0)))] := hD
  refine W.widen (k := 8) (n := 35350) (Nat.le_of_ble_eq_true rfl) (Nat.le_of_ble_eq_true rfl) ?_
  refine va_putF (D := D) (ci := 5) (v := .ref q9) (ty := .object "StreamNodes$Checker") (C := R_Nr) (T := T_Nr) (N := 5) hx hb hG gi_Nr ty_Nr to_Nr nm_Nr hown hK hP hD hS 0 rfl rfl 4 (by decide) (hG _ fl_Nr_35) (fun _ h9 => h9) rfl hin rfl (by decide +kernel) rfl rfl (Nat.le_of_ble_eq_true rfl) d_Nr_init_44 (fun H locs hP hD hS => ?_)
  have hP : va_P D kl [(h0, .inr (5, [.ref g1, .ref g2, .ref g3, .ref q1, .ref q9])), (q1, .inr (3, [.ref g1, .ref g2, .ref g3, .ref q2, .ref q3, .ref q4, .ref q5, .ref q6, .int 0, .int 0, .int 0, .int 0, .int 0, .int 0, .int 0])), (q2, .inl (cI, 512, .inl (fun _ => 0))), (q3, .inl (cI, 512, .inl (fun _ => 0))), (q4, .inl (cI, 512, .inl (fun _ => 0))), (q5, .inl (cI, 512, .inl (fun _ => 0))), (q6, .inl (cI, 512, .inl (fun _ => 0))), (q9, .inr (1, [.ref g1, .ref g2, .ref g3, .ref q10, .int 0, .int 0])), (q10, .inl (cI, 32769, .inl (fun _ => 0)))] H := hP
  have hD : va_D A [(h0, .inr (5, [.ref g1, .ref g2, .ref g3, .ref q1, .ref q9])), (q1, .inr (3, [.ref g1, .ref g2, .ref g3, .ref q2, .ref q3, .ref q4, .ref q5, .ref q6, .int 0, .int 0, .int 0, .int 0, .int 0, .int 0, .int 0])), (q2, .inl (cI, 512, .inl (fun _ => 0))), (q3, .inl (cI, 512, .inl (fun _ => 0))), (q4, .inl (cI, 512, .inl (fun _ => 0))), (q5, .inl (cI, 512, .inl (fun _ => 0))), (q6, .inl (cI, 512, .inl (fun _ => 0))), (q9, .inr (1, [.ref g1, .ref g2, .ref g3, .ref q10, .int 0, .int 0])), (q10, .inl (cI, 32769, .inl (fun _ => 0)))] := hD
  exact W.vret hx hb hr (fun t ht hW => ⟨⟨(), rfl, trivial, q1, q2, q3, q4, q5, q6, q9, q10, by rw [ht]; exact hP, hD⟩, hS.F ht⟩) hS.2.2 d_Nr_init_47

theorem d_Sl_init_0 : decode b_Sl_init 0 = .ok (.aload_n 0, 1) := by decide +kernel
theorem d_Sl_init_1 : decode b_Sl_init 1 = .ok (.invokespecial 3, 3) := by decide +kernel
theorem d_Sl_init_4 : decode b_Sl_init 4 = .ok (.aload_n 0, 1) := by decide +kernel
theorem d_Sl_init_5 : decode b_Sl_init 5 = .ok (.sipush 9001, 3) := by decide +kernel
theorem d_Sl_init_8 : decode b_Sl_init 8 = .ok (.newarray .int, 2) := by decide +kernel
theorem d_Sl_init_10 : decode b_Sl_init 10 = .ok (.putfield 9, 3) := by decide +kernel
theorem d_Sl_init_13 : decode b_Sl_init 13 = .ok (.aload_n 0, 1) := by decide +kernel
theorem d_Sl_init_14 : decode b_Sl_init 14 = .ok (.sipush 9001, 3) := by decide +kernel
theorem d_Sl_init_17 : decode b_Sl_init 17 = .ok (.newarray .int, 2) := by decide +kernel
theorem d_Sl_init_19 : decode b_Sl_init 19 = .ok (.putfield 15, 3) := by decide +kernel
theorem d_Sl_init_22 : decode b_Sl_init 22 = .ok (.aload_n 0, 1) := by decide +kernel
theorem d_Sl_init_23 : decode b_Sl_init 23 = .ok (.sipush 9001, 3) := by decide +kernel
theorem d_Sl_init_26 : decode b_Sl_init 26 = .ok (.newarray .int, 2) := by decide +kernel
theorem d_Sl_init_28 : decode b_Sl_init 28 = .ok (.putfield 18, 3) := by decide +kernel
theorem d_Sl_init_31 : decode b_Sl_init 31 = .ok (.aload_n 0, 1) := by decide +kernel
theorem d_Sl_init_32 : decode b_Sl_init 32 = .ok (.sipush 9001, 3) := by decide +kernel
theorem d_Sl_init_35 : decode b_Sl_init 35 = .ok (.newarray .int, 2) := by decide +kernel
theorem d_Sl_init_37 : decode b_Sl_init 37 = .ok (.putfield 21, 3) := by decide +kernel
theorem d_Sl_init_40 : decode b_Sl_init 40 = .ok (.aload_n 0, 1) := by decide +kernel
theorem d_Sl_init_41 : decode b_Sl_init 41 = .ok (.sipush 9001, 3) := by decide +kernel
theorem d_Sl_init_44 : decode b_Sl_init 44 = .ok (.newarray .int, 2) := by decide +kernel
theorem d_Sl_init_46 : decode b_Sl_init 46 = .ok (.putfield 24, 3) := by decide +kernel
theorem d_Sl_init_49 : decode b_Sl_init 49 = .ok (.aload_n 0, 1) := by decide +kernel
theorem d_Sl_init_50 : decode b_Sl_init 50 = .ok (.sipush 6000, 3) := by decide +kernel
theorem d_Sl_init_53 : decode b_Sl_init 53 = .ok (.newarray .int, 2) := by decide +kernel
theorem d_Sl_init_55 : decode b_Sl_init 55 = .ok (.putfield 27, 3) := by decide +kernel
theorem d_Sl_init_58 : decode b_Sl_init 58 = .ok (.aload_n 0, 1) := by decide +kernel
theorem d_Sl_init_59 : decode b_Sl_init 59 = .ok (.sipush 6000, 3) := by decide +kernel
theorem d_Sl_init_62 : decode b_Sl_init 62 = .ok (.newarray .int, 2) := by decide +kernel
theorem d_Sl_init_64 : decode b_Sl_init 64 = .ok (.putfield 30, 3) := by decide +kernel
theorem d_Sl_init_67 : decode b_Sl_init 67 = .ok (.aload_n 0, 1) := by decide +kernel
theorem d_Sl_init_68 : decode b_Sl_init 68 = .ok (.sipush 6000, 3) := by decide +kernel
theorem d_Sl_init_71 : decode b_Sl_init 71 = .ok (.newarray .int, 2) := by decide +kernel
theorem d_Sl_init_73 : decode b_Sl_init 73 = .ok (.putfield 33, 3) := by decide +kernel
theorem d_Sl_init_76 : decode b_Sl_init 76 = .ok (.aload_n 0, 1) := by decide +kernel
theorem d_Sl_init_77 : decode b_Sl_init 77 = .ok (.sipush 6000, 3) := by decide +kernel
theorem d_Sl_init_80 : decode b_Sl_init 80 = .ok (.newarray .int, 2) := by decide +kernel
theorem d_Sl_init_82 : decode b_Sl_init 82 = .ok (.putfield 36, 3) := by decide +kernel
theorem d_Sl_init_85 : decode b_Sl_init 85 = .ok (.return_, 1) := by decide +kernel
set_option maxHeartbeats 4000000 in
set_option maxRecDepth 100000 in
theorem c_Sl_init (l : Launch) (D : va_G) (cI cB cJ cZ : ClassId) (sz : Nat) (h0 : Nat) : Met l y_Sl_init (Cond.code y_Sl_init b_Sl_init 1 none :: gG) { frames := 1, cells := 9, slots := 69005, locals := 12 } (va_Pc [.ref h0] (ct_P D (tyL cI cB cJ cZ) [(h0, .inr (9, [.null, .null, .null, .null, .null, .int 0, .null, .null, .int 0, .null, .null, .int 0]))] sz)) (va_Qv (fun _ : Unit => True) (fun _ t => ∃ q1 q2 q3 q4 q5 q6 q7 q8 q9 : Nat, va_P D kl [(h0, .inr (9, [.ref q1, .ref q2, .ref q3, .ref q4, .ref q5, .int 0, .ref q6, .ref q7, .int 0, .ref q8, .ref q9, .int 0])), (q1, .inl (cI, 9001, .inl (fun _ => 0))), (q2, .inl (cI, 9001, .inl (fun _ => 0))), (q3, .inl (cI, 9001, .inl (fun _ => 0))), (q4, .inl (cI, 9001, .inl (fun _ => 0))), (q5, .inl (cI, 9001, .inl (fun _ => 0))), (q6, .inl (cI, 6000, .inl (fun _ => 0))), (q7, .inl (cI, 6000, .inl (fun _ => 0))), (q8, .inl (cI, 6000, .inl (fun _ => 0))), (q9, .inl (cI, 6000, .inl (fun _ => 0)))] t.heap ∧ va_D (va_A [(h0, .inr (9, [.null, .null, .null, .null, .null, .int 0, .null, .null, .int 0, .null, .null, .int 0]))] sz) [(h0, .inr (9, [.ref q1, .ref q2, .ref q3, .ref q4, .ref q5, .int 0, .ref q6, .ref q7, .int 0, .ref q8, .ref q9, .int 0])), (q1, .inl (cI, 9001, .inl (fun _ => 0))), (q2, .inl (cI, 9001, .inl (fun _ => 0))), (q3, .inl (cI, 9001, .inl (fun _ => 0))), (q4, .inl (cI, 9001, .inl (fun _ => 0))), (q5, .inl (cI, 9001, .inl (fun _ => 0))), (q6, .inl (cI, 6000, .inl (fun _ => 0))), (q7, .inl (cI, 6000, .inl (fun _ => 0))), (q8, .inl (cI, 6000, .inl (fun _ => 0))), (q9, .inl (cI, 6000, .inl (fun _ => 0)))]) (va_A [(h0, .inr (9, [.null, .null, .null, .null, .null, .int 0, .null, .null, .int 0, .null, .null, .int 0]))] sz)) 9 69005 (va_A [(h0, .inr (9, [.null, .null, .null, .null, .null, .int 0, .null, .null, .int 0, .null, .null, .int 0]))] sz) := by
  refine Met.ofW (cc := b_Sl_init) (maxL := 1) (ret := none) (by decide) rfl ?_
  intro p e s m args below meth c s₁ B hml hv
  obtain ⟨rfl, hsz, hP, hK, hD0⟩ := hv
  have hx := B.exec
  have hb := B.bytes
  have hr := B.returns
  have hts := atoms_spec (ws := Cond.code y_Sl_init b_Sl_init 1 none :: gG) B.pre
  have hG : ∀ w ∈ gG, w.before [.ref h0].toArray s = true := fun w h => hts w (List.mem_cons_of_mem _ h)
  have hown : s.vm.findClass R_Sl = some m.cls := findClass_of_methodNamed B.named
  have hlocks := B.notSynchronized
  have hin : meth.name = "<init>" := (name_of_methodNamed B.named B.method).1
  subst hsz
  have hD := hD0.self (sz := s.heap.size)
  generalize hAe : va_A [(h0, .inr (9, [.null, .null, .null, .null, .null, .int 0, .null, .null, .int 0, .null, .null, .int 0]))] s.heap.size = A at hD ⊢
  have hA : ∀ q : Nat, s.heap.size ≤ q → A q := fun q h => by rw [← hAe]; exact Or.inr h
  have hS : va_S A s.heap s.heap [] := va_S.rf
  have hl := lv_entry ([.ref h0]) (n := 1) (Nat.le_of_ble_eq_true rfl)
  rw [lg_entry_eq]
  generalize (lg_sl ([.ref h0]) ++ List.replicate (1 - (lg_sl ([.ref h0])).length) Slot.unset).toArray = ls at hl ⊢
  have hl : lv_has ls 1 [(0, .ref h0)] := hl
  refine lv_aload_n hx hb d_Sl_init_0 rfl (lv_at hl 0 rfl) ?_
  refine W.objInit hx hb hown (hG _ ml_Sl_3) (hG _ im_java_lang_Object_init) (hG _ co_java_lang_Object_init) rfl (by rw [hml]; exact hl.1) rfl d_Sl_init_1 (Nat.le_of_ble_eq_true rfl) (Nat.le_of_ble_eq_true rfl) ?_
  refine W.eq (g2 := F0 m 4 ls []) rfl ?_
  refine lv_aload_n hx hb d_Sl_init_4 rfl (lv_at hl 0 rfl) ?_
  refine lv_sipush (v := 9001) hx hb d_Sl_init_5 (by decide) ?_
  refine ra_new (atype := .int) (D := D) hx hb (hG _ ac_int) rfl (fun _ h => by cases h) hK hP hD hS hA 0 rfl (9001, .inl (fun _ => 0)) (fun _ => rfl) (by decide +kernel) (by decide +kernel) (Nat.le_of_ble_eq_true rfl) (Nat.le_of_ble_eq_true rfl) (Nat.le_of_ble_eq_true rfl) d_Sl_init_8 (fun q1 H hP hD hS => ?_)
  have hP : va_P D kl [(h0, .inr (9, [.null, .null, .null, .null, .null, .int 0, .null, .null, .int 0, .null, .null, .int 0])), (q1, .inl (cI, 9001, .inl (fun _ => 0)))] H := hP
  have hD : va_D A [(h0, .inr (9, [.null, .null, .null, .null, .null, .int 0, .null, .null, .int 0, .null, .null, .int 0])), (q1, .inl (cI, 9001, .inl (fun _ => 0)))] := hD
  refine W.widen (k := 1) (n := 9001) (Nat.le_of_ble_eq_true rfl) (Nat.le_of_ble_eq_true rfl) ?_
  refine va_putF (D := D) (ci := 9) (v := .ref q1) (ty := .array .int) (C := R_Sl) (T := T_Sl) (N := 12) hx hb hG gi_Sl ty_Sl to_Sl nm_Sl hown hK hP hD hS 0 rfl rfl 0 (by decide) (hG _ fl_Sl_9) (fun _ h9 => h9) rfl hin rfl (by decide +kernel) rfl rfl (Nat.le_of_ble_eq_true rfl) d_Sl_init_10 (fun H locs hP hD hS => ?_)
  have hP : va_P D kl [(h0, .inr (9, [.ref q1, .null, .null, .null, .null, .int 0, .null, .null, .int 0, .null, .null, .int 0])), (q1, .inl (cI, 9001, .inl (fun _ => 0)))] H := hP
  have hD : va_D A [(h0, .inr (9, [.ref q1, .null, .null, .null, .null, .int 0, .null, .null, .int 0, .null, .null, .int 0])), (q1, .inl (cI, 9001, .inl (fun _ => 0)))] := hD
  refine lv_aload_n hx hb d_Sl_init_13 rfl (lv_at hl 0 rfl) ?_
  refine lv_sipush (v := 9001) hx hb d_Sl_init_14 (by decide) ?_
  refine ra_new (atype := .int) (D := D) hx hb (hG _ ac_int) rfl (fun _ h => by cases h) hK hP hD hS hA 0 rfl (9001, .inl (fun _ => 0)) (fun _ => rfl) (by decide +kernel) (by decide +kernel) (Nat.le_of_ble_eq_true rfl) (Nat.le_of_ble_eq_true rfl) (Nat.le_of_ble_eq_true rfl) d_Sl_init_17 (fun q2 H hP hD hS => ?_)
  have hP : va_P D kl [(h0, .inr (9, [.ref q1, .null, .null, .null, .null, .int 0, .null, .null, .int 0, .null, .null, .int 0])), (q1, .inl (cI, 9001, .inl (fun _ => 0))), (q2, .inl (cI, 9001, .inl (fun _ => 0)))] H := hP
  have hD : va_D A [(h0, .inr (9, [.ref q1, .null, .null, .null, .null, .int 0, .null, .null, .int 0, .null, .null, .int 0])), (q1, .inl (cI, 9001, .inl (fun _ => 0))), (q2, .inl (cI, 9001, .inl (fun _ => 0)))] := hD
  refine W.widen (k := 2) (n := 18002) (Nat.le_of_ble_eq_true rfl) (Nat.le_of_ble_eq_true rfl) ?_
  refine va_putF (D := D) (ci := 9) (v := .ref q2) (ty := .array .int) (C := R_Sl) (T := T_Sl) (N := 12) hx hb hG gi_Sl ty_Sl to_Sl nm_Sl hown hK hP hD hS 0 rfl rfl 1 (by decide) (hG _ fl_Sl_15) (fun _ h9 => h9) rfl hin rfl (by decide +kernel) rfl rfl (Nat.le_of_ble_eq_true rfl) d_Sl_init_19 (fun H locs hP hD hS => ?_)
  have hP : va_P D kl [(h0, .inr (9, [.ref q1, .ref q2, .null, .null, .null, .int 0, .null, .null, .int 0, .null, .null, .int 0])), (q1, .inl (cI, 9001, .inl (fun _ => 0))), (q2, .inl (cI, 9001, .inl (fun _ => 0)))] H := hP
  have hD : va_D A [(h0, .inr (9, [.ref q1, .ref q2, .null, .null, .null, .int 0, .null, .null, .int 0, .null, .null, .int 0])), (q1, .inl (cI, 9001, .inl (fun _ => 0))), (q2, .inl (cI, 9001, .inl (fun _ => 0)))] := hD
  refine lv_aload_n hx hb d_Sl_init_22 rfl (lv_at hl 0 rfl) ?_
  refine lv_sipush (v := 9001) hx hb d_Sl_init_23 (by decide) ?_
  refine ra_new (atype := .int) (D := D) hx hb (hG _ ac_int) rfl (fun _ h => by cases h) hK hP hD hS hA 0 rfl (9001, .inl (fun _ => 0)) (fun _ => rfl) (by decide +kernel) (by decide +kernel) (Nat.le_of_ble_eq_true rfl) (Nat.le_of_ble_eq_true rfl) (Nat.le_of_ble_eq_true rfl) d_Sl_init_26 (fun q3 H hP hD hS => ?_)
  have hP : va_P D kl [(h0, .inr (9, [.ref q1, .ref q2, .null, .null, .null, .int 0, .null, .null, .int 0, .null, .null, .int 0])), (q1, .inl (cI, 9001, .inl (fun _ => 0))), (q2, .inl (cI, 9001, .inl (fun _ => 0))), (q3, .inl (cI, 9001, .inl (fun _ => 0)))] H := hP
  have hD : va_D A [(h0, .inr (9, [.ref q1, .ref q2, .null, .null, .null, .int 0, .null, .null, .int 0, .null, .null, .int 0])), (q1, .inl (cI, 9001, .inl (fun _ => 0))), (q2, .inl (cI, 9001, .inl (fun _ => 0))), (q3, .inl (cI, 9001, .inl (fun _ => 0)))] := hD
  refine W.widen (k := 3) (n := 27003) (Nat.le_of_ble_eq_true rfl) (Nat.le_of_ble_eq_true rfl) ?_
  refine va_putF (D := D) (ci := 9) (v := .ref q3) (ty := .array .int) (C := R_Sl) (T := T_Sl) (N := 12) hx hb hG gi_Sl ty_Sl to_Sl nm_Sl hown hK hP hD hS 0 rfl rfl 2 (by decide) (hG _ fl_Sl_18) (fun _ h9 => h9) rfl hin rfl (by decide +kernel) rfl rfl (Nat.le_of_ble_eq_true rfl) d_Sl_init_28 (fun H locs hP hD hS => ?_)
  have hP : va_P D kl [(h0, .inr (9, [.ref q1, .ref q2, .ref q3, .null, .null, .int 0, .null, .null, .int 0, .null, .null, .int 0])), (q1, .inl (cI, 9001, .inl (fun _ => 0))), (q2, .inl (cI, 9001, .inl (fun _ => 0))), (q3, .inl (cI, 9001, .inl (fun _ => 0)))] H := hP
  have hD : va_D A [(h0, .inr (9, [.ref q1, .ref q2, .ref q3, .null, .null, .int 0, .null, .null, .int 0, .null, .null, .int 0])), (q1, .inl (cI, 9001, .inl (fun _ => 0))), (q2, .inl (cI, 9001, .inl (fun _ => 0))), (q3, .inl (cI, 9001, .inl (fun _ => 0)))] := hD
  refine lv_aload_n hx hb d_Sl_init_31 rfl (lv_at hl 0 rfl) ?_
  refine lv_sipush (v := 9001) hx hb d_Sl_init_32 (by decide) ?_
  refine ra_new (atype := .int) (D := D) hx hb (hG _ ac_int) rfl (fun _ h => by cases h) hK hP hD hS hA 0 rfl (9001, .inl (fun _ => 0)) (fun _ => rfl) (by decide +kernel) (by decide +kernel) (Nat.le_of_ble_eq_true rfl) (Nat.le_of_ble_eq_true rfl) (Nat.le_of_ble_eq_true rfl) d_Sl_init_35 (fun q4 H hP hD hS => ?_)
  have hP : va_P D kl [(h0, .inr (9, [.ref q1, .ref q2, .ref q3, .null, .null, .int 0, .null, .null, .int 0, .null, .null, .int 0])), (q1, .inl (cI, 9001, .inl (fun _ => 0))), (q2, .inl (cI, 9001, .inl (fun _ => 0))), (q3, .inl (cI, 9001, .inl (fun _ => 0))), (q4, .inl (cI, 9001, .inl (fun _ => 0)))] H := hP
  have hD : va_D A [(h0, .inr (9, [.ref q1, .ref q2, .ref q3, .null, .null, .int 0, .null, .null, .int 0, .null, .null, .int 0])), (q1, .inl (cI, 9001, .inl (fun _ => 0))), (q2, .inl (cI, 9001, .inl (fun _ => 0))), (q3, .inl (cI, 9001, .inl (fun _ => 0))), (q4, .inl (cI, 9001, .inl (fun _ => 0)))] := hD
  refine W.widen (k := 4) (n := 36004) (Nat.le_of_ble_eq_true rfl) (Nat.le_of_ble_eq_true rfl) ?_
  refine va_putF (D := D) (ci := 9) (v := .ref q4) (ty := .array .int) (C := R_Sl) (T := T_Sl) (N := 12) hx hb hG gi_Sl ty_Sl to_Sl nm_Sl hown hK hP hD hS 0 rfl rfl 3 (by decide) (hG _ fl_Sl_21) (fun _ h9 => h9) rfl hin rfl (by decide +kernel) rfl rfl (Nat.le_of_ble_eq_true rfl) d_Sl_init_37 (fun H locs hP hD hS => ?_)
  have hP : va_P D kl [(h0, .inr (9, [.ref q1, .ref q2, .ref q3, .ref q4, .null, .int 0, .null, .null, .int 0, .null, .null, .int 0])), (q1, .inl (cI, 9001, .inl (fun _ => 0))), (q2, .inl (cI, 9001, .inl (fun _ => 0))), (q3, .inl (cI, 9001, .inl (fun _ => 0))), (q4, .inl (cI, 9001, .inl (fun _ => 0)))] H := hP
  have hD : va_D A [(h0, .inr (9, [.ref q1, .ref q2, .ref q3, .ref q4, .null, .int 0, .null, .null, .int 0, .null, .null, .int 0])), (q1, .inl (cI, 9001, .inl (fun _ => 0))), (q2, .inl (cI, 9001, .inl (fun _ => 0))), (q3, .inl (cI, 9001, .inl (fun _ => 0))), (q4, .inl (cI, 9001, .inl (fun _ => 0)))] := hD
  refine lv_aload_n hx hb d_Sl_init_40 rfl (lv_at hl 0 rfl) ?_
  refine lv_sipush (v := 9001) hx hb d_Sl_init_41 (by decide) ?_
  refine ra_new (atype := .int) (D := D) hx hb (hG _ ac_int) rfl (fun _ h => by cases h) hK hP hD hS hA 0 rfl (9001, .inl (fun _ => 0)) (fun _ => rfl) (by decide +kernel) (by decide +kernel) (Nat.le_of_ble_eq_true rfl) (Nat.le_of_ble_eq_true rfl) (Nat.le_of_ble_eq_true rfl) d_Sl_init_44 (fun q5 H hP hD hS => ?_)
  have hP : va_P D kl [(h0, .inr (9, [.ref q1, .ref q2, .ref q3, .ref q4, .null, .int 0, .null, .null, .int 0, .null, .null, .int 0])), (q1, .inl (cI, 9001, .inl (fun _ => 0))), (q2, .inl (cI, 9001, .inl (fun _ => 0))), (q3, .inl (cI, 9001, .inl (fun _ => 0))), (q4, .inl (cI, 9001, .inl (fun _ => 0))), (q5, .inl (cI, 9001, .inl (fun _ => 0)))] H := hP
  have hD : va_D A [(h0, .inr (9, [.ref q1, .ref q2, .ref q3, .ref q4, .null, .int 0, .null, .null, .int 0, .null, .null, .int 0])), (q1, .inl (cI, 9001, .inl (fun _ => 0))), (q2, .inl (cI, 9001, .inl (fun _ => 0))), (q3, .inl (cI, 9001, .inl (fun _ => 0))), (q4, .inl (cI, 9001, .inl (fun _ => 0))), (q5, .inl (cI, 9001, .inl (fun _ => 0)))] := hD
  refine W.widen (k := 5) (n := 45005) (Nat.le_of_ble_eq_true rfl) (Nat.le_of_ble_eq_true rfl) ?_
  refine va_putF (D := D) (ci := 9) (v := .ref q5) (ty := .array .int) (C := R_Sl) (T := T_Sl) (N := 12) hx hb hG gi_Sl ty_Sl to_Sl nm_Sl hown hK hP hD hS 0 rfl rfl 4 (by decide) (hG _ fl_Sl_24) (fun _ h9 => h9) rfl hin rfl (by decide +kernel) rfl rfl (Nat.le_of_ble_eq_true rfl) d_Sl_init_46 (fun H locs hP hD hS => ?_)
  have hP : va_P D kl [(h0, .inr (9, [.ref q1, .ref q2, .ref q3, .ref q4, .ref q5, .int 0, .null, .null, .int 0, .null, .null, .int 0])), (q1, .inl (cI, 9001, .inl (fun _ => 0))), (q2, .inl (cI, 9001, .inl (fun _ => 0))), (q3, .inl (cI, 9001, .inl (fun _ => 0))), (q4, .inl (cI, 9001, .inl (fun _ => 0))), (q5, .inl (cI, 9001, .inl (fun _ => 0)))] H := hP
  have hD : va_D A [(h0, .inr (9, [.ref q1, .ref q2, .ref q3, .ref q4, .ref q5, .int 0, .null, .null, .int 0, .null, .null, .int 0])), (q1, .inl (cI, 9001, .inl (fun _ => 0))), (q2, .inl (cI, 9001, .inl (fun _ => 0))), (q3, .inl (cI, 9001, .inl (fun _ => 0))), (q4, .inl (cI, 9001, .inl (fun _ => 0))), (q5, .inl (cI, 9001, .inl (fun _ => 0)))] := hD
  refine lv_aload_n hx hb d_Sl_init_49 rfl (lv_at hl 0 rfl) ?_
  refine lv_sipush (v := 6000) hx hb d_Sl_init_50 (by decide) ?_
  refine ra_new (atype := .int) (D := D) hx hb (hG _ ac_int) rfl (fun _ h => by cases h) hK hP hD hS hA 0 rfl (6000, .inl (fun _ => 0)) (fun _ => rfl) (by decide +kernel) (by decide +kernel) (Nat.le_of_ble_eq_true rfl) (Nat.le_of_ble_eq_true rfl) (Nat.le_of_ble_eq_true rfl) d_Sl_init_53 (fun q6 H hP hD hS => ?_)
  have hP : va_P D kl [(h0, .inr (9, [.ref q1, .ref q2, .ref q3, .ref q4, .ref q5, .int 0, .null, .null, .int 0, .null, .null, .int 0])), (q1, .inl (cI, 9001, .inl (fun _ => 0))), (q2, .inl (cI, 9001, .inl (fun _ => 0))), (q3, .inl (cI, 9001, .inl (fun _ => 0))), (q4, .inl (cI, 9001, .inl (fun _ => 0))), (q5, .inl (cI, 9001, .inl (fun _ => 0))), (q6, .inl (cI, 6000, .inl (fun _ => 0)))] H := hP
  have hD : va_D A [(h0, .inr (9, [.ref q1, .ref q2, .ref q3, .ref q4, .ref q5, .int 0, .null, .null, .int 0, .null, .null, .int 0])), (q1, .inl (cI, 9001, .inl (fun _ => 0))), (q2, .inl (cI, 9001, .inl (fun _ => 0))), (q3, .inl (cI, 9001, .inl (fun _ => 0))), (q4, .inl (cI, 9001, .inl (fun _ => 0))), (q5, .inl (cI, 9001, .inl (fun _ => 0))), (q6, .inl (cI, 6000, .inl (fun _ => 0)))] := hD
  refine W.widen (k := 6) (n := 51005) (Nat.le_of_ble_eq_true rfl) (Nat.le_of_ble_eq_true rfl) ?_
  refine va_putF (D := D) (ci := 9) (v := .ref q6) (ty := .array .int) (C := R_Sl) (T := T_Sl) (N := 12) hx hb hG gi_Sl ty_Sl to_Sl nm_Sl hown hK hP hD hS 0 rfl rfl 6 (by decide) (hG _ fl_Sl_27) (fun _ h9 => h9) rfl hin rfl (by decide +kernel) rfl rfl (Nat.le_of_ble_eq_true rfl) d_Sl_init_55 (fun H locs hP hD hS => ?_)
  have hP : va_P D kl [(h0, .inr (9, [.ref q1, .ref q2, .ref q3, .ref q4, .ref q5, .int 0, .ref q6, .null, .int 0, .null, .null, .int 0])), (q1, .inl (cI, 9001, .inl (fun _ => 0))), (q2, .inl (cI, 9001, .inl (fun _ => 0))), (q3, .inl (cI, 9001, .inl (fun _ => 0))), (q4, .inl (cI, 9001, .inl (fun _ => 0))), (q5, .inl (cI, 9001, .inl (fun _ => 0))), (q6, .inl (cI, 6000, .inl (fun _ => 0)))] H := hP
  have hD : va_D A [(h0, .inr (9, [.ref q1, .ref q2, .ref q3, .ref q4, .ref q5, .int 0, .ref q6, .null, .int 0, .null, .null, .int 0])), (q1, .inl (cI, 9001, .inl (fun _ => 0))), (q2, .inl (cI, 9001, .inl (fun _ => 0))), (q3, .inl (cI, 9001, .inl (fun _ => 0))), (q4, .inl (cI, 9001, .inl (fun _ => 0))), (q5, .inl (cI, 9001, .inl (fun _ => 0))), (q6, .inl (cI, 6000, .inl (fun _ => 0)))] := hD
  refine lv_aload_n hx hb d_Sl_init_58 rfl (lv_at hl 0 rfl) ?_
  refine lv_sipush (v := 6000) hx hb d_Sl_init_59 (by decide) ?_
  refine ra_new (atype := .int) (D := D) hx hb (hG _ ac_int) rfl (fun _ h => by cases h) hK hP hD hS hA 0 rfl (6000, .inl (fun _ => 0)) (fun _ => rfl) (by decide +kernel) (by decide +kernel) (Nat.le_of_ble_eq_true rfl) (Nat.le_of_ble_eq_true rfl) (Nat.le_of_ble_eq_true rfl) d_Sl_init_62 (fun q7 H hP hD hS => ?_)
  have hP : va_P D kl [(h0, .inr (9, [.ref q1, .ref q2, .ref q3, .ref q4, .ref q5, .int 0, .ref q6, .null, .int 0, .null, .null, .int 0])), (q1, .inl (cI, 9001, .inl (fun _ => 0))), (q2, .inl (cI, 9001, .inl (fun _ => 0))), (q3, .inl (cI, 9001, .inl (fun _ => 0))), (q4, .inl (cI, 9001, .inl (fun _ => 0))), (q5, .inl (cI, 9001, .inl (fun _ => 0))), (q6, .inl (cI, 6000, .inl (fun _ => 0))), (q7, .inl (cI, 6000, .inl (fun _ => 0)))] H := hP
  have hD : va_D A [(h0, .inr (9, [.ref q1, .ref q2, .ref q3, .ref q4, .ref q5, .int 0, .ref q6, .null, .int 0, .null, .null, .int 0])), (q1, .inl (cI, 9001, .inl (fun _ => 0))), (q2, .inl (cI, 9001, .inl (fun _ => 0))), (q3, .inl (cI, 9001, .inl (fun _ => 0))), (q4, .inl (cI, 9001, .inl (fun _ => 0))), (q5, .inl (cI, 9001, .inl (fun _ => 0))), (q6, .inl (cI, 6000, .inl (fun _ => 0))), (q7, .inl (cI, 6000, .inl (fun _ => 0)))] := hD
  refine W.widen (k := 7) (n := 57005) (Nat.le_of_ble_eq_true rfl) (Nat.le_of_ble_eq_true rfl) ?_
  refine va_putF (D := D) (ci := 9) (v := .ref q7) (ty := .array .int) (C := R_Sl) (T := T_Sl) (N := 12) hx hb hG gi_Sl ty_Sl to_Sl nm_Sl hown hK hP hD hS 0 rfl rfl 7 (by decide) (hG _ fl_Sl_30) (fun _ h9 => h9) rfl hin rfl (by decide +kernel) rfl rfl (Nat.le_of_ble_eq_true rfl) d_Sl_init_64 (fun H locs hP hD hS => ?_)
  have hP : va_P D kl [(h0, .inr (9, [.ref q1, .ref q2, .ref q3, .ref q4, .ref q5, .int 0, .ref q6, .ref q7, .int 0, .null, .null, .int 0])), (q1, .inl (cI, 9001, .inl (fun _ => 0))), (q2, .inl (cI, 9001, .inl (fun _ => 0))), (q3, .inl (cI, 9001, .inl (fun _ => 0))), (q4, .inl (cI, 9001, .inl (fun _ => 0))), (q5, .inl (cI, 9001, .inl (fun _ => 0))), (q6, .inl (cI, 6000, .inl (fun _ => 0))), (q7, .inl (cI, 6000, .inl (fun _ => 0)))] H := hP
  have hD : va_D A [(h0, .inr (9, [.ref q1, .ref q2, .ref q3, .ref q4, .ref q5, .int 0, .ref q6, .ref q7, .int 0, .null, .null, .int 0])), (q1, .inl (cI, 9001, .inl (fun _ => 0))), (q2, .inl (cI, 9001, .inl (fun _ => 0))), (q3, .inl (cI, 9001, .inl (fun _ => 0))), (q4, .inl (cI, 9001, .inl (fun _ => 0))), (q5, .inl (cI, 9001, .inl (fun _ => 0))), (q6, .inl (cI, 6000, .inl (fun _ => 0))), (q7, .inl (cI, 6000, .inl (fun _ => 0)))] := hD
  refine lv_aload_n hx hb d_Sl_init_67 rfl (lv_at hl 0 rfl) ?_
  refine lv_sipush (v := 6000) hx hb d_Sl_init_68 (by decide) ?_
  refine ra_new (atype := .int) (D := D) hx hb (hG _ ac_int) rfl (fun _ h => by cases h) hK hP hD hS hA 0 rfl (6000, .inl (fun _ => 0)) (fun _ => rfl) (by decide +kernel) (by decide +kernel) (Nat.le_of_ble_eq_true rfl) (Nat.le_of_ble_eq_true rfl) (Nat.le_of_ble_eq_true rfl) d_Sl_init_71 (fun q8 H hP hD hS => ?_)
  have hP : va_P D kl [(h0, .inr (9, [.ref q1, .ref q2, .ref q3, .ref q4, .ref q5, .int 0, .ref q6, .ref q7, .int 0, .null, .null, .int 0])), (q1, .inl (cI, 9001, .inl (fun _ => 0))), (q2, .inl (cI, 9001, .inl (fun _ => 0))), (q3, .inl (cI, 9001, .inl (fun _ => 0))), (q4, .inl (cI, 9001, .inl (fun _ => 0))), (q5, .inl (cI, 9001, .inl (fun _ => 0))), (q6, .inl (cI, 6000, .inl (fun _ => 0))), (q7, .inl (cI, 6000, .inl (fun _ => 0))), (q8, .inl (cI, 6000, .inl (fun _ => 0)))] H := hP
  have hD : va_D A [(h0, .inr (9, [.ref q1, .ref q2, .ref q3, .ref q4, .ref q5, .int 0, .ref q6, .ref q7, .int 0, .null, .null, .int 0])), (q1, .inl (cI, 9001, .inl (fun _ => 0))), (q2, .inl (cI, 9001, .inl (fun _ => 0))), (q3, .inl (cI, 9001, .inl (fun _ => 0))), (q4, .inl (cI, 9001, .inl (fun _ => 0))), (q5, .inl (cI, 9001, .inl (fun _ => 0))), (q6, .inl (cI, 6000, .inl (fun _ => 0))), (q7, .inl (cI, 6000, .inl (fun _ => 0))), (q8, .inl (cI, 6000, .inl (fun _ => 0)))] := hD
  refine W.widen (k := 8) (n := 63005) (Nat.le_of_ble_eq_true rfl) (Nat.le_of_ble_eq_true rfl) ?_
  refine va_putF (D := D) (ci := 9) (v := .ref q8) (ty := .array .int) (C := R_Sl) (T := T_Sl) (N := 12) hx hb hG gi_Sl ty_Sl to_Sl nm_Sl hown hK hP hD hS 0 rfl rfl 9 (by decide) (hG _ fl_Sl_33) (fun _ h9 => h9) rfl hin rfl (by decide +kernel) rfl rfl (Nat.le_of_ble_eq_true rfl) d_Sl_init_73 (fun H locs hP hD hS => ?_)
  have hP : va_P D kl [(h0, .inr (9, [.ref q1, .ref q2, .ref q3, .ref q4, .ref q5, .int 0, .ref q6, .ref q7, .int 0, .ref q8, .null, .int 0])), (q1, .inl (cI, 9001, .inl (fun _ => 0))), (q2, .inl (cI, 9001, .inl (fun _ => 0))), (q3, .inl (cI, 9001, .inl (fun _ => 0))), (q4, .inl (cI, 9001, .inl (fun _ => 0))), (q5, .inl (cI, 9001, .inl (fun _ => 0))), (q6, .inl (cI, 6000, .inl (fun _ => 0))), (q7, .inl (cI, 6000, .inl (fun _ => 0))), (q8, .inl (cI, 6000, .inl (fun _ => 0)))] H := hP
  have hD : va_D A [(h0, .inr (9, [.ref q1, .ref q2, .ref q3, .ref q4, .ref q5, .int 0, .ref q6, .ref q7, .int 0, .ref q8, .null, .int 0])), (q1, .inl (cI, 9001, .inl (fun _ => 0))), (q2, .inl (cI, 9001, .inl (fun _ => 0))), (q3, .inl (cI, 9001, .inl (fun _ => 0))), (q4, .inl (cI, 9001, .inl (fun _ => 0))), (q5, .inl (cI, 9001, .inl (fun _ => 0))), (q6, .inl (cI, 6000, .inl (fun _ => 0))), (q7, .inl (cI, 6000, .inl (fun _ => 0))), (q8, .inl (cI, 6000, .inl (fun _ => 0)))] := hD
  refine lv_aload_n hx hb d_Sl_init_76 rfl (lv_at hl 0 rfl) ?_
  refine lv_sipush (v := 6000) hx hb d_Sl_init_77 (by decide) ?_
  refine ra_new (atype := .int) (D := D) hx hb (hG _ ac_int) rfl (fun _ h => by cases h) hK hP hD hS hA 0 rfl (6000, .inl (fun _ => 0)) (fun _ => rfl) (by decide +kernel) (by decide +kernel) (Nat.le_of_ble_eq_true rfl) (Nat.le_of_ble_eq_true rfl) (Nat.le_of_ble_eq_true rfl) d_Sl_init_80 (fun q9 H hP hD hS => ?_)
  have hP : va_P D kl [(h0, .inr (9, [.ref q1, .ref q2, .ref q3, .ref q4, .ref q5, .int 0, .ref q6, .ref q7, .int 0, .ref q8, .null, .int 0])), (q1, .inl (cI, 9001, .inl (fun _ => 0))), (q2, .inl (cI, 9001, .inl (fun _ => 0))), (q3, .inl (cI, 9001, .inl (fun _ => 0))), (q4, .inl (cI, 9001, .inl (fun _ => 0))), (q5, .inl (cI, 9001, .inl (fun _ => 0))), (q6, .inl (cI, 6000, .inl (fun _ => 0))), (q7, .inl (cI, 6000, .inl (fun _ => 0))), (q8, .inl (cI, 6000, .inl (fun _ => 0))), (q9, .inl (cI, 6000, .inl (fun _ => 0)))] H := hP
  have hD : va_D A [(h0, .inr (9, [.ref q1, .ref q2, .ref q3, .ref q4, .ref q5, .int 0, .ref q6, .ref q7, .int 0, .ref q8, .null, .int 0])), (q1, .inl (cI, 9001, .inl (fun _ => 0))), (q2, .inl (cI, 9001, .inl (fun _ => 0))), (q3, .inl (cI, 9001, .inl (fun _ => 0))), (q4, .inl (cI, 9001, .inl (fun _ => 0))), (q5, .inl (cI, 9001, .inl (fun _ => 0))), (q6, .inl (cI, 6000, .inl (fun _ => 0))), (q7, .inl (cI, 6000, .inl (fun _ => 0))), (q8, .inl (cI, 6000, .inl (fun _ => 0))), (q9, .inl (cI, 6000, .inl (fun _ => 0)))] := hD
  refine W.widen (k := 9) (n := 69005) (Nat.le_of_ble_eq_true rfl) (Nat.le_of_ble_eq_true rfl) ?_
  refine va_putF (D := D) (ci := 9) (v := .ref q9) (ty := .array .int) (C := R_Sl) (T := T_Sl) (N := 12) hx hb hG gi_Sl ty_Sl to_Sl nm_Sl hown hK hP hD hS 0 rfl rfl 10 (by decide) (hG _ fl_Sl_36) (fun _ h9 => h9) rfl hin rfl (by decide +kernel) rfl rfl (Nat.le_of_ble_eq_true rfl) d_Sl_init_82 (fun H locs hP hD hS => ?_)
  have hP : va_P D kl [(h0, .inr (9, [.ref q1, .ref q2, .ref q3, .ref q4, .ref q5, .int 0, .ref q6, .ref q7, .int 0, .ref q8, .ref q9, .int 0])), (q1, .inl (cI, 9001, .inl (fun _ => 0))), (q2, .inl (cI, 9001, .inl (fun _ => 0))), (q3, .inl (cI, 9001, .inl (fun _ => 0))), (q4, .inl (cI, 9001, .inl (fun _ => 0))), (q5, .inl (cI, 9001, .inl (fun _ => 0))), (q6, .inl (cI, 6000, .inl (fun _ => 0))), (q7, .inl (cI, 6000, .inl (fun _ => 0))), (q8, .inl (cI, 6000, .inl (fun _ => 0))), (q9, .inl (cI, 6000, .inl (fun _ => 0)))] H := hP
  have hD : va_D A [(h0, .inr (9, [.ref q1, .ref q2, .ref q3, .ref q4, .ref q5, .int 0, .ref q6, .ref q7, .int 0, .ref q8, .ref q9, .int 0])), (q1, .inl (cI, 9001, .inl (fun _ => 0))), (q2, .inl (cI, 9001, .inl (fun _ => 0))), (q3, .inl (cI, 9001, .inl (fun _ => 0))), (q4, .inl (cI, 9001, .inl (fun _ => 0))), (q5, .inl (cI, 9001, .inl (fun _ => 0))), (q6, .inl (cI, 6000, .inl (fun _ => 0))), (q7, .inl (cI, 6000, .inl (fun _ => 0))), (q8, .inl (cI, 6000, .inl (fun _ => 0))), (q9, .inl (cI, 6000, .inl (fun _ => 0)))] := hD
  exact W.vret hx hb hr (fun t ht hW => ⟨⟨(), rfl, trivial, q1, q2, q3, q4, q5, q6, q7, q8, q9, by rw [ht]; exact hP, hD⟩, hS.F ht⟩) hS.2.2 d_Sl_init_85

theorem d_Lk_init_0 : decode b_Lk_init 0 = .ok (.aload_n 0, 1) := by decide +kernel
theorem d_Lk_init_1 : decode b_Lk_init 1 = .ok (.invokespecial 3, 3) := by decide +kernel
theorem d_Lk_init_4 : decode b_Lk_init 4 = .ok (.aload_n 0, 1) := by decide +kernel
theorem d_Lk_init_5 : decode b_Lk_init 5 = .ok (.bipush 59, 2) := by decide +kernel
theorem d_Lk_init_7 : decode b_Lk_init 7 = .ok (.newarray .int, 2) := by decide +kernel
theorem d_Lk_init_9 : decode b_Lk_init 9 = .ok (.putfield 9, 3) := by decide +kernel
theorem d_Lk_init_12 : decode b_Lk_init 12 = .ok (.aload_n 0, 1) := by decide +kernel
theorem d_Lk_init_13 : decode b_Lk_init 13 = .ok (.bipush 59, 2) := by decide +kernel
theorem d_Lk_init_15 : decode b_Lk_init 15 = .ok (.newarray .int, 2) := by decide +kernel
theorem d_Lk_init_17 : decode b_Lk_init 17 = .ok (.putfield 15, 3) := by decide +kernel
theorem d_Lk_init_20 : decode b_Lk_init 20 = .ok (.aload_n 0, 1) := by decide +kernel
theorem d_Lk_init_21 : decode b_Lk_init 21 = .ok (.bipush 59, 2) := by decide +kernel
theorem d_Lk_init_23 : decode b_Lk_init 23 = .ok (.newarray .int, 2) := by decide +kernel
theorem d_Lk_init_25 : decode b_Lk_init 25 = .ok (.putfield 18, 3) := by decide +kernel
theorem d_Lk_init_28 : decode b_Lk_init 28 = .ok (.aload_n 0, 1) := by decide +kernel
theorem d_Lk_init_29 : decode b_Lk_init 29 = .ok (.bipush 59, 2) := by decide +kernel
theorem d_Lk_init_31 : decode b_Lk_init 31 = .ok (.newarray .int, 2) := by decide +kernel
theorem d_Lk_init_33 : decode b_Lk_init 33 = .ok (.putfield 21, 3) := by decide +kernel
theorem d_Lk_init_36 : decode b_Lk_init 36 = .ok (.aload_n 0, 1) := by decide +kernel
theorem d_Lk_init_37 : decode b_Lk_init 37 = .ok (.bipush 59, 2) := by decide +kernel
theorem d_Lk_init_39 : decode b_Lk_init 39 = .ok (.newarray .int, 2) := by decide +kernel
theorem d_Lk_init_41 : decode b_Lk_init 41 = .ok (.putfield 24, 3) := by decide +kernel
theorem d_Lk_init_44 : decode b_Lk_init 44 = .ok (.aload_n 0, 1) := by decide +kernel
theorem d_Lk_init_45 : decode b_Lk_init 45 = .ok (.sipush 9000, 3) := by decide +kernel
theorem d_Lk_init_48 : decode b_Lk_init 48 = .ok (.newarray .int, 2) := by decide +kernel
theorem d_Lk_init_50 : decode b_Lk_init 50 = .ok (.putfield 27, 3) := by decide +kernel
theorem d_Lk_init_53 : decode b_Lk_init 53 = .ok (.aload_n 0, 1) := by decide +kernel
theorem d_Lk_init_54 : decode b_Lk_init 54 = .ok (.aload_n 1, 1) := by decide +kernel
theorem d_Lk_init_55 : decode b_Lk_init 55 = .ok (.putfield 30, 3) := by decide +kernel
theorem d_Lk_init_58 : decode b_Lk_init 58 = .ok (.aload_n 0, 1) := by decide +kernel
theorem d_Lk_init_59 : decode b_Lk_init 59 = .ok (.aload_n 2, 1) := by decide +kernel
theorem d_Lk_init_60 : decode b_Lk_init 60 = .ok (.putfield 34, 3) := by decide +kernel
theorem d_Lk_init_63 : decode b_Lk_init 63 = .ok (.aload_n 0, 1) := by decide +kernel
theorem d_Lk_init_64 : decode b_Lk_init 64 = .ok (.aload_n 3, 1) := by decide +kernel
theorem d_Lk_init_65 : decode b_Lk_init 65 = .ok (.putfield 38, 3) := by decide +kernel
theorem d_Lk_init_68 : decode b_Lk_init 68 = .ok (.return_, 1) := by decide +kernel
set_option maxHeartbeats 4000000 in
set_option maxRecDepth 100000 in
theorem c_Lk_init (l : Launch) (D : va_G) (cI cB cJ cZ : ClassId) (sz : Nat) (h0 g1 g2 g3 : Nat) : Met l y_Lk_init (Cond.code y_Lk_init b_Lk_init 4 none :: gG) { frames := 1, cells := 6, slots := 9295, locals := 12 } (va_Pc [.ref h0, .ref g1, .ref g2, .ref g3] (ct_P D (tyL cI cB cJ cZ) [(h0, .inr (4, [.null, .null, .null, .null, .null, .null, .null, .null, .int 0, .null, .int 0, .int 0, .int 0]))] sz)) (va_Qv (fun _ : Unit => True) (fun _ t => ∃ q1 q2 q3 q4 q5 q6 : Nat, va_P D kl [(h0, .inr (4, [.ref g1, .ref g2, .ref g3, .ref q1, .ref q2, .ref q3, .ref q4, .ref q5, .int 0, .ref q6, .int 0, .int 0, .int 0])), (q1, .inl (cI, 59, .inl (fun _ => 0))), (q2, .inl (cI, 59, .inl (fun _ => 0))), (q3, .inl (cI, 59, .inl (fun _ => 0))), (q4, .inl (cI, 59, .inl (fun _ => 0))), (q5, .inl (cI, 59, .inl (fun _ => 0))), (q6, .inl (cI, 9000, .inl (fun _ => 0)))] t.heap ∧ va_D (va_A [(h0, .inr (4, [.null, .null, .null, .null, .null, .null, .null, .null, .int 0, .null, .int 0, .int 0, .int 0]))] sz) [(h0, .inr (4, [.ref g1, .ref g2, .ref g3, .ref q1, .ref q2, .ref q3, .ref q4, .ref q5, .int 0, .ref q6, .int 0, .int 0, .int 0])), (q1, .inl (cI, 59, .inl (fun _ => 0))), (q2, .inl (cI, 59, .inl (fun _ => 0))), (q3, .inl (cI, 59, .inl (fun _ => 0))), (q4, .inl (cI, 59, .inl (fun _ => 0))), (q5, .inl (cI, 59, .inl (fun _ => 0))), (q6, .inl (cI, 9000, .inl (fun _ => 0)))]) (va_A [(h0, .inr (4, [.null, .null, .null, .null, .null, .null, .null, .null, .int 0, .null, .int 0, .int 0, .int 0]))] sz)) 6 9295 (va_A [(h0, .inr (4, [.null, .null, .null, .null, .null, .null, .null, .null, .int 0, .null, .int 0, .int 0, .int 0]))] sz) := by
  refine Met.ofW (cc := b_Lk_init) (maxL := 4) (ret := none) (by decide) rfl ?_
  intro p e s m args below meth c s₁ B hml hv
  obtain ⟨rfl, hsz, hP, hK, hD0⟩ := hv
  have hx := B.exec
  have hb := B.bytes
  have hr := B.returns
  have hts := atoms_spec (ws := Cond.code y_Lk_init b_Lk_init 4 none :: gG) B.pre
  have hG : ∀ w ∈ gG, w.before [.ref h0, .ref g1, .ref g2, .ref g3].toArray s = true := fun w h => hts w (List.mem_cons_of_mem _ h)
  have hown : s.vm.findClass R_Lk = some m.cls := findClass_of_methodNamed B.named
  have hlocks := B.notSynchronized
  have hin : meth.name = "<init>" := (name_of_methodNamed B.named B.method).1
  subst hsz
  have hD := hD0.self (sz := s.heap.size)
  generalize hAe : va_A [(h0, .inr (4, [.null, .null, .null, .null, .null, .null, .null, .null, .int 0, .null, .int 0, .int 0, .int 0]))] s.heap.size = A at hD ⊢
  have hA : ∀ q : Nat, s.heap.size ≤ q → A q := fun q h => by rw [← hAe]; exact Or.inr h
  have hS : va_S A s.heap s.heap [] := va_S.rf
  have hl := lv_entry ([.ref h0, .ref g1, .ref g2, .ref g3]) (n := 4) (Nat.le_of_ble_eq_true rfl)
  rw [lg_entry_eq]
  generalize (lg_sl ([.ref h0, .ref g1, .ref g2, .ref g3]) ++ List.replicate (4 - (lg_sl ([.ref h0, .ref g1, .ref g2, .ref g3])).length) Slot.unset).toArray = ls at hl ⊢
  have hl : lv_has ls 4 [(0, .ref h0), (1, .ref g1), (2, .ref g2), (3, .ref g3)] := hl
  refine lv_aload_n hx hb d_Lk_init_0 rfl (lv_at hl 0 rfl) ?_
  refine W.objInit hx hb hown (hG _ ml_Lk_3) (hG _ im_java_lang_Object_init) (hG _ co_java_lang_Object_init) rfl (by rw [hml]; exact hl.1) rfl d_Lk_init_1 (Nat.le_of_ble_eq_true rfl) (Nat.le_of_ble_eq_true rfl) ?_
  refine W.eq (g2 := F0 m 4 ls []) rfl ?_
  refine lv_aload_n hx hb d_Lk_init_4 rfl (lv_at hl 0 rfl) ?_
  refine lv_bipush (v := 59) hx hb d_Lk_init_5 (by decide) ?_
  refine ra_new (atype := .int) (D := D) hx hb (hG _ ac_int) rfl (fun _ h => by cases h) hK hP hD hS hA 0 rfl (59, .inl (fun _ => 0)) (fun _ => rfl) (by decide +kernel) (by decide +kernel) (Nat.le_of_ble_eq_true rfl) (Nat.le_of_ble_eq_true rfl) (Nat.le_of_ble_eq_true rfl) d_Lk_init_7 (fun q1 H hP hD hS => ?_)
  have hP : va_P D kl [(h0, .inr (4, [.null, .null, .null, .null, .null, .null, .null, .null, .int 0, .null, .int 0, .int 0, .int 0])), (q1, .inl (cI, 59, .inl (fun _ => 0)))] H := hP
  have hD : va_D A [(h0, .inr (4, [.null, .null, .null, .null, .null, .null, .null, .null, .int 0, .null, .int 0, .int 0, .int 0])), (q1, .inl (cI, 59, .inl (fun _ => 0)))] := hD
  refine W.widen (k := 1) (n := 59) (Nat.le_of_ble_eq_true rfl) (Nat.le_of_ble_eq_true rfl) ?_
  refine va_putF (D := D) (ci := 4) (v := .ref q1) (ty := .array .int) (C := R_Lk) (T := T_Lk) (N := 13) hx hb hG gi_Lk ty_Lk to_Lk nm_Lk hown hK hP hD hS 0 rfl rfl 3 (by decide) (hG _ fl_Lk_9) (fun _ h9 => h9) rfl hin rfl (by decide +kernel) rfl rfl (Nat.le_of_ble_eq_true rfl) d_Lk_init_9 (fun H locs hP hD hS => ?_)
  have hP : va_P D kl [(h0, .inr (4, [.null, .null, .null, .ref q1, .null, .null, .null, .null, .int 0, .null, .int 0, .int 0, .int 0])), (q1, .inl (cI, 59, .inl (fun _ => 0)))] H := hP
  have hD : va_D A [(h0, .inr (4, [.null, .null, .null, .ref q1, .null, .null, .null, .null, .int 0, .null, .int 0, .int 0, .int 0])), (q1, .inl (cI, 59, .inl (fun _ => 0)))] := hD
  refine lv_aload_n hx hb d_Lk_init_12 rfl (lv_at hl 0 rfl) ?_
  refine lv_bipush (v := 59) hx hb d_Lk_init_13 (by decide) ?_
  refine ra_new (atype := .int) (D := D) hx hb (hG _ ac_int) rfl (fun _ h => by cases h) hK hP hD hS hA 0 rfl (59, .inl (fun _ => 0)) (fun _ => rfl) (by decide +kernel) (by decide +kernel) (Nat.le_of_ble_eq_true rfl) (Nat.le_of_ble_eq_true rfl) (Nat.le_of_ble_eq_true rfl) d_Lk_init_15 (fun q2 H hP hD hS => ?_)
  have hP : va_P D kl [(h0, .inr (4, [.null, .null, .null, .ref q1, .null, .null, .null, .null, .int 0, .null, .int 0, .int 0, .int 0])), (q1, .inl (cI, 59, .inl (fun _ => 0))), (q2, .inl (cI, 59, .inl (fun _ => 0)))] H := hP
  have hD : va_D A [(h0, .inr (4, [.null, .null, .null, .ref q1, .null, .null, .null, .null, .int 0, .null, .int 0, .int 0, .int 0])), (q1, .inl (cI, 59, .inl (fun _ => 0))), (q2, .inl (cI, 59, .inl (fun _ => 0)))] := hD
  refine W.widen (k := 2) (n := 118) (Nat.le_of_ble_eq_true rfl) (Nat.le_of_ble_eq_true rfl) ?_
  refine va_putF (D := D) (ci := 4) (v := .ref q2) (ty := .array .int) (C := R_Lk) (T := T_Lk) (N := 13) hx hb hG gi_Lk ty_Lk to_Lk nm_Lk hown hK hP hD hS 0 rfl rfl 4 (by decide) (hG _ fl_Lk_15) (fun _ h9 => h9) rfl hin rfl (by decide +kernel) rfl rfl (Nat.le_of_ble_eq_true rfl) d_Lk_init_17 (fun H locs hP hD hS => ?_)
  have hP : va_P D kl [(h0, .inr (4, [.null, .null, .null, .ref q1, .ref q2, .null, .null, .null, .int 0, .null, .int 0, .int 0, .int 0])), (q1, .inl (cI, 59, .inl (fun _ => 0))), (q2, .inl (cI, 59, .inl (fun _ => 0)))] H := hP
  have hD : va_D A [(h0, .inr (4, [.null, .null, .null, .ref q1, .ref q2, .null, .null, .null, .int 0, .null, .int 0, .int 0, .int 0])), (q1, .inl (cI, 59, .inl (fun _ => 0))), (q2, .inl (cI, 59, .inl (fun _ => 0)))] := hD
  refine lv_aload_n hx hb d_Lk_init_20 rfl (lv_at hl 0 rfl) ?_
  refine lv_bipush (v := 59) hx hb d_Lk_init_21 (by decide) ?_
  refine ra_new (atype := .int) (D := D) hx hb (hG _ ac_int) rfl (fun _ h => by cases h) hK hP hD hS hA 0 rfl (59, .inl (fun _ => 0)) (fun _ => rfl) (by decide +kernel) (by decide +kernel) (Nat.le_of_ble_eq_true rfl) (Nat.le_of_ble_eq_true rfl) (Nat.le_of_ble_eq_true rfl) d_Lk_init_23 (fun q3 H hP hD hS => ?_)
  have hP : va_P D kl [(h0, .inr (4, [.null, .null, .null, .ref q1, .ref q2, .null, .null, .null, .int 0, .null, .int 0, .int 0, .int 0])), (q1, .inl (cI, 59, .inl (fun _ => 0))), (q2, .inl (cI, 59, .inl (fun _ => 0))), (q3, .inl (cI, 59, .inl (fun _ => 0)))] H := hP
  have hD : va_D A [(h0, .inr (4, [.null, .null, .null, .ref q1, .ref q2, .null, .null, .null, .int 0, .null, .int 0, .int 0, .int 0])), (q1, .inl (cI, 59, .inl (fun _ => 0))), (q2, .inl (cI, 59, .inl (fun _ => 0))), (q3, .inl (cI, 59, .inl (fun _ => 0)))] := hD
  refine W.widen (k := 3) (n := 177) (Nat.le_of_ble_eq_true rfl) (Nat.le_of_ble_eq_true rfl) ?_
  refine va_putF (D := D) (ci := 4) (v := .ref q3) (ty := .array .int) (C := R_Lk) (T := T_Lk) (N := 13) hx hb hG gi_Lk ty_Lk to_Lk nm_Lk hown hK hP hD hS 0 rfl rfl 5 (by decide) (hG _ fl_Lk_18) (fun _ h9 => h9) rfl hin rfl (by decide +kernel) rfl rfl (Nat.le_of_ble_eq_true rfl) d_Lk_init_25 (fun H locs hP hD hS => ?_)
  have hP : va_P D kl [(h0, .inr (4, [.null, .null, .null, .ref q1, .ref q2, .ref q3, .null, .null, .int 0, .null, .int 0, .int 0, .int 0])), (q1, .inl (cI, 59, .inl (fun _ => 0))), (q2, .inl (cI, 59, .inl (fun _ => 0))), (q3, .inl (cI, 59, .inl (fun _ => 0)))] H := hP
  have hD : va_D A [(h0, .inr (4, [.null, .null, .null, .ref q1, .ref q2, .ref q3, .null, .null, .int 0, .null, .int 0, .int 0, .int 0])), (q1, .inl (cI, 59, .inl (fun _ => 0))), (q2, .inl (cI, 59, .inl (fun _ => 0))), (q3, .inl (cI, 59, .inl (fun _ => 0)))] := hD
  refine lv_aload_n hx hb d_Lk_init_28 rfl (lv_at hl 0 rfl) ?_
  refine lv_bipush (v := 59) hx hb d_Lk_init_29 (by decide) ?_
  refine ra_new (atype := .int) (D := D) hx hb (hG _ ac_int) rfl (fun _ h => by cases h) hK hP hD hS hA 0 rfl (59, .inl (fun _ => 0)) (fun _ => rfl) (by decide +kernel) (by decide +kernel) (Nat.le_of_ble_eq_true rfl) (Nat.le_of_ble_eq_true rfl) (Nat.le_of_ble_eq_true rfl) d_Lk_init_31 (fun q4 H hP hD hS => ?_)
  have hP : va_P D kl [(h0, .inr (4, [.null, .null, .null, .ref q1, .ref q2, .ref q3, .null, .null, .int 0, .null, .int 0, .int 0, .int 0])), (q1, .inl (cI, 59, .inl (fun _ => 0))), (q2, .inl (cI, 59, .inl (fun _ => 0))), (q3, .inl (cI, 59, .inl (fun _ => 0))), (q4, .inl (cI, 59, .inl (fun _ => 0)))] H := hP
  have hD : va_D A [(h0, .inr (4, [.null, .null, .null, .ref q1, .ref q2, .ref q3, .null, .null, .int 0, .null, .int 0, .int 0, .int 0])), (q1, .inl (cI, 59, .inl (fun _ => 0))), (q2, .inl (cI, 59, .inl (fun _ => 0))), (q3, .inl (cI, 59, .inl (fun _ => 0))), (q4, .inl (cI, 59, .inl (fun _ => 0)))] := hD
  refine W.widen (k := 4) (n := 236) (Nat.le_of_ble_eq_true rfl) (Nat.le_of_ble_eq_true rfl) ?_
  refine va_putF (D := D) (ci := 4) (v := .ref q4) (ty := .array .int) (C := R_Lk) (T := T_Lk) (N := 13) hx hb hG gi_Lk ty_Lk to_Lk nm_Lk hown hK hP hD hS 0 rfl rfl 6 (by decide) (hG _ fl_Lk_21) (fun _ h9 => h9) rfl hin rfl (by decide +kernel) rfl rfl (Nat.le_of_ble_eq_true rfl) d_Lk_init_33 (fun H locs hP hD hS => ?_)
  have hP : va_P D kl [(h0, .inr (4, [.null, .null, .null, .ref q1, .ref q2, .ref q3, .ref q4, .null, .int 0, .null, .int 0, .int 0, .int 0])), (q1, .inl (cI, 59, .inl (fun _ => 0))), (q2, .inl (cI, 59, .inl (fun _ => 0))), (q3, .inl (cI, 59, .inl (fun _ => 0))), (q4, .inl (cI, 59, .inl (fun _ => 0)))] H := hP
  have hD : va_D A [(h0, .inr (4, [.null, .null, .null, .ref q1, .ref q2, .ref q3, .ref q4, .null, .int 0, .null, .int 0, .int 0, .int 0])), (q1, .inl (cI, 59, .inl (fun _ => 0))), (q2, .inl (cI, 59, .inl (fun _ => 0))), (q3, .inl (cI, 59, .inl (fun _ => 0))), (q4, .inl (cI, 59, .inl (fun _ => 0)))] := hD
  refine lv_aload_n hx hb d_Lk_init_36 rfl (lv_at hl 0 rfl) ?_
  refine lv_bipush (v := 59) hx hb d_Lk_init_37 (by decide) ?_
  refine ra_new (atype := .int) (D := D) hx hb (hG _ ac_int) rfl (fun _ h => by cases h) hK hP hD hS hA 0 rfl (59, .inl (fun _ => 0)) (fun _ => rfl) (by decide +kernel) (by decide +kernel) (Nat.le_of_ble_eq_true rfl) (Nat.le_of_ble_eq_true rfl) (Nat.le_of_ble_eq_true rfl) d_Lk_init_39 (fun q5 H hP hD hS => ?_)
  have hP : va_P D kl [(h0, .inr (4, [.null, .null, .null, .ref q1, .ref q2, .ref q3, .ref q4, .null, .int 0, .null, .int 0, .int 0, .int 0])), (q1, .inl (cI, 59, .inl (fun _ => 0))), (q2, .inl (cI, 59, .inl (fun _ => 0))), (q3, .inl (cI, 59, .inl (fun _ => 0))), (q4, .inl (cI, 59, .inl (fun _ => 0))), (q5, .inl (cI, 59, .inl (fun _ => 0)))] H := hP
  have hD : va_D A [(h0, .inr (4, [.null, .null, .null, .ref q1, .ref q2, .ref q3, .ref q4, .null, .int 0, .null, .int 0, .int 0, .int 0])), (q1, .inl (cI, 59, .inl (fun _ => 0))), (q2, .inl (cI, 59, .inl (fun _ => 0))), (q3, .inl (cI, 59, .inl (fun _ => 0))), (q4, .inl (cI, 59, .inl (fun _ => 0))), (q5, .inl (cI, 59, .inl (fun _ => 0)))] := hD
  refine W.widen (k := 5) (n := 295) (Nat.le_of_ble_eq_true rfl) (Nat.le_of_ble_eq_true rfl) ?_
  refine va_putF (D := D) (ci := 4) (v := .ref q5) (ty := .array .int) (C := R_Lk) (T := T_Lk) (N := 13) hx hb hG gi_Lk ty_Lk to_Lk nm_Lk hown hK hP hD hS 0 rfl rfl 7 (by decide) (hG _ fl_Lk_24) (fun _ h9 => h9) rfl hin rfl (by decide +kernel) rfl rfl (Nat.le_of_ble_eq_true rfl) d_Lk_init_41 (fun H locs hP hD hS => ?_)
  have hP : va_P D kl [(h0, .inr (4, [.null, .null, .null, .ref q1, .ref q2, .ref q3, .ref q4, .ref q5, .int 0, .null, .int 0, .int 0, .int 0])), (q1, .inl (cI, 59, .inl (fun _ => 0))), (q2, .inl (cI, 59, .inl (fun _ => 0))), (q3, .inl (cI, 59, .inl (fun _ => 0))), (q4, .inl (cI, 59, .inl (fun _ => 0))), (q5, .inl (cI, 59, .inl (fun _ => 0)))] H := hP
  have hD : va_D A [(h0, .inr (4, [.null, .null, .null, .ref q1, .ref q2, .ref q3, .ref q4, .ref q5, .int 0, .null, .int 0, .int 0, .int 0])), (q1, .inl (cI, 59, .inl (fun _ => 0))), (q2, .inl (cI, 59, .inl (fun _ => 0))), (q3, .inl (cI, 59, .inl (fun _ => 0))), (q4, .inl (cI, 59, .inl (fun _ => 0))), (q5, .inl (cI, 59, .inl (fun _ => 0)))] := hD
  refine lv_aload_n hx hb d_Lk_init_44 rfl (lv_at hl 0 rfl) ?_
  refine lv_sipush (v := 9000) hx hb d_Lk_init_45 (by decide) ?_
  refine ra_new (atype := .int) (D := D) hx hb (hG _ ac_int) rfl (fun _ h => by cases h) hK hP hD hS hA 0 rfl (9000, .inl (fun _ => 0)) (fun _ => rfl) (by decide +kernel) (by decide +kernel) (Nat.le_of_ble_eq_true rfl) (Nat.le_of_ble_eq_true rfl) (Nat.le_of_ble_eq_true rfl) d_Lk_init_48 (fun q6 H hP hD hS => ?_)
  have hP : va_P D kl [(h0, .inr (4, [.null, .null, .null, .ref q1, .ref q2, .ref q3, .ref q4, .ref q5, .int 0, .null, .int 0, .int 0, .int 0])), (q1, .inl (cI, 59, .inl (fun _ => 0))), (q2, .inl (cI, 59, .inl (fun _ => 0))), (q3, .inl (cI, 59, .inl (fun _ => 0))), (q4, .inl (cI, 59, .inl (fun _ => 0))), (q5, .inl (cI, 59, .inl (fun _ => 0))), (q6, .inl (cI, 9000, .inl (fun _ => 0)))] H := hP
  have hD : va_D A [(h0, .inr (4, [.null, .null, .null, .ref q1, .ref q2, .ref q3, .ref q4, .ref q5, .int 0, .null, .int 0, .int 0, .int 0])), (q1, .inl (cI, 59, .inl (fun _ => 0))), (q2, .inl (cI, 59, .inl (fun _ => 0))), (q3, .inl (cI, 59, .inl (fun _ => 0))), (q4, .inl (cI, 59, .inl (fun _ => 0))), (q5, .inl (cI, 59, .inl (fun _ => 0))), (q6, .inl (cI, 9000, .inl (fun _ => 0)))] := hD
  refine W.widen (k := 6) (n := 9295) (Nat.le_of_ble_eq_true rfl) (Nat.le_of_ble_eq_true rfl) ?_
  refine va_putF (D := D) (ci := 4) (v := .ref q6) (ty := .array .int) (C := R_Lk) (T := T_Lk) (N := 13) hx hb hG gi_Lk ty_Lk to_Lk nm_Lk hown hK hP hD hS 0 rfl rfl 9 (by decide) (hG _ fl_Lk_27) (fun _ h9 => h9) rfl hin rfl (by decide +kernel) rfl rfl (Nat.le_of_ble_eq_true rfl) d_Lk_init_50 (fun H locs hP hD hS => ?_)
  have hP : va_P D kl [(h0, .inr (4, [.null, .null, .null, .ref q1, .ref q2, .ref q3, .ref q4, .ref q5, .int 0, .ref q6, .int 0, .int 0, .int 0])), (q1, .inl (cI, 59, .inl (fun _ => 0))), (q2, .inl (cI, 59, .inl (fun _ => 0))), (q3, .inl (cI, 59, .inl (fun _ => 0))), (q4, .inl (cI, 59, .inl (fun _ => 0))), (q5, .inl (cI, 59, .inl (fun _ => 0))), (q6, .inl (cI, 9000, .inl (fun _ => 0)))] H := hP
  have hD : va_D A [(h0, .inr (4, [.null, .null, .null, .ref q1, .ref q2, .ref q3, .ref q4, .ref q5, .int 0, .ref q6, .int 0, .int 0, .int 0])), (q1, .inl (cI, 59, .inl (fun _ => 0))), (q2, .inl (cI, 59, .inl (fun _ => 0))), (q3, .inl (cI, 59, .inl (fun _ => 0))), (q4, .inl (cI, 59, .inl (fun _ => 0))), (q5, .inl (cI, 59, .inl (fun _ => 0))), (q6, .inl (cI, 9000, .inl (fun _ => 0)))] := hD
  refine lv_aload_n hx hb d_Lk_init_53 rfl (lv_at hl 0 rfl) ?_
  refine lv_aload_n hx hb d_Lk_init_54 rfl (lv_at hl 1 rfl) ?_
  refine va_putF (D := D) (ci := 4) (v := .ref g1) (ty := .object "StreamNodes$Nodes") (C := R_Lk) (T := T_Lk) (N := 13) hx hb hG gi_Lk ty_Lk to_Lk nm_Lk hown hK hP hD hS 0 rfl rfl 0 (by decide) (hG _ fl_Lk_30) (fun _ h9 => h9) rfl hin rfl (by decide +kernel) rfl rfl (Nat.le_of_ble_eq_true rfl) d_Lk_init_55 (fun H locs hP hD hS => ?_)
  have hP : va_P D kl [(h0, .inr (4, [.ref g1, .null, .null, .ref q1, .ref q2, .ref q3, .ref q4, .ref q5, .int 0, .ref q6, .int 0, .int 0, .int 0])), (q1, .inl (cI, 59, .inl (fun _ => 0))), (q2, .inl (cI, 59, .inl (fun _ => 0))), (q3, .inl (cI, 59, .inl (fun _ => 0))), (q4, .inl (cI, 59, .inl (fun _ => 0))), (q5, .inl (cI, 59, .inl (fun _ => 0))), (q6, .inl (cI, 9000, .inl (fun _ => 0)))] H := hP
  have hD : va_D A [(h0, .inr (4, [.ref g1, .null, .null, .ref q1, .ref q2, .ref q3, .ref q4, .ref q5, .int 0, .ref q6, .int 0, .int 0, .int 0])), (q1, .inl (cI, 59, .inl (fun _ => 0))), (q2, .inl (cI, 59, .inl (fun _ => 0))), (q3, .inl (cI, 59, .inl (fun _ => 0))), (q4, .inl (cI, 59, .inl (fun _ => 0))), (q5, .inl (cI, 59, .inl (fun _ => 0))), (q6, .inl (cI, 9000, .inl (fun _ => 0)))] := hD
  refine lv_aload_n hx hb d_Lk_init_58 rfl (lv_at hl 0 rfl) ?_
  refine lv_aload_n hx hb d_Lk_init_59 rfl (lv_at hl 2 rfl) ?_
  refine va_putF (D := D) (ci := 4) (v := .ref g2) (ty := .object "StreamNodes$Code") (C := R_Lk) (T := T_Lk) (N := 13) hx hb hG gi_Lk ty_Lk to_Lk nm_Lk hown hK hP hD hS 0 rfl rfl 1 (by decide) (hG _ fl_Lk_34) (fun _ h9 => h9) rfl hin rfl (by decide +kernel) rfl rfl (Nat.le_of_ble_eq_true rfl) d_Lk_init_60 (fun H locs hP hD hS => ?_)
  have hP : va_P D kl [(h0, .inr (4, [.ref g1, .ref g2, .null, .ref q1, .ref q2, .ref q3, .ref q4, .ref q5, .int 0, .ref q6, .int 0, .int 0, .int 0])), (q1, .inl (cI, 59, .inl (fun _ => 0))), (q2, .inl (cI, 59, .inl (fun _ => 0))), (q3, .inl (cI, 59, .inl (fun _ => 0))), (q4, .inl (cI, 59, .inl (fun _ => 0))), (q5, .inl (cI, 59, .inl (fun _ => 0))), (q6, .inl (cI, 9000, .inl (fun _ => 0)))] H := hP
  have hD : va_D A [(h0, .inr (4, [.ref g1, .ref g2, .null, .ref q1, .ref q2, .ref q3, .ref q4, .ref q5, .int 0, .ref q6, .int 0, .int 0, .int 0])), (q1, .inl (cI, 59, .inl (fun _ => 0))), (q2, .inl (cI, 59, .inl (fun _ => 0))), (q3, .inl (cI, 59, .inl (fun _ => 0))), (q4, .inl (cI, 59, .inl (fun _ => 0))), (q5, .inl (cI, 59, .inl (fun _ => 0))), (q6, .inl (cI, 9000, .inl (fun _ => 0)))] := hD
  refine lv_aload_n hx hb d_Lk_init_63 rfl (lv_at hl 0 rfl) ?_
  refine lv_aload_n hx hb d_Lk_init_64 rfl (lv_at hl 3 rfl) ?_
  refine va_putF (D := D) (ci := 4) (v := .ref g3) (ty := .object "StreamNodes$Slots") (C := R_Lk) (T := T_Lk) (N := 13) hx hb hG gi_Lk ty_Lk to_Lk nm_Lk hown hK hP hD hS 0 rfl rfl 2 (by decide) (hG _ fl_Lk_38) (fun _ h9 => h9) rfl hin rfl (by decide +kernel) rfl rfl (Nat.le_of_ble_eq_true rfl) d_Lk_init_65 (fun H locs hP hD hS => ?_)
  have hP : va_P D kl [(h0, .inr (4, [.ref g1, .ref g2, .ref g3, .ref q1, .ref q2, .ref q3, .ref q4, .ref q5, .int 0, .ref q6, .int 0, .int 0, .int 0])), (q1, .inl (cI, 59, .inl (fun _ => 0))), (q2, .inl (cI, 59, .inl (fun _ => 0))), (q3, .inl (cI, 59, .inl (fun _ => 0))), (q4, .inl (cI, 59, .inl (fun _ => 0))), (q5, .inl (cI, 59, .inl (fun _ => 0))), (q6, .inl (cI, 9000, .inl (fun _ => 0)))] H := hP
  have hD : va_D A [(h0, .inr (4, [.ref g1, .ref g2, .ref g3, .ref q1, .ref q2, .ref q3, .ref q4, .ref q5, .int 0, .ref q6, .int 0, .int 0, .int 0])), (q1, .inl (cI, 59, .inl (fun _ => 0))), (q2, .inl (cI, 59, .inl (fun _ => 0))), (q3, .inl (cI, 59, .inl (fun _ => 0))), (q4, .inl (cI, 59, .inl (fun _ => 0))), (q5, .inl (cI, 59, .inl (fun _ => 0))), (q6, .inl (cI, 9000, .inl (fun _ => 0)))] := hD
  exact W.vret hx hb hr (fun t ht hW => ⟨⟨(), rfl, trivial, q1, q2, q3, q4, q5, q6, by rw [ht]; exact hP, hD⟩, hS.F ht⟩) hS.2.2 d_Lk_init_68

theorem d_Od_init_0 : decode b_Od_init 0 = .ok (.aload_n 0, 1) := by decide +kernel
theorem d_Od_init_1 : decode b_Od_init 1 = .ok (.invokespecial 3, 3) := by decide +kernel
theorem d_Od_init_4 : decode b_Od_init 4 = .ok (.aload_n 0, 1) := by decide +kernel
theorem d_Od_init_5 : decode b_Od_init 5 = .ok (.sipush 9001, 3) := by decide +kernel
theorem d_Od_init_8 : decode b_Od_init 8 = .ok (.newarray .int, 2) := by decide +kernel
theorem d_Od_init_10 : decode b_Od_init 10 = .ok (.putfield 9, 3) := by decide +kernel
theorem d_Od_init_13 : decode b_Od_init 13 = .ok (.aload_n 0, 1) := by decide +kernel
theorem d_Od_init_14 : decode b_Od_init 14 = .ok (.sipush 9001, 3) := by decide +kernel
theorem d_Od_init_17 : decode b_Od_init 17 = .ok (.newarray .int, 2) := by decide +kernel
theorem d_Od_init_19 : decode b_Od_init 19 = .ok (.putfield 15, 3) := by decide +kernel
theorem d_Od_init_22 : decode b_Od_init 22 = .ok (.aload_n 0, 1) := by decide +kernel
theorem d_Od_init_23 : decode b_Od_init 23 = .ok (.sipush 9001, 3) := by decide +kernel
theorem d_Od_init_26 : decode b_Od_init 26 = .ok (.newarray .int, 2) := by decide +kernel
theorem d_Od_init_28 : decode b_Od_init 28 = .ok (.putfield 18, 3) := by decide +kernel
theorem d_Od_init_31 : decode b_Od_init 31 = .ok (.aload_n 0, 1) := by decide +kernel
theorem d_Od_init_32 : decode b_Od_init 32 = .ok (.sipush 9001, 3) := by decide +kernel
theorem d_Od_init_35 : decode b_Od_init 35 = .ok (.newarray .int, 2) := by decide +kernel
theorem d_Od_init_37 : decode b_Od_init 37 = .ok (.putfield 21, 3) := by decide +kernel
theorem d_Od_init_40 : decode b_Od_init 40 = .ok (.aload_n 0, 1) := by decide +kernel
theorem d_Od_init_41 : decode b_Od_init 41 = .ok (.sipush 9001, 3) := by decide +kernel
theorem d_Od_init_44 : decode b_Od_init 44 = .ok (.newarray .int, 2) := by decide +kernel
theorem d_Od_init_46 : decode b_Od_init 46 = .ok (.putfield 24, 3) := by decide +kernel
theorem d_Od_init_49 : decode b_Od_init 49 = .ok (.aload_n 0, 1) := by decide +kernel
theorem d_Od_init_50 : decode b_Od_init 50 = .ok (.sipush 9001, 3) := by decide +kernel
theorem d_Od_init_53 : decode b_Od_init 53 = .ok (.newarray .int, 2) := by decide +kernel
theorem d_Od_init_55 : decode b_Od_init 55 = .ok (.putfield 27, 3) := by decide +kernel
theorem d_Od_init_58 : decode b_Od_init 58 = .ok (.aload_n 0, 1) := by decide +kernel
theorem d_Od_init_59 : decode b_Od_init 59 = .ok (.sipush 9001, 3) := by decide +kernel
theorem d_Od_init_62 : decode b_Od_init 62 = .ok (.newarray .int, 2) := by decide +kernel
theorem d_Od_init_64 : decode b_Od_init 64 = .ok (.putfield 30, 3) := by decide +kernel
theorem d_Od_init_67 : decode b_Od_init 67 = .ok (.aload_n 0, 1) := by decide +kernel
theorem d_Od_init_68 : decode b_Od_init 68 = .ok (.aload_n 1, 1) := by decide +kernel
theorem d_Od_init_69 : decode b_Od_init 69 = .ok (.putfield 33, 3) := by decide +kernel
theorem d_Od_init_72 : decode b_Od_init 72 = .ok (.return_, 1) := by decide +kernel
set_option maxHeartbeats 4000000 in
set_option maxRecDepth 100000 in
theorem c_Od_init (l : Launch) (D : va_G) (cI cB cJ cZ : ClassId) (sz : Nat) (h0 g1 : Nat) : Met l y_Od_init (Cond.code y_Od_init b_Od_init 2 none :: gG) { frames := 1, cells := 7, slots := 63007, locals := 12 } (va_Pc [.ref h0, .ref g1] (ct_P D (tyL cI cB cJ cZ) [(h0, .inr (7, [.null, .null, .null, .null, .null, .null, .null, .null, .int 0, .int 0, .int 0, .int 0, .int 0, .int 0]))] sz)) (va_Qv (fun _ : Unit => True) (fun _ t => ∃ q1 q2 q3 q4 q5 q6 q7 : Nat, va_P D kl [(h0, .inr (7, [.ref g1, .ref q1, .ref q2, .ref q3, .ref q4, .ref q5, .ref q6, .ref q7, .int 0, .int 0, .int 0, .int 0, .int 0, .int 0])), (q1, .inl (cI, 9001, .inl (fun _ => 0))), (q2, .inl (cI, 9001, .inl (fun _ => 0))), (q3, .inl (cI, 9001, .inl (fun _ => 0))), (q4, .inl (cI, 9001, .inl (fun _ => 0))), (q5, .inl (cI, 9001, .inl (fun _ => 0))), (q6, .inl (cI, 9001, .inl (fun _ => 0))), (q7, .inl (cI, 9001, .inl (fun _ => 0)))] t.heap ∧ va_D (va_A [(h0, .inr (7, [.null, .null, .null, .null, .null, .null, .null, .null, .int 0, .int 0, .int 0, .int 0, .int 0, .int 0]))] sz) [(h0, .inr (7, [.ref g1, .ref q1, .ref q2, .ref q3, .ref q4, .ref q5, .ref q6, .ref q7, .int 0, .int 0, .int 0, .int 0, .int 0, .int 0])), (q1, .inl (cI, 9001, .inl (fun _ => 0))), (q2, .inl (cI, 9001, .inl (fun _ => 0))), (q3, .inl (cI, 9001, .inl (fun _ => 0))), (q4, .inl (cI, 9001, .inl (fun _ => 0))), (q5, .inl (cI, 9001, .inl (fun _ => 0))), (q6, .inl (cI, 9001, .inl (fun _ => 0))), (q7, .inl (cI, 9001, .inl (fun _ => 0)))]) (va_A [(h0, .inr (7, [.null, .null, .null, .null, .null, .null, .null, .null, .int 0, .int 0, .int 0, .int 0, .int 0, .int 0]))] sz)) 7 63007 (va_A [(h0, .inr (7, [.null, .null, .null, .null, .null, .null, .null, .null, .int 0, .int 0, .int 0, .int 0, .int 0, .int 0]))] sz) := by
  refine Met.ofW (cc := b_Od_init) (maxL := 2) (ret := none) (by decide) rfl ?_
  intro p e s m args below meth c s₁ B hml hv
  obtain ⟨rfl, hsz, hP, hK, hD0⟩ := hv
  have hx := B.exec
  have hb := B.bytes
  have hr := B.returns
  have hts := atoms_spec (ws := Cond.code y_Od_init b_Od_init 2 none :: gG) B.pre
  have hG : ∀ w ∈ gG, w.before [.ref h0, .ref g1].toArray s = true := fun w h => hts w (List.mem_cons_of_mem _ h)
  have hown : s.vm.findClass R_Od = some m.cls := findClass_of_methodNamed B.named
  have hlocks := B.notSynchronized
  have hin : meth.name = "<init>" := (name_of_methodNamed B.named B.method).1
  subst hsz
  have hD := hD0.self (sz := s.heap.size)
  generalize hAe : va_A [(h0, .inr (7, [.null, .null, .null, .null, .null, .null, .null, .null, .int 0, .int 0, .int 0, .int 0, .int 0, .int 0]))] s.heap.size = A at hD ⊢
  have hA : ∀ q : Nat, s.heap.size ≤ q → A q := fun q h => by rw [← hAe]; exact Or.inr h
  have hS : va_S A s.heap s.heap [] := va_S.rf
  have hl := lv_entry ([.ref h0, .ref g1]) (n := 2) (Nat.le_of_ble_eq_true rfl)
  rw [lg_entry_eq]
  generalize (lg_sl ([.ref h0, .ref g1]) ++ List.replicate (2 - (lg_sl ([.ref h0, .ref g1])).length) Slot.unset).toArray = ls at hl ⊢
  have hl : lv_has ls 2 [(0, .ref h0), (1, .ref g1)] := hl
  refine lv_aload_n hx hb d_Od_init_0 rfl (lv_at hl 0 rfl) ?_
  refine W.objInit hx hb hown (hG _ ml_Od_3) (hG _ im_java_lang_Object_init) (hG _ co_java_lang_Object_init) rfl (by rw [hml]; exact hl.1) rfl d_Od_init_1 (Nat.le_of_ble_eq_true rfl) (Nat.le_of_ble_eq_true rfl) ?_
  refine W.eq (g2 := F0 m 4 ls []) rfl ?_
  refine lv_aload_n hx hb d_Od_init_4 rfl (lv_at hl 0 rfl) ?_
  refine lv_sipush (v := 9001) hx hb d_Od_init_5 (by decide) ?_
  refine ra_new (atype := .int) (D := D) hx hb (hG _ ac_int) rfl (fun _ h => by cases h) hK hP hD hS hA 0 rfl (9001, .inl (fun _ => 0)) (fun _ => rfl) (by decide +kernel) (by decide +kernel) (Nat.le_of_ble_eq_true rfl) (Nat.le_of_ble_eq_true rfl) (Nat.le_of_ble_eq_true rfl) d_Od_init_8 (fun q1 H hP hD hS => ?_)
  have hP : va_P D kl [(h0, .inr (7, [.null, .null, .null, .null, .null, .null, .null, .null, .int 0, .int 0, .int 0, .int 0, .int 0, .int 0])), (q1, .inl (cI, 9001, .inl (fun _ => 0)))] H := hP
  have hD : va_D A [(h0, .inr (7, [.null, .null, .null, .null, .null, .null, .null, .null, .int 0, .int 0, .int 0, .int 0, .int 0, .int 0])), (q1, .inl (cI, 9001, .inl (fun _ => 0)))] := hD
  refine W.widen (k := 1) (n := 9001) (Nat.le_of_ble_eq_true rfl) (Nat.le_of_ble_eq_true rfl) ?_
  refine va_putF (D := D) (ci := 7) (v := .ref q1) (ty := .array .int) (C := R_Od) (T := T_Od) (N := 14) hx hb hG gi_Od ty_Od to_Od nm_Od hown hK hP hD hS 0 rfl rfl 1 (by decide) (hG _ fl_Od_9) (fun _ h9 => h9) rfl hin rfl (by decide +kernel) rfl rfl (Nat.le_of_ble_eq_true rfl) d_Od_init_10 (fun H locs hP hD hS => ?_)
  have hP : va_P D kl [(h0, .inr (7, [.null, .ref q1, .null, .null, .null, .null, .null, .null, .int 0, .int 0, .int 0, .int 0, .int 0, .int 0])), (q1, .inl (cI, 9001, .inl (fun _ => 0)))] H := hP
  have hD : va_D A [(h0, .inr (7, [.null, .ref q1, .null, .null, .null, .null, .null, .null, .int 0, .int 0, .int 0, .int 0, .int 0, .int 0])), (q1, .inl (cI, 9001, .inl (fun _ => 0)))] := hD
  refine lv_aload_n hx hb d_Od_init_13 rfl (lv_at hl 0 rfl) ?_
  refine lv_sipush (v := 9001) hx hb d_Od_init_14 (by decide) ?_
  refine ra_new (atype := .int) (D := D) hx hb (hG _ ac_int) rfl (fun _ h => by cases h) hK hP hD hS hA 0 rfl (9001, .inl (fun _ => 0)) (fun _ => rfl) (by decide +kernel) (by decide +kernel) (Nat.le_of_ble_eq_true rfl) (Nat.le_of_ble_eq_true rfl) (Nat.le_of_ble_eq_true rfl) d_Od_init_17 (fun q2 H hP hD hS => ?_)
  have hP : va_P D kl [(h0, .inr (7, [.null, .ref q1, .null, .null, .null, .null, .null, .null, .int 0, .int 0, .int 0, .int 0, .int 0, .int 0])), (q1, .inl (cI, 9001, .inl (fun _ => 0))), (q2, .inl (cI, 9001, .inl (fun _ => 0)))] H := hP
  have hD : va_D A [(h0, .inr (7, [.null, .ref q1, .null, .null, .null, .null, .null, .null, .int 0, .int 0, .int 0, .int 0, .int 0, .int 0])), (q1, .inl (cI, 9001, .inl (fun _ => 0))), (q2, .inl (cI, 9001, .inl (fun _ => 0)))] := hD
  refine W.widen (k := 2) (n := 18002) (Nat.le_of_ble_eq_true rfl) (Nat.le_of_ble_eq_true rfl) ?_
  refine va_putF (D := D) (ci := 7) (v := .ref q2) (ty := .array .int) (C := R_Od) (T := T_Od) (N := 14) hx hb hG gi_Od ty_Od to_Od nm_Od hown hK hP hD hS 0 rfl rfl 2 (by decide) (hG _ fl_Od_15) (fun _ h9 => h9) rfl hin rfl (by decide +kernel) rfl rfl (Nat.le_of_ble_eq_true rfl) d_Od_init_19 (fun H locs hP hD hS => ?_)
  have hP : va_P D kl [(h0, .inr (7, [.null, .ref q1, .ref q2, .null, .null, .null, .null, .null, .int 0, .int 0, .int 0, .int 0, .int 0, .int 0])), (q1, .inl (cI, 9001, .inl (fun _ => 0))), (q2, .inl (cI, 9001, .inl (fun _ => 0)))] H := hP
  have hD : va_D A [(h0, .inr (7, [.null, .ref q1, .ref q2, .null, .null, .null, .null, .null, .int 0, .int 0, .int 0, .int 0, .int 0, .int 0])), (q1, .inl (cI, 9001, .inl (fun _ => 0))), (q2, .inl (cI, 9001, .inl (fun _ => 0)))] := hD
  refine lv_aload_n hx hb d_Od_init_22 rfl (lv_at hl 0 rfl) ?_
  refine lv_sipush (v := 9001) hx hb d_Od_init_23 (by decide) ?_
  refine ra_new (atype := .int) (D := D) hx hb (hG _ ac_int) rfl (fun _ h => by cases h) hK hP hD hS hA 0 rfl (9001, .inl (fun _ => 0)) (fun _ => rfl) (by decide +kernel) (by decide +kernel) (Nat.le_of_ble_eq_true rfl) (Nat.le_of_ble_eq_true rfl) (Nat.le_of_ble_eq_true rfl) d_Od_init_26 (fun q3 H hP hD hS => ?_)
  have hP : va_P D kl [(h0, .inr (7, [.null, .ref q1, .ref q2, .null, .null, .null, .null, .null, .int 0, .int 0, .int 0, .int 0, .int 0, .int 0])), (q1, .inl (cI, 9001, .inl (fun _ => 0))), (q2, .inl (cI, 9001, .inl (fun _ => 0))), (q3, .inl (cI, 9001, .inl (fun _ => 0)))] H := hP
  have hD : va_D A [(h0, .inr (7, [.null, .ref q1, .ref q2, .null, .null, .null, .null, .null, .int 0, .int 0, .int 0, .int 0, .int 0, .int 0])), (q1, .inl (cI, 9001, .inl (fun _ => 0))), (q2, .inl (cI, 9001, .inl (fun _ => 0))), (q3, .inl (cI, 9001, .inl (fun _ => 0)))] := hD
  refine W.widen (k := 3) (n := 27003) (Nat.le_of_ble_eq_true rfl) (Nat.le_of_ble_eq_true rfl) ?_
  refine va_putF (D := D) (ci := 7) (v := .ref q3) (ty := .array .int) (C := R_Od) (T := T_Od) (N := 14) hx hb hG gi_Od ty_Od to_Od nm_Od hown hK hP hD hS 0 rfl rfl 3 (by decide) (hG _ fl_Od_18) (fun _ h9 => h9) rfl hin rfl (by decide +kernel) rfl rfl (Nat.le_of_ble_eq_true rfl) d_Od_init_28 (fun H locs hP hD hS => ?_)
  have hP : va_P D kl [(h0, .inr (7, [.null, .ref q1, .ref q2, .ref q3, .null, .null, .null, .null, .int 0, .int 0, .int 0, .int 0, .int 0, .int 0])), (q1, .inl (cI, 9001, .inl (fun _ => 0))), (q2, .inl (cI, 9001, .inl (fun _ => 0))), (q3, .inl (cI, 9001, .inl (fun _ => 0)))] H := hP
  have hD : va_D A [(h0, .inr (7, [.null, .ref q1, .ref q2, .ref q3, .null, .null, .null, .null, .int 0, .int 0, .int 0, .int 0, .int 0, .int 0])), (q1, .inl (cI, 9001, .inl (fun _ => 0))), (q2, .inl (cI, 9001, .inl (fun _ => 0))), (q3, .inl (cI, 9001, .inl (fun _ => 0)))] := hD
  refine lv_aload_n hx hb d_Od_init_31 rfl (lv_at hl 0 rfl) ?_
  refine lv_sipush (v := 9001) hx hb d_Od_init_32 (by decide) ?_
  refine ra_new (atype := .int) (D := D) hx hb (hG _ ac_int) rfl (fun _ h => by cases h) hK hP hD hS hA 0 rfl (9001, .inl (fun _ => 0)) (fun _ => rfl) (by decide +kernel) (by decide +kernel) (Nat.le_of_ble_eq_true rfl) (Nat.le_of_ble_eq_true rfl) (Nat.le_of_ble_eq_true rfl) d_Od_init_35 (fun q4 H hP hD hS => ?_)
  have hP : va_P D kl [(h0, .inr (7, [.null, .ref q1, .ref q2, .ref q3, .null, .null, .null, .null, .int 0, .int 0, .int 0, .int 0, .int 0, .int 0])), (q1, .inl (cI, 9001, .inl (fun _ => 0))), (q2, .inl (cI, 9001, .inl (fun _ => 0))), (q3, .inl (cI, 9001, .inl (fun _ => 0))), (q4, .inl (cI, 9001, .inl (fun _ => 0)))] H := hP
  have hD : va_D A [(h0, .inr (7, [.null, .ref q1, .ref q2, .ref q3, .null, .null, .null, .null, .int 0, .int 0, .int 0, .int 0, .int 0, .int 0])), (q1, .inl (cI, 9001, .inl (fun _ => 0))), (q2, .inl (cI, 9001, .inl (fun _ => 0))), (q3, .inl (cI, 9001, .inl (fun _ => 0))), (q4, .inl (cI, 9001, .inl (fun _ => 0)))] := hD
  refine W.widen (k := 4) (n := 36004) (Nat.le_of_ble_eq_true rfl) (Nat.le_of_ble_eq_true rfl) ?_
  refine va_putF (D := D) (ci := 7) (v := .ref q4) (ty := .array .int) (C := R_Od) (T := T_Od) (N := 14) hx hb hG gi_Od ty_Od to_Od nm_Od hown hK hP hD hS 0 rfl rfl 4 (by decide) (hG _ fl_Od_21) (fun _ h9 => h9) rfl hin rfl (by decide +kernel) rfl rfl (Nat.le_of_ble_eq_true rfl) d_Od_init_37 (fun H locs hP hD hS => ?_)
  have hP : va_P D kl [(h0, .inr (7, [.null, .ref q1, .ref q2, .ref q3, .ref q4, .null, .null, .null, .int 0, .int 0, .int 0, .int 0, .int 0, .int 0])), (q1, .inl (cI, 9001, .inl (fun _ => 0))), (q2, .inl (cI, 9001, .inl (fun _ => 0))), (q3, .inl (cI, 9001, .inl (fun _ => 0))), (q4, .inl (cI, 9001, .inl (fun _ => 0)))] H := hP
  have hD : va_D A [(h0, .inr (7, [.null, .ref q1, .ref q2, .ref q3, .ref q4, .null, .null, .null, .int 0, .int 0, .int 0, .int 0, .int 0, .int 0])), (q1, .inl (cI, 9001, .inl (fun _ => 0))), (q2, .inl (cI, 9001, .inl (fun _ => 0))), (q3, .inl (cI, 9001, .inl (fun _ => 0))), (q4, .inl (cI, 9001, .inl (fun _ => 0)))] := hD
  refine lv_aload_n hx hb d_Od_init_40 rfl (lv_at hl 0 rfl) ?_
  refine lv_sipush (v := 9001) hx hb d_Od_init_41 (by decide) ?_
  refine ra_new (atype := .int) (D := D) hx hb (hG _ ac_int) rfl (fun _ h => by cases h) hK hP hD hS hA 0 rfl (9001, .inl (fun _ => 0)) (fun _ => rfl) (by decide +kernel) (by decide +kernel) (Nat.le_of_ble_eq_true rfl) (Nat.le_of_ble_eq_true rfl) (Nat.le_of_ble_eq_true rfl) d_Od_init_44 (fun q5 H hP hD hS => ?_)
  have hP : va_P D kl [(h0, .inr (7, [.null, .ref q1, .ref q2, .ref q3, .ref q4, .null, .null, .null, .int 0, .int 0, .int 0, .int 0, .int 0, .int 0])), (q1, .inl (cI, 9001, .inl (fun _ => 0))), (q2, .inl (cI, 9001, .inl (fun _ => 0))), (q3, .inl (cI, 9001, .inl (fun _ => 0))), (q4, .inl (cI, 9001, .inl (fun _ => 0))), (q5, .inl (cI, 9001, .inl (fun _ => 0)))] H := hP
  have hD : va_D A [(h0, .inr (7, [.null, .ref q1, .ref q2, .ref q3, .ref q4, .null, .null, .null, .int 0, .int 0, .int 0, .int 0, .int 0, .int 0])), (q1, .inl (cI, 9001, .inl (fun _ => 0))), (q2, .inl (cI, 9001, .inl (fun _ => 0))), (q3, .inl (cI, 9001, .inl (fun _ => 0))), (q4, .inl (cI, 9001, .inl (fun _ => 0))), (q5, .inl (cI, 9001, .inl (fun _ => 0)))] := hD
  refine W.widen (k := 5) (n := 45005) (Nat.le_of_ble_eq_true rfl) (Nat.le_of_ble_eq_true rfl) ?_
  refine va_putF (D := D) (ci := 7) (v := .ref q5) (ty := .array .int) (C := R_Od) (T := T_Od) (N := 14) hx hb hG gi_Od ty_Od to_Od nm_Od hown hK hP hD hS 0 rfl rfl 5 (by decide) (hG _ fl_Od_24) (fun _ h9 => h9) rfl hin rfl (by decide +kernel) rfl rfl (Nat.le_of_ble_eq_true rfl) d_Od_init_46 (fun H locs hP hD hS => ?_)
  have hP : va_P D kl [(h0, .inr (7, [.null, .ref q1, .ref q2, .ref q3, .ref q4, .ref q5, .null, .null, .int 0, .int 0, .int 0, .int 0, .int 0, .int 0])), (q1, .inl (cI, 9001, .inl (fun _ => 0))), (q2, .inl (cI, 9001, .inl (fun _ => 0))), (q3, .inl (cI, 9001, .inl (fun _ => 0))), (q4, .inl (cI, 9001, .inl (fun _ => 0))), (q5, .inl (cI, 9001, .inl (fun _ => 0)))] H := hP
  have hD : va_D A [(h0, .inr (7, [.null, .ref q1, .ref q2, .ref q3, .ref q4, .ref q5, .null, .null, .int 0, .int 0, .int 0, .int 0, .int 0, .int 0])), (q1, .inl (cI, 9001, .inl (fun _ => 0))), (q2, .inl (cI, 9001, .inl (fun _ => 0))), (q3, .inl (cI, 9001, .inl (fun _ => 0))), (q4, .inl (cI, 9001, .inl (fun _ => 0))), (q5, .inl (cI, 9001, .inl (fun _ => 0)))] := hD
  refine lv_aload_n hx hb d_Od_init_49 rfl (lv_at hl 0 rfl) ?_
  refine lv_sipush (v := 9001) hx hb d_Od_init_50 (by decide) ?_
  refine ra_new (atype := .int) (D := D) hx hb (hG _ ac_int) rfl (fun _ h => by cases h) hK hP hD hS hA 0 rfl (9001, .inl (fun _ => 0)) (fun _ => rfl) (by decide +kernel) (by decide +kernel) (Nat.le_of_ble_eq_true rfl) (Nat.le_of_ble_eq_true rfl) (Nat.le_of_ble_eq_true rfl) d_Od_init_53 (fun q6 H hP hD hS => ?_)
  have hP : va_P D kl [(h0, .inr (7, [.null, .ref q1, .ref q2, .ref q3, .ref q4, .ref q5, .null, .null, .int 0, .int 0, .int 0, .int 0, .int 0, .int 0])), (q1, .inl (cI, 9001, .inl (fun _ => 0))), (q2, .inl (cI, 9001, .inl (fun _ => 0))), (q3, .inl (cI, 9001, .inl (fun _ => 0))), (q4, .inl (cI, 9001, .inl (fun _ => 0))), (q5, .inl (cI, 9001, .inl (fun _ => 0))), (q6, .inl (cI, 9001, .inl (fun _ => 0)))] H := hP
  have hD : va_D A [(h0, .inr (7, [.null, .ref q1, .ref q2, .ref q3, .ref q4, .ref q5, .null, .null, .int 0, .int 0, .int 0, .int 0, .int 0, .int 0])), (q1, .inl (cI, 9001, .inl (fun _ => 0))), (q2, .inl (cI, 9001, .inl (fun _ => 0))), (q3, .inl (cI, 9001, .inl (fun _ => 0))), (q4, .inl (cI, 9001, .inl (fun _ => 0))), (q5, .inl (cI, 9001, .inl (fun _ => 0))), (q6, .inl (cI, 9001, .inl (fun _ => 0)))] := hD
  refine W.widen (k := 6) (n := 54006) (Nat.le_of_ble_eq_true rfl) (Nat.le_of_ble_eq_true rfl) ?_
  refine va_putF (D := D) (ci := 7) (v := .ref q6) (ty := .array .int) (C := R_Od) (T := T_Od) (N := 14) hx hb hG gi_Od ty_Od to_Od nm_Od hown hK hP hD hS 0 rfl rfl 6 (by decide) (hG _ fl_Od_27) (fun _ h9 => h9) rfl hin rfl (by decide +kernel) rfl rfl (Nat.le_of_ble_eq_true rfl) d_Od_init_55 (fun H locs hP hD hS => ?_)
  have hP : va_P D kl [(h0, .inr (7, [.null, .ref q1, .ref q2, .ref q3, .ref q4, .ref q5, .ref q6, .null, .int 0, .int 0, .int 0, .int 0, .int 0, .int 0])), (q1, .inl (cI, 9001, .inl (fun _ => 0))), (q2, .inl (cI, 9001, .inl (fun _ => 0))), (q3, .inl (cI, 9001, .inl (fun _ => 0))), (q4, .inl (cI, 9001, .inl (fun _ => 0))), (q5, .inl (cI, 9001, .inl (fun _ => 0))), (q6, .inl (cI, 9001, .inl (fun _ => 0)))] H := hP
  have hD : va_D A [(h0, .inr (7, [.null, .ref q1, .ref q2, .ref q3, .ref q4, .ref q5, .ref q6, .null, .int 0, .int 0, .int 0, .int 0, .int 0, .int 0])), (q1, .inl (cI, 9001, .inl (fun _ => 0))), (q2, .inl (cI, 9001, .inl (fun _ => 0))), (q3, .inl (cI, 9001, .inl (fun _ => 0))), (q4, .inl (cI, 9001, .inl (fun _ => 0))), (q5, .inl (cI, 9001, .inl (fun _ => 0))), (q6, .inl (cI, 9001, .inl (fun _ => 0)))] := hD
  refine lv_aload_n hx hb d_Od_init_58 rfl (lv_at hl 0 rfl) ?_
  refine lv_sipush (v := 9001) hx hb d_Od_init_59 (by decide) ?_
  refine ra_new (atype := .int) (D := D) hx hb (hG _ ac_int) rfl (fun _ h => by cases h) hK hP hD hS hA 0 rfl (9001, .inl (fun _ => 0)) (fun _ => rfl) (by decide +kernel) (by decide +kernel) (Nat.le_of_ble_eq_true rfl) (Nat.le_of_ble_eq_true rfl) (Nat.le_of_ble_eq_true rfl) d_Od_init_62 (fun q7 H hP hD hS => ?_)
  have hP : va_P D kl [(h0, .inr (7, [.null, .ref q1, .ref q2, .ref q3, .ref q4, .ref q5, .ref q6, .null, .int 0, .int 0, .int 0, .int 0, .int 0, .int 0])), (q1, .inl (cI, 9001, .inl (fun _ => 0))), (q2, .inl (cI, 9001, .inl (fun _ => 0))), (q3, .inl (cI, 9001, .inl (fun _ => 0))), (q4, .inl (cI, 9001, .inl (fun _ => 0))), (q5, .inl (cI, 9001, .inl (fun _ => 0))), (q6, .inl (cI, 9001, .inl (fun _ => 0))), (q7, .inl (cI, 9001, .inl (fun _ => 0)))] H := hP
  have hD : va_D A [(h0, .inr (7, [.null, .ref q1, .ref q2, .ref q3, .ref q4, .ref q5, .ref q6, .null, .int 0, .int 0, .int 0, .int 0, .int 0, .int 0])), (q1, .inl (cI, 9001, .inl (fun _ => 0))), (q2, .inl (cI, 9001, .inl (fun _ => 0))), (q3, .inl (cI, 9001, .inl (fun _ => 0))), (q4, .inl (cI, 9001, .inl (fun _ => 0))), (q5, .inl (cI, 9001, .inl (fun _ => 0))), (q6, .inl (cI, 9001, .inl (fun _ => 0))), (q7, .inl (cI, 9001, .inl (fun _ => 0)))] := hD
  refine W.widen (k := 7) (n := 63007) (Nat.le_of_ble_eq_true rfl) (Nat.le_of_ble_eq_true rfl) ?_
  refine va_putF (D := D) (ci := 7) (v := .ref q7) (ty := .array .int) (C := R_Od) (T := T_Od) (N := 14) hx hb hG gi_Od ty_Od to_Od nm_Od hown hK hP hD hS 0 rfl rfl 7 (by decide) (hG _ fl_Od_30) (fun _ h9 => h9) rfl hin rfl (by decide +kernel) rfl rfl (Nat.le_of_ble_eq_true rfl) d_Od_init_64 (fun H locs hP hD hS => ?_)
  have hP : va_P D kl [(h0, .inr (7, [.null, .ref q1, .ref q2, .ref q3, .ref q4, .ref q5, .ref q6, .ref q7, .int 0, .int 0, .int 0, .int 0, .int 0, .int 0])), (q1, .inl (cI, 9001, .inl (fun _ => 0))), (q2, .inl (cI, 9001, .inl (fun _ => 0))), (q3, .inl (cI, 9001, .inl (fun _ => 0))), (q4, .inl (cI, 9001, .inl (fun _ => 0))), (q5, .inl (cI, 9001, .inl (fun _ => 0))), (q6, .inl (cI, 9001, .inl (fun _ => 0))), (q7, .inl (cI, 9001, .inl (fun _ => 0)))] H := hP
  have hD : va_D A [(h0, .inr (7, [.null, .ref q1, .ref q2, .ref q3, .ref q4, .ref q5, .ref q6, .ref q7, .int 0, .int 0, .int 0, .int 0, .int 0, .int 0])), (q1, .inl (cI, 9001, .inl (fun _ => 0))), (q2, .inl (cI, 9001, .inl (fun _ => 0))), (q3, .inl (cI, 9001, .inl (fun _ => 0))), (q4, .inl (cI, 9001, .inl (fun _ => 0))), (q5, .inl (cI, 9001, .inl (fun _ => 0))), (q6, .inl (cI, 9001, .inl (fun _ => 0))), (q7, .inl (cI, 9001, .inl (fun _ => 0)))] := hD
  refine lv_aload_n hx hb d_Od_init_67 rfl (lv_at hl 0 rfl) ?_
  refine lv_aload_n hx hb d_Od_init_68 rfl (lv_at hl 1 rfl) ?_
  refine va_putF (D := D) (ci := 7) (v := .ref g1) (ty := .object "StreamNodes$Slots") (C := R_Od) (T := T_Od) (N := 14) hx hb hG gi_Od ty_Od to_Od nm_Od hown hK hP hD hS 0 rfl rfl 0 (by decide) (hG _ fl_Od_33) (fun _ h9 => h9) rfl hin rfl (by decide +kernel) rfl rfl (Nat.le_of_ble_eq_true rfl) d_Od_init_69 (fun H locs hP hD hS => ?_)
  have hP : va_P D kl [(h0, .inr (7, [.ref g1, .ref q1, .ref q2, .ref q3, .ref q4, .ref q5, .ref q6, .ref q7, .int 0, .int 0, .int 0, .int 0, .int 0, .int 0])), (q1, .inl (cI, 9001, .inl (fun _ => 0))), (q2, .inl (cI, 9001, .inl (fun _ => 0))), (q3, .inl (cI, 9001, .inl (fun _ => 0))), (q4, .inl (cI, 9001, .inl (fun _ => 0))), (q5, .inl (cI, 9001, .inl (fun _ => 0))), (q6, .inl (cI, 9001, .inl (fun _ => 0))), (q7, .inl (cI, 9001, .inl (fun _ => 0)))] H := hP
  have hD : va_D A [(h0, .inr (7, [.ref g1, .ref q1, .ref q2, .ref q3, .ref q4, .ref q5, .ref q6, .ref q7, .int 0, .int 0, .int 0, .int 0, .int 0, .int 0])), (q1, .inl (cI, 9001, .inl (fun _ => 0))), (q2, .inl (cI, 9001, .inl (fun _ => 0))), (q3, .inl (cI, 9001, .inl (fun _ => 0))), (q4, .inl (cI, 9001, .inl (fun _ => 0))), (q5, .inl (cI, 9001, .inl (fun _ => 0))), (q6, .inl (cI, 9001, .inl (fun _ => 0))), (q7, .inl (cI, 9001, .inl (fun _ => 0)))] := hD
  exact W.vret hx hb hr (fun t ht hW => ⟨⟨(), rfl, trivial, q1, q2, q3, q4, q5, q6, q7, by rw [ht]; exact hP, hD⟩, hS.F ht⟩) hS.2.2 d_Od_init_72

theorem d_Pg_init_0 : decode b_Pg_init 0 = .ok (.aload_n 0, 1) := by decide +kernel
theorem d_Pg_init_1 : decode b_Pg_init 1 = .ok (.invokespecial 3, 3) := by decide +kernel
theorem d_Pg_init_4 : decode b_Pg_init 4 = .ok (.aload_n 0, 1) := by decide +kernel
theorem d_Pg_init_5 : decode b_Pg_init 5 = .ok (.bipush 99, 2) := by decide +kernel
theorem d_Pg_init_7 : decode b_Pg_init 7 = .ok (.newarray .long, 2) := by decide +kernel
theorem d_Pg_init_9 : decode b_Pg_init 9 = .ok (.putfield 9, 3) := by decide +kernel
theorem d_Pg_init_12 : decode b_Pg_init 12 = .ok (.aload_n 0, 1) := by decide +kernel
theorem d_Pg_init_13 : decode b_Pg_init 13 = .ok (.bipush 99, 2) := by decide +kernel
theorem d_Pg_init_15 : decode b_Pg_init 15 = .ok (.newarray .long, 2) := by decide +kernel
theorem d_Pg_init_17 : decode b_Pg_init 17 = .ok (.putfield 15, 3) := by decide +kernel
theorem d_Pg_init_20 : decode b_Pg_init 20 = .ok (.aload_n 0, 1) := by decide +kernel
theorem d_Pg_init_21 : decode b_Pg_init 21 = .ok (.sipush 9001, 3) := by decide +kernel
theorem d_Pg_init_24 : decode b_Pg_init 24 = .ok (.newarray .int, 2) := by decide +kernel
theorem d_Pg_init_26 : decode b_Pg_init 26 = .ok (.putfield 18, 3) := by decide +kernel
theorem d_Pg_init_29 : decode b_Pg_init 29 = .ok (.aload_n 0, 1) := by decide +kernel
theorem d_Pg_init_30 : decode b_Pg_init 30 = .ok (.sipush 9001, 3) := by decide +kernel
theorem d_Pg_init_33 : decode b_Pg_init 33 = .ok (.newarray .int, 2) := by decide +kernel
theorem d_Pg_init_35 : decode b_Pg_init 35 = .ok (.putfield 22, 3) := by decide +kernel
theorem d_Pg_init_38 : decode b_Pg_init 38 = .ok (.aload_n 0, 1) := by decide +kernel
theorem d_Pg_init_39 : decode b_Pg_init 39 = .ok (.sipush 18000, 3) := by decide +kernel
theorem d_Pg_init_42 : decode b_Pg_init 42 = .ok (.newarray .int, 2) := by decide +kernel
theorem d_Pg_init_44 : decode b_Pg_init 44 = .ok (.putfield 25, 3) := by decide +kernel
theorem d_Pg_init_47 : decode b_Pg_init 47 = .ok (.aload_n 0, 1) := by decide +kernel
theorem d_Pg_init_48 : decode b_Pg_init 48 = .ok (.sipush 6000, 3) := by decide +kernel
theorem d_Pg_init_51 : decode b_Pg_init 51 = .ok (.newarray .int, 2) := by decide +kernel
theorem d_Pg_init_53 : decode b_Pg_init 53 = .ok (.putfield 28, 3) := by decide +kernel
theorem d_Pg_init_56 : decode b_Pg_init 56 = .ok (.aload_n 0, 1) := by decide +kernel
theorem d_Pg_init_57 : decode b_Pg_init 57 = .ok (.sipush 6000, 3) := by decide +kernel
theorem d_Pg_init_60 : decode b_Pg_init 60 = .ok (.newarray .int, 2) := by decide +kernel
theorem d_Pg_init_62 : decode b_Pg_init 62 = .ok (.putfield 31, 3) := by decide +kernel
theorem d_Pg_init_65 : decode b_Pg_init 65 = .ok (.aload_n 0, 1) := by decide +kernel
theorem d_Pg_init_66 : decode b_Pg_init 66 = .ok (.sipush 12001, 3) := by decide +kernel
theorem d_Pg_init_69 : decode b_Pg_init 69 = .ok (.newarray .int, 2) := by decide +kernel
theorem d_Pg_init_71 : decode b_Pg_init 71 = .ok (.putfield 34, 3) := by decide +kernel
theorem d_Pg_init_74 : decode b_Pg_init 74 = .ok (.aload_n 0, 1) := by decide +kernel
theorem d_Pg_init_75 : decode b_Pg_init 75 = .ok (.sipush 12001, 3) := by decide +kernel
theorem d_Pg_init_78 : decode b_Pg_init 78 = .ok (.newarray .int, 2) := by decide +kernel
theorem d_Pg_init_80 : decode b_Pg_init 80 = .ok (.putfield 37, 3) := by decide +kernel
theorem d_Pg_init_83 : decode b_Pg_init 83 = .ok (.aload_n 0, 1) := by decide +kernel
theorem d_Pg_init_84 : decode b_Pg_init 84 = .ok (.sipush 12001, 3) := by decide +kernel
theorem d_Pg_init_87 : decode b_Pg_init 87 = .ok (.newarray .int, 2) := by decide +kernel
theorem d_Pg_init_89 : decode b_Pg_init 89 = .ok (.putfield 40, 3) := by decide +kernel
theorem d_Pg_init_92 : decode b_Pg_init 92 = .ok (.aload_n 0, 1) := by decide +kernel
theorem d_Pg_init_93 : decode b_Pg_init 93 = .ok (.sipush 12001, 3) := by decide +kernel
theorem d_Pg_init_96 : decode b_Pg_init 96 = .ok (.newarray .int, 2) := by decide +kernel
theorem d_Pg_init_98 : decode b_Pg_init 98 = .ok (.putfield 43, 3) := by decide +kernel
theorem d_Pg_init_101 : decode b_Pg_init 101 = .ok (.aload_n 0, 1) := by decide +kernel
theorem d_Pg_init_102 : decode b_Pg_init 102 = .ok (.sipush 12001, 3) := by decide +kernel
theorem d_Pg_init_105 : decode b_Pg_init 105 = .ok (.newarray .int, 2) := by decide +kernel
theorem d_Pg_init_107 : decode b_Pg_init 107 = .ok (.putfield 46, 3) := by decide +kernel
theorem d_Pg_init_110 : decode b_Pg_init 110 = .ok (.aload_n 0, 1) := by decide +kernel
theorem d_Pg_init_111 : decode b_Pg_init 111 = .ok (.aload_n 1, 1) := by decide +kernel
theorem d_Pg_init_112 : decode b_Pg_init 112 = .ok (.putfield 49, 3) := by decide +kernel
theorem d_Pg_init_115 : decode b_Pg_init 115 = .ok (.aload_n 0, 1) := by decide +kernel
theorem d_Pg_init_116 : decode b_Pg_init 116 = .ok (.aload_n 2, 1) := by decide +kernel
theorem d_Pg_init_117 : decode b_Pg_init 117 = .ok (.putfield 53, 3) := by decide +kernel
theorem d_Pg_init_120 : decode b_Pg_init 120 = .ok (.return_, 1) := by decide +kernel
set_option maxHeartbeats 4000000 in
set_option maxRecDepth 100000 in
theorem c_Pg_init (l : Launch) (D : va_G) (cI cB cJ cZ : ClassId) (sz : Nat) (h0 g1 g2 : Nat) : Met l y_Pg_init (Cond.code y_Pg_init b_Pg_init 3 none :: gG) { frames := 1, cells := 12, slots := 108205, locals := 12 } (va_Pc [.ref h0, .ref g1, .ref g2] (ct_P D (tyL cI cB cJ cZ) [(h0, .inr (8, [.null, .null, .null, .null, .int 0, .int 0, .null, .null, .null, .int 0, .null, .null, .null, .null, .null, .null, .null, .int 0]))] sz)) (va_Qv (fun _ : Unit => True) (fun _ t => ∃ q1 q2 q3 q4 q5 q6 q7 q8 q9 q10 q11 q12 : Nat, va_P D kl [(h0, .inr (8, [.ref g1, .ref g2, .ref q1, .ref q2, .int 0, .int 0, .ref q3, .ref q4, .ref q5, .int 0, .ref q6, .ref q7, .ref q8, .ref q9, .ref q10, .ref q11, .ref q12, .int 0])), (q1, .inl (cJ, 99, .inr (.inl (fun _ => 0)))), (q2, .inl (cJ, 99, .inr (.inl (fun _ => 0)))), (q3, .inl (cI, 9001, .inl (fun _ => 0))), (q4, .inl (cI, 9001, .inl (fun _ => 0))), (q5, .inl (cI, 18000, .inl (fun _ => 0))), (q6, .inl (cI, 6000, .inl (fun _ => 0))), (q7, .inl (cI, 6000, .inl (fun _ => 0))), (q8, .inl (cI, 12001, .inl (fun _ => 0))), (q9, .inl (cI, 12001, .inl (fun _ => 0))), (q10, .inl (cI, 12001, .inl (fun _ => 0))), (q11, .inl (cI, 12001, .inl (fun _ => 0))), (q12, .inl (cI, 12001, .inl (fun _ => 0)))] t.heap ∧ va_D (va_A [(h0, .inr (8, [.null, .null, .null, .null, .int 0, .int 0, .null, .null, .null, .int 0, .null, .null, .null, .null, .null, .null, .null, .int 0]))] sz) [(h0, .inr (8, [.ref g1, .ref g2, .ref q1, .ref q2, .int 0, .int 0, .ref q3, .ref q4, .ref q5, .int 0, .ref q6, .ref q7, .ref q8, .ref q9, .ref q10, .ref q11, .ref q12, .int 0])), (q1, .inl (cJ, 99, .inr (.inl (fun _ => 0)))), (q2, .inl (cJ, 99, .inr (.inl (fun _ => 0)))), (q3, .inl (cI, 9001, .inl (fun _ => 0))), (q4, .inl (cI, 9001, .inl (fun _ => 0))), (q5, .inl (cI, 18000, .inl (fun _ => 0))), (q6, .inl (cI, 6000, .inl (fun _ => 0))), (q7, .inl (cI, 6000, .inl (fun _ => 0))), (q8, .inl (cI, 12001, .inl (fun _ => 0))), (q9, .inl (cI, 12001, .inl (fun _ => 0))), (q10, .inl (cI, 12001, .inl (fun _ => 0))), (q11, .inl (cI, 12001, .inl (fun _ => 0))), (q12, .inl (cI, 12001, .inl (fun _ => 0)))]) (va_A [(h0, .inr (8, [.null, .null, .null, .null, .int 0, .int 0, .null, .null, .null, .int 0, .null, .null, .null, .null, .null, .null, .null, .int 0]))] sz)) 12 108205 (va_A [(h0, .inr (8, [.null, .null, .null, .null, .int 0, .int 0, .null, .null, .null, .int 0, .null, .null, .null, .null, .null, .null, .null, .int 0]))] sz) := by
  refine Met.ofW (cc := b_Pg_init) (maxL := 3) (ret := none) (by decide) rfl ?_
  intro p e s m args below meth c s₁ B hml hv
  obtain ⟨rfl, hsz, hP, hK, hD0⟩ := hv
  have hx := B.exec
  have hb := B.bytes
  have hr := B.returns
  have hts := atoms_spec (ws := Cond.code y_Pg_init b_Pg_init 3 none :: gG) B.pre
  have hG : ∀ w ∈ gG, w.before [.ref h0, .ref g1, .ref g2].toArray s = true := fun w h => hts w (List.mem_cons_of_mem _ h)
  have hown : s.vm.findClass R_Pg = some m.cls := findClass_of_methodNamed B.named
  have hlocks := B.notSynchronized
  have hin : meth.name = "<init>" := (name_of_methodNamed B.named B.method).1
  subst hsz
  have hD := hD0.self (sz := s.heap.size)
  generalize hAe : va_A [(h0, .inr (8, [.null, .null, .null, .null, .int 0, .int 0, .null, .null, .null, .int 0, .null, .null, .null, .null, .null, .null, .null, .int 0]))] s.heap.size = A at hD ⊢
  have hA : ∀ q : Nat, s.heap.size ≤ q → A q := fun q h => by rw [← hAe]; exact Or.inr h
  have hS : va_S A s.heap s.heap [] := va_S.rf
  have hl := lv_entry ([.ref h0, .ref g1, .ref g2]) (n := 3) (Nat.le_of_ble_eq_true rfl)
  rw [lg_entry_eq]
  generalize (lg_sl ([.ref h0, .ref g1, .ref g2]) ++ List.replicate (3 - (lg_sl ([.ref h0, .ref g1, .ref g2])).length) Slot.unset).toArray = ls at hl ⊢
  have hl : lv_has ls 3 [(0, .ref h0), (1, .ref g1), (2, .ref g2)] := hl
  refine lv_aload_n hx hb d_Pg_init_0 rfl (lv_at hl 0 rfl) ?_
  refine W.objInit hx hb hown (hG _ ml_Pg_3) (hG _ im_java_lang_Object_init) (hG _ co_java_lang_Object_init) rfl (by rw [hml]; exact hl.1) rfl d_Pg_init_1 (Nat.le_of_ble_eq_true rfl) (Nat.le_of_ble_eq_true rfl) ?_
  refine W.eq (g2 := F0 m 4 ls []) rfl ?_
  refine lv_aload_n hx hb d_Pg_init_4 rfl (lv_at hl 0 rfl) ?_
  refine lv_bipush (v := 99) hx hb d_Pg_init_5 (by decide) ?_
  refine ra_new (atype := .long) (D := D) hx hb (hG _ ac_long) rfl (fun _ h => by cases h) hK hP hD hS hA 2 rfl (99, .inr (.inl (fun _ => 0))) (fun _ => rfl) (by decide +kernel) (by decide +kernel) (Nat.le_of_ble_eq_true rfl) (Nat.le_of_ble_eq_true rfl) (Nat.le_of_ble_eq_true rfl) d_Pg_init_7 (fun q1 H hP hD hS => ?_)
  have hP : va_P D kl [(h0, .inr (8, [.null, .null, .null, .null, .int 0, .int 0, .null, .null, .null, .int 0, .null, .null, .null, .null, .null, .null, .null, .int 0])), (q1, .inl (cJ, 99, .inr (.inl (fun _ => 0))))] H := hP
  have hD : va_D A [(h0, .inr (8, [.null, .null, .null, .null, .int 0, .int 0, .null, .null, .null, .int 0, .null, .null, .null, .null, .null, .null, .null, .int 0])), (q1, .inl (cJ, 99, .inr (.inl (fun _ => 0))))] := hD
  refine W.widen (k := 1) (n := 99) (Nat.le_of_ble_eq_true rfl) (Nat.le_of_ble_eq_true rfl) ?_
  refine va_putF (D := D) (ci := 8) (v := .ref q1) (ty := .array .long) (C := R_Pg) (T := T_Pg) (N := 18) hx hb hG gi_Pg ty_Pg to_Pg nm_Pg hown hK hP hD hS 0 rfl rfl 2 (by decide) (hG _ fl_Pg_9) (fun _ h9 => h9) rfl hin rfl (by decide +kernel) rfl rfl (Nat.le_of_ble_eq_true rfl) d_Pg_init_9 (fun H locs hP hD hS => ?_)
  have hP : va_P D kl [(h0, .inr (8, [.null, .null, .ref q1, .null, .int 0, .int 0, .null, .null, .null, .int 0, .null, .null, .null, .null, .null, .null, .null, .int 0])), (q1, .inl (cJ, 99, .inr (.inl (fun _ => 0))))] H := hP
  have hD : va_D A [(h0, .inr (8, [.null, .null, .ref q1, .null, .int 0, .int 0, .null, .null, .null, .int 0, .null, .null, .null, .null, .null, .null, .null, .int 0])), (q1, .inl (cJ, 99, .inr (.inl (fun _ => 0))))] := hD
  refine lv_aload_n hx hb d_Pg_init_12 rfl (lv_at hl 0 rfl) ?_
  refine lv_bipush (v := 99) hx hb d_Pg_init_13 (by decide) ?_
  refine ra_new (atype := .long) (D := D) hx hb (hG _ ac_long) rfl (fun _ h => by cases h) hK hP hD hS hA 2 rfl (99, .inr (.inl (fun _ => 0))) (fun _ => rfl) (by decide +kernel) (by decide +kernel) (Nat.le_of_ble_eq_true rfl) (Nat.le_of_ble_eq_true rfl) (Nat.le_of_ble_eq_true rfl) d_Pg_init_15 (fun q2 H hP hD hS => ?_)
  have hP : va_P D kl [(h0, .inr (8, [.null, .null, .ref q1, .null, .int 0, .int 0, .null, .null, .null, .int 0, .null, .null, .null, .null, .null, .null, .null, .int 0])), (q1, .inl (cJ, 99, .inr (.inl (fun _ => 0)))), (q2, .inl (cJ, 99, .inr (.inl (fun _ => 0))))] H := hP
  have hD : va_D A [(h0, .inr (8, [.null, .null, .ref q1, .null, .int 0, .int 0, .null, .null, .null, .int 0, .null, .null, .null, .null, .null, .null, .null, .int 0])), (q1, .inl (cJ, 99, .inr (.inl (fun _ => 0)))), (q2, .inl (cJ, 99, .inr (.inl (fun _ => 0))))] := hD
  refine W.widen (k := 2) (n := 198) (Nat.le_of_ble_eq_true rfl) (Nat.le_of_ble_eq_true rfl) ?_
  refine va_putF (D := D) (ci := 8) (v := .ref q2) (ty := .array .long) (C := R_Pg) (T := T_Pg) (N := 18) hx hb hG gi_Pg ty_Pg to_Pg nm_Pg hown hK hP hD hS 0 rfl rfl 3 (by decide) (hG _ fl_Pg_15) (fun _ h9 => h9) rfl hin rfl (by decide +kernel) rfl rfl (Nat.le_of_ble_eq_true rfl) d_Pg_init_17 (fun H locs hP hD hS => ?_)
  have hP : va_P D kl [(h0, .inr (8, [.null, .null, .ref q1, .ref q2, .int 0, .int 0, .null, .null, .null, .int 0, .null, .null, .null, .null, .null, .null, .null, .int 0])), (q1, .inl (cJ, 99, .inr (.inl (fun _ => 0)))), (q2, .inl (cJ, 99, .inr (.inl (fun _ => 0))))] H := hP
  have hD : va_D A [(h0, .inr (8, [.null, .null, .ref q1, .ref q2, .int 0, .int 0, .null, .null, .null, .int 0, .null, .null, .null, .null, .null, .null, .null, .int 0])), (q1, .inl (cJ, 99, .inr (.inl (fun _ => 0)))), (q2, .inl (cJ, 99, .inr (.inl (fun _ => 0))))] := hD
  refine lv_aload_n hx hb d_Pg_init_20 rfl (lv_at hl 0 rfl) ?_
  refine lv_sipush (v := 9001) hx hb d_Pg_init_21 (by decide) ?_
  refine ra_new (atype := .int) (D := D) hx hb (hG _ ac_int) rfl (fun _ h => by cases h) hK hP hD hS hA 0 rfl (9001, .inl (fun _ => 0)) (fun _ => rfl) (by decide +kernel) (by decide +kernel) (Nat.le_of_ble_eq_true rfl) (Nat.le_of_ble_eq_true rfl) (Nat.le_of_ble_eq_true rfl) d_Pg_init_24 (fun q3 H hP hD hS => ?_)
  have hP : va_P D kl [(h0, .inr (8, [.null, .null, .ref q1, .ref q2, .int 0, .int 0, .null, .null, .null, .int 0, .null, .null, .null, .null, .null, .null, .null, .int 0])), (q1, .inl (cJ, 99, .inr (.inl (fun _ => 0)))), (q2, .inl (cJ, 99, .inr (.inl (fun _ => 0)))), (q3, .inl (cI, 9001, .inl (fun _ => 0)))] H := hP
  have hD : va_D A [(h0, .inr (8, [.null, .null, .ref q1, .ref q2, .int 0, .int 0, .null, .null, .null, .int 0, .null, .null, .null, .null, .null, .null, .null, .int 0])), (q1, .inl (cJ, 99, .inr (.inl (fun _ => 0)))), (q2, .inl (cJ, 99, .inr (.inl (fun _ => 0)))), (q3, .inl (cI, 9001, .inl (fun _ => 0)))] := hD
  refine W.widen (k := 3) (n := 9199) (Nat.le_of_ble_eq_true rfl) (Nat.le_of_ble_eq_true rfl) ?_
  refine va_putF (D := D) (ci := 8) (v := .ref q3) (ty := .array .int) (C := R_Pg) (T := T_Pg) (N := 18) hx hb hG gi_Pg ty_Pg to_Pg nm_Pg hown hK hP hD hS 0 rfl rfl 6 (by decide) (hG _ fl_Pg_18) (fun _ h9 => h9) rfl hin rfl (by decide +kernel) rfl rfl (Nat.le_of_ble_eq_true rfl) d_Pg_init_26 (fun H locs hP hD hS => ?_)
  have hP : va_P D kl [(h0, .inr (8, [.null, .null, .ref q1, .ref q2, .int 0, .int 0, .ref q3, .null, .null, .int 0, .null, .null, .null, .null, .null, .null, .null, .int 0])), (q1, .inl (cJ, 99, .inr (.inl (fun _ => 0)))), (q2, .inl (cJ, 99, .inr (.inl (fun _ => 0)))), (q3, .inl (cI, 9001, .inl (fun _ => 0)))] H := hP
  have hD : va_D A [(h0, .inr (8, [.null, .null, .ref q1, .ref q2, .int 0, .int 0, .ref q3, .null, .null, .int 0, .null, .null, .null, .null, .null, .null, .null, .int 0])), (q1, .inl (cJ, 99, .inr (.inl (fun _ => 0)))), (q2, .inl (cJ, 99, .inr (.inl (fun _ => 0)))), (q3, .inl (cI, 9001, .inl (fun _ => 0)))] := hD
  refine lv_aload_n hx hb d_Pg_init_29 rfl (lv_at hl 0 rfl) ?_
  refine lv_sipush (v := 9001) hx hb d_Pg_init_30 (by decide) ?_
  refine ra_new (atype := .int) (D := D) hx hb (hG _ ac_int) rfl (fun _ h => by cases h) hK hP hD hS hA 0 rfl (9001, .inl (fun _ => 0)) (fun _ => rfl) (by decide +kernel) (by decide +kernel) (Nat.le_of_ble_eq_true rfl) (Nat.le_of_ble_eq_true rfl) (Nat.le_of_ble_eq_true rfl) d_Pg_init_33 (fun q4 H hP hD hS => ?_)
  have hP : va_P D kl [(h0, .inr (8, [.null, .null, .ref q1, .ref q2, .int 0, .int 0, .ref q3, .null, .null, .int 0, .null, .null, .null, .null, .null, .null, .null, .int 0])), (q1, .inl (cJ, 99, .inr (.inl (fun _ => 0)))), (q2, .inl (cJ, 99, .inr (.inl (fun _ => 0)))), (q3, .inl (cI, 9001, .inl (fun _ => 0))), (q4, .inl (cI, 9001, .inl (fun _ => 0)))] H := hP
  have hD : va_D A [(h0, .inr (8, [.null, .null, .ref q1, .ref q2, .int 0, .int 0, .ref q3, .null, .null, .int 0, .null, .null, .null, .null, .null, .null, .null, .int 0])), (q1, .inl (cJ, 99, .inr (.inl (fun _ => 0)))), (q2, .inl (cJ, 99, .inr (.inl (fun _ => 0)))), (q3, .inl (cI, 9001, .inl (fun _ => 0))), (q4, .inl (cI, 9001, .inl (fun _ => 0)))] := hD
  refine W.widen (k := 4) (n := 18200) (Nat.le_of_ble_eq_true rfl) (Nat.le_of_ble_eq_true rfl) ?_
  refine va_putF (D := D) (ci := 8) (v := .ref q4) (ty := .array .int) (C := R_Pg) (T := T_Pg) (N := 18) hx hb hG gi_Pg ty_Pg to_Pg nm_Pg hown hK hP hD hS 0 rfl rfl 7 (by decide) (hG _ fl_Pg_22) (fun _ h9 => h9) rfl hin rfl (by decide +kernel) rfl rfl (Nat.le_of_ble_eq_true rfl) d_Pg_init_35 (fun H locs hP hD hS => ?_)
  have hP : va_P D kl [(h0, .inr (8, [.null, .null, .ref q1, .ref q2, .int 0, .int 0, .ref q3, .ref q4, .null, .int 0, .null, .null, .null, .null, .null, .null, .null, .int 0])), (q1, .inl (cJ, 99, .inr (.inl (fun _ => 0)))), (q2, .inl (cJ, 99, .inr (.inl (fun _ => 0)))), (q3, .inl (cI, 9001, .inl (fun _ => 0))), (q4, .inl (cI, 9001, .inl (fun _ => 0)))] H := hP
  have hD : va_D A [(h0, .inr (8, [.null, .null, .ref q1, .ref q2, .int 0, .int 0, .ref q3, .ref q4, .null, .int 0, .null, .null, .null, .null, .null, .null, .null, .int 0])), (q1, .inl (cJ, 99, .inr (.inl (fun _ => 0)))), (q2, .inl (cJ, 99, .inr (.inl (fun _ => 0)))), (q3, .inl (cI, 9001, .inl (fun _ => 0))), (q4, .inl (cI, 9001, .inl (fun _ => 0)))] := hD
  refine lv_aload_n hx hb d_Pg_init_38 rfl (lv_at hl 0 rfl) ?_
  refine lv_sipush (v := 18000) hx hb d_Pg_init_39 (by decide) ?_
  refine ra_new (atype := .int) (D := D) hx hb (hG _ ac_int) rfl (fun _ h => by cases h) hK hP hD hS hA 0 rfl (18000, .inl (fun _ => 0)) (fun _ => rfl) (by decide +kernel) (by decide +kernel) (Nat.le_of_ble_eq_true rfl) (Nat.le_of_ble_eq_true rfl) (Nat.le_of_ble_eq_true rfl) d_Pg_init_42 (fun q5 H hP hD hS => ?_)
  have hP : va_P D kl [(h0, .inr (8, [.null, .null, .ref q1, .ref q2, .int 0, .int 0, .ref q3, .ref q4, .null, .int 0, .null, .null, .null, .null, .null, .null, .null, .int 0])), (q1, .inl (cJ, 99, .inr (.inl (fun _ => 0)))), (q2, .inl (cJ, 99, .inr (.inl (fun _ => 0)))), (q3, .inl (cI, 9001, .inl (fun _ => 0))), (q4, .inl (cI, 9001, .inl (fun _ => 0))), (q5, .inl (cI, 18000, .inl (fun _ => 0)))] H := hP
  have hD : va_D A [(h0, .inr (8, [.null, .null, .ref q1, .ref q2, .int 0, .int 0, .ref q3, .ref q4, .null, .int 0, .null, .null, .null, .null, .null, .null, .null, .int 0])), (q1, .inl (cJ, 99, .inr (.inl (fun _ => 0)))), (q2, .inl (cJ, 99, .inr (.inl (fun _ => 0)))), (q3, .inl (cI, 9001, .inl (fun _ => 0))), (q4, .inl (cI, 9001, .inl (fun _ => 0))), (q5, .inl (cI, 18000, .inl (fun _ => 0)))] := hD
  refine W.widen (k := 5) (n := 36200) (Nat.le_of_ble_eq_true rfl) (Nat.le_of_ble_eq_true rfl) ?_
  refine va_putF (D := D) (ci := 8) (v := .ref q5) (ty := .array .int) (C := R_Pg) (T := T_Pg) (N := 18) hx hb hG gi_Pg ty_Pg to_Pg nm_Pg hown hK hP hD hS 0 rfl rfl 8 (by decide) (hG _ fl_Pg_25) (fun _ h9 => h9) rfl hin rfl (by decide +kernel) rfl rfl (Nat.le_of_ble_eq_true rfl) d_Pg_init_44 (fun H locs hP hD hS => ?_)
  have hP : va_P D kl [(h0, .inr (8, [.null, .null, .ref q1, .ref q2, .int 0, .int 0, .ref q3, .ref q4, .ref q5, .int 0, .null, .null, .null, .null, .null, .null, .null, .int 0])), (q1, .inl (cJ, 99, .inr (.inl (fun _ => 0)))), (q2, .inl (cJ, 99, .inr (.inl (fun _ => 0)))), (q3, .inl (cI, 9001, .inl (fun _ => 0))), (q4, .inl (cI, 9001, .inl (fun _ => 0))), (q5, .inl (cI, 18000, .inl (fun _ => 0)))] H := hP
  have hD : va_D A [(h0, .inr (8, [.null, .null, .ref q1, .ref q2, .int 0, .int 0, .ref q3, .ref q4, .ref q5, .int 0, .null, .null, .null, .null, .null, .null, .null, .int 0])), (q1, .inl (cJ, 99, .inr (.inl (fun _ => 0)))), (q2, .inl (cJ, 99, .inr (.inl (fun _ => 0)))), (q3, .inl (cI, 9001, .inl (fun _ => 0))), (q4, .inl (cI, 9001, .inl (fun _ => 0))), (q5, .inl (cI, 18000, .inl (fun _ => 0)))] := hD
  refine lv_aload_n hx hb d_Pg_init_47 rfl (lv_at hl 0 rfl) ?_
  refine lv_sipush (v := 6000) hx hb d_Pg_init_48 (by decide) ?_
  refine ra_new (atype := .int) (D := D) hx hb (hG _ ac_int) rfl (fun _ h => by cases h) hK hP hD hS hA 0 rfl (6000, .inl (fun _ => 0)) (fun _ => rfl) (by decide +kernel) (by decide +kernel) (Nat.le_of_ble_eq_true rfl) (Nat.le_of_ble_eq_true rfl) (Nat.le_of_ble_eq_true rfl) d_Pg_init_51 (fun q6 H hP hD hS => ?_)
  have hP : va_P D kl [(h0, .inr (8, [.null, .null, .ref q1, .ref q2, .int 0, .int 0, .ref q3, .ref q4, .ref q5, .int 0, .null, .null, .null, .null, .null, .null, .null, .int 0])), (q1, .inl (cJ, 99, .inr (.inl (fun _ => 0)))), (q2, .inl (cJ, 99, .inr (.inl (fun _ => 0)))), (q3, .inl (cI, 9001, .inl (fun _ => 0))), (q4, .inl (cI, 9001, .inl (fun _ => 0))), (q5, .inl (cI, 18000, .inl (fun _ => 0))), (q6, .inl (cI, 6000, .inl (fun _ => 0)))] H := hP
  have hD : va_D A [(h0, .inr (8, [.null, .null, .ref q1, .ref q2, .int 0, .int 0, .ref q3, .ref q4, .ref q5, .int 0, .null, .null, .null, .null, .null, .null, .null, .int 0])), (q1, .inl (cJ, 99, .inr (.inl (fun _ => 0)))), (q2, .inl (cJ, 99, .inr (.inl (fun _ => 0)))), (q3, .inl (cI, 9001, .inl (fun _ => 0))), (q4, .inl (cI, 9001, .inl (fun _ => 0))), (q5, .inl (cI, 18000, .inl (fun _ => 0))), (q6, .inl (cI, 6000, .inl (fun _ => 0)))] := hD
  refine W.widen (k := 6) (n := 42200) (Nat.le_of_ble_eq_true rfl) (Nat.le_of_ble_eq_true rfl) ?_
  refine va_putF (D := D) (ci := 8) (v := .ref q6) (ty := .array .int) (C := R_Pg) (T := T_Pg) (N := 18) hx hb hG gi_Pg ty_Pg to_Pg nm_Pg hown hK hP hD hS 0 rfl rfl 10 (by decide) (hG _ fl_Pg_28) (fun _ h9 => h9) rfl hin rfl (by decide +kernel) rfl rfl (Nat.le_of_ble_eq_true rfl) d_Pg_init_53 (fun H locs hP hD hS => ?_)
  have hP : va_P D kl [(h0, .inr (8, [.null, .null, .ref q1, .ref q2, .int 0, .int 0, .ref q3, .ref q4, .ref q5, .int 0, .ref q6, .null, .null, .null, .null, .null, .null, .int 0])), (q1, .inl (cJ, 99, .inr (.inl (fun _ => 0)))), (q2, .inl (cJ, 99, .inr (.inl (fun _ => 0)))), (q3, .inl (cI, 9001, .inl (fun _ => 0))), (q4, .inl (cI, 9001, .inl (fun _ => 0))), (q5, .inl (cI, 18000, .inl (fun _ => 0))), (q6, .inl (cI, 6000, .inl (fun _ => 0)))] H := hP
  have hD : va_D A [(h0, .inr (8, [.null, .null, .ref q1, .ref q2, .int 0, .int 0, .ref q3, .ref q4, .ref q5, .int 0, .ref q6, .null, .null, .null, .null, .null, .null, .int 0])), (q1, .inl (cJ, 99, .inr (.inl (fun _ => 0)))), (q2, .inl (cJ, 99, .inr (.inl (fun _ => 0)))), (q3, .inl (cI, 9001, .inl (fun _ => 0))), (q4, .inl (cI, 9001, .inl (fun _ => 0))), (q5, .inl (cI, 18000, .inl (fun _ => 0))), (q6, .inl (cI, 6000, .inl (fun _ => 0)))] := hD
  refine lv_aload_n hx hb d_Pg_init_56 rfl (lv_at hl 0 rfl) ?_
  refine lv_sipush (v := 6000) hx hb d_Pg_init_57 (by decide) ?_
  refine ra_new (atype := .int) (D := D) hx hb (hG _ ac_int) rfl (fun _ h => by cases h) hK hP hD hS hA 0 rfl (6000, .inl (fun _ => 0)) (fun _ => rfl) (by decide +kernel) (by decide +kernel) (Nat.le_of_ble_eq_true rfl) (Nat.le_of_ble_eq_true rfl) (Nat.le_of_ble_eq_true rfl) d_Pg_init_60 (fun q7 H hP hD hS => ?_)
  have hP : va_P D kl [(h0, .inr (8, [.null, .null, .ref q1, .ref q2, .int 0, .int 0, .ref q3, .ref q4, .ref q5, .int 0, .ref q6, .null, .null, .null, .null, .null, .null, .int 0])), (q1, .inl (cJ, 99, .inr (.inl (fun _ => 0)))), (q2, .inl (cJ, 99, .inr (.inl (fun _ => 0)))), (q3, .inl (cI, 9001, .inl (fun _ => 0))), (q4, .inl (cI, 9001, .inl (fun _ => 0))), (q5, .inl (cI, 18000, .inl (fun _ => 0))), (q6, .inl (cI, 6000, .inl (fun _ => 0))), (q7, .inl (cI, 6000, .inl (fun _ => 0)))] H := hP
  have hD : va_D A [(h0, .inr (8, [.null, .null, .ref q1, .ref q2, .int 0, .int 0, .ref q3, .ref q4, .ref q5, .int 0, .ref q6, .null, .null, .null, .null, .null, .null, .int 0])), (q1, .inl (cJ, 99, .inr (.inl (fun _ => 0)))), (q2, .inl (cJ, 99, .inr (.inl (fun _ => 0)))), (q3, .inl (cI, 9001, .inl (fun _ => 0))), (q4, .inl (cI, 9001, .inl (fun _ => 0))), (q5, .inl (cI, 18000, .inl (fun _ => 0))), (q6, .inl (cI, 6000, .inl (fun _ => 0))), (q7, .inl (cI, 6000, .inl (fun _ => 0)))] := hD
  refine W.widen (k := 7) (n := 48200) (Nat.le_of_ble_eq_true rfl) (Nat.le_of_ble_eq_true rfl) ?_
  refine va_putF (D := D) (ci := 8) (v := .ref q7) (ty := .array .int) (C := R_Pg) (T := T_Pg) (N := 18) hx hb hG gi_Pg ty_Pg to_Pg nm_Pg hown hK hP hD hS 0 rfl rfl 11 (by decide) (hG _ fl_Pg_31) (fun _ h9 => h9) rfl hin rfl (by decide +kernel) rfl rfl (Nat.le_of_ble_eq_true rfl) d_Pg_init_62 (fun H locs hP hD hS => ?_)
  have hP : va_P D kl [(h0, .inr (8, [.null, .null, .ref q1, .ref q2, .int 0, .int 0, .ref q3, .ref q4, .ref q5, .int 0, .ref q6, .ref q7, .null, .null, .null, .null, .null, .int 0])), (q1, .inl (cJ, 99, .inr (.inl (fun _ => 0)))), (q2, .inl (cJ, 99, .inr (.inl (fun _ => 0)))), (q3, .inl (cI, 9001, .inl (fun _ => 0))), (q4, .inl (cI, 9001, .inl (fun _ => 0))), (q5, .inl (cI, 18000, .inl (fun _ => 0))), (q6, .inl (cI, 6000, .inl (fun _ => 0))), (q7, .inl (cI, 6000, .inl (fun _ => 0)))] H := hP
  have hD : va_D A [(h0, .inr (8, [.null, .null, .ref q1, .ref q2, .int 0, .int 0, .ref q3, .ref q4, .ref q5, .int 0, .ref q6, .ref q7, .null, .null, .null, .null, .null, .int 0])), (q1, .inl (cJ, 99, .inr (.inl (fun _ => 0)))), (q2, .inl (cJ, 99, .inr (.inl (fun _ => 0)))), (q3, .inl (cI, 9001, .inl (fun _ => 0))), (q4, .inl (cI, 9001, .inl (fun _ => 0))), (q5, .inl (cI, 18000, .inl (fun _ => 0))), (q6, .inl (cI, 6000, .inl (fun _ => 0))), (q7, .inl (cI, 6000, .inl (fun _ => 0)))] := hD
  refine lv_aload_n hx hb d_Pg_init_65 rfl (lv_at hl 0 rfl) ?_
  refine lv_sipush (v := 12001) hx hb d_Pg_init_66 (by decide) ?_
  refine ra_new (atype := .int) (D := D) hx hb (hG _ ac_int) rfl (fun _ h => by cases h) hK hP hD hS hA 0 rfl (12001, .inl (fun _ => 0)) (fun _ => rfl) (by decide +kernel) (by decide +kernel) (Nat.le_of_ble_eq_true rfl) (Nat.le_of_ble_eq_true rfl) (Nat.le_of_ble_eq_true rfl) d_Pg_init_69 (fun q8 H hP hD hS => ?_)
  have hP : va_P D kl [(h0, .inr (8, [.null, .null, .ref q1, .ref q2, .int 0, .int 0, .ref q3, .ref q4, .ref q5, .int 0, .ref q6, .ref q7, .null, .null, .null, .null, .null, .int 0])), (q1, .inl (cJ, 99, .inr (.inl (fun _ => 0)))), (q2, .inl (cJ, 99, .inr (.inl (fun _ => 0)))), (q3, .inl (cI, 9001, .inl (fun _ => 0))), (q4, .inl (cI, 9001, .inl (fun _ => 0))), (q5, .inl (cI, 18000, .inl (fun _ => 0))), (q6, .inl (cI, 6000, .inl (fun _ => 0))), (q7, .inl (cI, 6000, .inl (fun _ => 0))), (q8, .inl (cI, 12001, .inl (fun _ => 0)))] H := hP
  have hD : va_D A [(h0, .inr (8, [.null, .null, .ref q1, .ref q2, .int 0, .int 0, .ref q3, .ref q4, .ref q5, .int 0, .ref q6, .ref q7, .null, .null, .null, .null, .null, .int 0])), (q1, .inl (cJ, 99, .inr (.inl (fun _ => 0)))), (q2, .inl (cJ, 99, .inr (.inl (fun _ => 0)))), (q3, .inl (cI, 9001, .inl (fun _ => 0))), (q4, .inl (cI, 9001, .inl (fun _ => 0))), (q5, .inl (cI, 18000, .inl (fun _ => 0))), (q6, .inl (cI, 6000, .inl (fun _ => 0))), (q7, .inl (cI, 6000, .inl (fun _ => 0))), (q8, .inl (cI, 12001, .inl (fun _ => 0)))] := hD
  refine W.widen (k := 8) (n := 60201) (Nat.le_of_ble_eq_true rfl) (Nat.le_of_ble_eq_true rfl) ?_
  refine va_putF (D := D) (ci := 8) (v := .ref q8) (ty := .array .int) (C := R_Pg) (T := T_Pg) (N := 18) hx hb hG gi_Pg ty_Pg to_Pg nm_Pg hown hK hP hD hS 0 rfl rfl 12 (by decide) (hG _ fl_Pg_34) (fun _ h9 => h9) rfl hin rfl (by decide +kernel) rfl rfl (Nat.le_of_ble_eq_true rfl) d_Pg_init_71 (fun H locs hP hD hS => ?_)
  have hP : va_P D kl [(h0, .inr (8, [.null, .null, .ref q1, .ref q2, .int 0, .int 0, .ref q3, .ref q4, .ref q5, .int 0, .ref q6, .ref q7, .ref q8, .null, .null, .null, .null, .int 0])), (q1, .inl (cJ, 99, .inr (.inl (fun _ => 0)))), (q2, .inl (cJ, 99, .inr (.inl (fun _ => 0)))), (q3, .inl (cI, 9001, .inl (fun _ => 0))), (q4, .inl (cI, 9001, .inl (fun _ => 0))), (q5, .inl (cI, 18000, .inl (fun _ => 0))), (q6, .inl (cI, 6000, .inl (fun _ => 0))), (q7, .inl (cI, 6000, .inl (fun _ => 0))), (q8, .inl (cI, 12001, .inl (fun _ => 0)))] H := hP
  have hD : va_D A [(h0, .inr (8, [.null, .null, .ref q1, .ref q2, .int 0, .int 0, .ref q3, .ref q4, .ref q5, .int 0, .ref q6, .ref q7, .ref q8, .null, .null, .null, .null, .int 0])), (q1, .inl (cJ, 99, .inr (.inl (fun _ => 0)))), (q2, .inl (cJ, 99, .inr (.inl (fun _ => 0)))), (q3, .inl (cI, 9001, .inl (fun _ => 0))), (q4, .inl (cI, 9001, .inl (fun _ => 0))), (q5, .inl (cI, 18000, .inl (fun _ => 0))), (q6, .inl (cI, 6000, .inl (fun _ => 0))), (q7, .inl (cI, 6000, .inl (fun _ => 0))), (q8, .inl (cI, 12001, .inl (fun _ => 0)))] := hD
  refine lv_aload_n hx hb d_Pg_init_74 rfl (lv_at hl 0 rfl) ?_
  refine lv_sipush (v := 12001) hx hb d_Pg_init_75 (by decide) ?_
  refine ra_new (atype := .int) (D := D) hx hb (hG _ ac_int) rfl (fun _ h => by cases h) hK hP hD hS hA 0 rfl (12001, .inl (fun _ => 0)) (fun _ => rfl) (by decide +kernel) (by decide +kernel) (Nat.le_of_ble_eq_true rfl) (Nat.le_of_ble_eq_true rfl) (Nat.le_of_ble_eq_true rfl) d_Pg_init_78 (fun q9 H hP hD hS => ?_)
  have hP : va_P D kl [(h0, .inr (8, [.null, .null, .ref q1, .ref q2, .int 0, .int 0, .ref q3, .ref q4, .ref q5, .int 0, .ref q6, .ref q7, .ref q8, .null, .null, .null, .null, .int 0])), (q1, .inl (cJ, 99, .inr (.inl (fun _ => 0)))), (q2, .inl (cJ, 99, .inr (.inl (fun _ => 0)))), (q3, .inl (cI, 9001, .inl (fun _ => 0))), (q4, .inl (cI, 9001, .inl (fun _ => 0))), (q5, .inl (cI, 18000, .inl (fun _ => 0))), (q6, .inl (cI, 6000, .inl (fun _ => 0))), (q7, .inl (cI, 6000, .inl (fun _ => 0))), (q8, .inl (cI, 12001, .inl (fun _ => 0))), (q9, .inl (cI, 12001, .inl (fun _ => 0)))] H := hP
  have hD : va_D A [(h0, .inr (8, [.null, .null, .ref q1, .ref q2, .int 0, .int 0, .ref q3, .ref q4, .ref q5, .int 0, .ref q6, .ref q7, .ref q8, .null, .null, .null, .null, .int 0])), (q1, .inl (cJ, 99, .inr (.inl (fun _ => 0)))), (q2, .inl (cJ, 99, .inr (.inl (fun _ => 0)))), (q3, .inl (cI, 9001, .inl (fun _ => 0))), (q4, .inl (cI, 9001, .inl (fun _ => 0))), (q5, .inl (cI, 18000, .inl (fun _ => 0))), (q6, .inl (cI, 6000, .inl (fun _ => 0))), (q7, .inl (cI, 6000, .inl (fun _ => 0))), (q8, .inl (cI, 12001, .inl (fun _ => 0))), (q9, .inl (cI, 12001, .inl (fun _ => 0)))] := hD
  refine W.widen (k := 9) (n := 72202) (Nat.le_of_ble_eq_true rfl) (Nat.le_of_ble_eq_true rfl) ?_
  refine va_putF (D := D) (ci := 8) (v := .ref q9) (ty := .array .int) (C := R_Pg) (T := T_Pg) (N := 18) hx hb hG gi_Pg ty_Pg to_Pg nm_Pg hown hK hP hD hS 0 rfl rfl 13 (by decide) (hG _ fl_Pg_37) (fun _ h9 => h9) rfl hin rfl (by decide +kernel) rfl rfl (Nat.le_of_ble_eq_true rfl) d_Pg_init_80 (fun H locs hP hD hS => ?_)
  have hP : va_P D kl [(h0, .inr (8, [.null, .null, .ref q1, .ref q2, .int 0, .int 0, .ref q3, .ref q4, .ref q5, .int 0, .ref q6, .ref q7, .ref q8, .ref q9, .null, .null, .null, .int 0])), (q1, .inl (cJ, 99, .inr (.inl (fun _ => 0)))), (q2, .inl (cJ, 99, .inr (.inl (fun _ => 0)))), (q3, .inl (cI, 9001, .inl (fun _ => 0))), (q4, .inl (cI, 9001, .inl (fun _ => 0))), (q5, .inl (cI, 18000, .inl (fun _ => 0))), (q6, .inl (cI, 6000, .inl (fun _ => 0))), (q7, .inl (cI, 6000, .inl (fun _ => 0))), (q8, .inl (cI, 12001, .inl (fun _ => 0))), (q9, .inl (cI, 12001, .inl (fun _ => 0)))] H := hP
  have hD : va_D A [(h0, .inr (8, [.null, .null, .ref q1, .ref q2, .int 0, .int 0, .ref q3, .ref q4, .ref q5, .int 0, .ref q6, .ref q7, .ref q8, .ref q9, .null, .null, .null, .int 0])), (q1, .inl (cJ, 99, .inr (.inl (fun _ => 0)))), (q2, .inl (cJ, 99, .inr (.inl (fun _ => 0)))), (q3, .inl (cI, 9001, .inl (fun _ => 0))), (q4, .inl (cI, 9001, .inl (fun _ => 0))), (q5, .inl (cI, 18000, .inl (fun _ => 0))), (q6, .inl (cI, 6000, .inl (fun _ => 0))), (q7, .inl (cI, 6000, .inl (fun _ => 0))), (q8, .inl (cI, 12001, .inl (fun _ => 0))), (q9, .inl (cI, 12001, .inl (fun _ => 0)))] := hD
  refine lv_aload_n hx hb d_Pg_init_83 rfl (lv_at hl 0 rfl) ?_
  refine lv_sipush (v := 12001) hx hb d_Pg_init_84 (by decide) ?_
  refine ra_new (atype := .int) (D := D) hx hb (hG _ ac_int) rfl (fun _ h => by cases h) hK hP hD hS hA 0 rfl (12001, .inl (fun _ => 0)) (fun _ => rfl) (by decide +kernel) (by decide +kernel) (Nat.le_of_ble_eq_true rfl) (Nat.le_of_ble_eq_true rfl) (Nat.le_of_ble_eq_true rfl) d_Pg_init_87 (fun q10 H hP hD hS => ?_)
  have hP : va_P D kl [(h0, .inr (8, [.null, .null, .ref q1, .ref q2, .int 0, .int 0, .ref q3, .ref q4, .ref q5, .int 0, .ref q6, .ref q7, .ref q8, .ref q9, .null, .null, .null, .int 0])), (q1, .inl (cJ, 99, .inr (.inl (fun _ => 0)))), (q2, .inl (cJ, 99, .inr (.inl (fun _ => 0)))), (q3, .inl (cI, 9001, .inl (fun _ => 0))), (q4, .inl (cI, 9001, .inl (fun _ => 0))), (q5, .inl (cI, 18000, .inl (fun _ => 0))), (q6, .inl (cI, 6000, .inl (fun _ => 0))), (q7, .inl (cI, 6000, .inl (fun _ => 0))), (q8, .inl (cI, 12001, .inl (fun _ => 0))), (q9, .inl (cI, 12001, .inl (fun _ => 0))), (q10, .inl (cI, 12001, .inl (fun _ => 0)))] H := hP
  have hD : va_D A [(h0, .inr (8, [.null, .null, .ref q1, .ref q2, .int 0, .int 0, .ref q3, .ref q4, .ref q5, .int 0, .ref q6, .ref q7, .ref q8, .ref q9, .null, .null, .null, .int 0])), (q1, .inl (cJ, 99, .inr (.inl (fun _ => 0)))), (q2, .inl (cJ, 99, .inr (.inl (fun _ => 0)))), (q3, .inl (cI, 9001, .inl (fun _ => 0))), (q4, .inl (cI, 9001, .inl (fun _ => 0))), (q5, .inl (cI, 18000, .inl (fun _ => 0))), (q6, .inl (cI, 6000, .inl (fun _ => 0))), (q7, .inl (cI, 6000, .inl (fun _ => 0))), (q8, .inl (cI, 12001, .inl (fun _ => 0))), (q9, .inl (cI, 12001, .inl (fun _ => 0))), (q10, .inl (cI, 12001, .inl (fun _ => 0)))] := hD
  refine W.widen (k := 10) (n := 84203) (Nat.le_of_ble_eq_true rfl) (Nat.le_of_ble_eq_true rfl) ?_
  refine va_putF (D := D) (ci := 8) (v := .ref q10) (ty := .array .int) (C := R_Pg) (T := T_Pg) (N := 18) hx hb hG gi_Pg ty_Pg to_Pg nm_Pg hown hK hP hD hS 0 rfl rfl 14 (by decide) (hG _ fl_Pg_40) (fun _ h9 => h9) rfl hin rfl (by decide +kernel) rfl rfl (Nat.le_of_ble_eq_true rfl) d_Pg_init_89 (fun H locs hP hD hS => ?_)
  have hP : va_P D kl [(h0, .inr (8, [.null, .null, .ref q1, .ref q2, .int 0, .int 0, .ref q3, .ref q4, .ref q5, .int 0, .ref q6, .ref q7, .ref q8, .ref q9, .ref q10, .null, .null, .int 0])), (q1, .inl (cJ, 99, .inr (.inl (fun _ => 0)))), (q2, .inl (cJ, 99, .inr (.inl (fun _ => 0)))), (q3, .inl (cI, 9001, .inl (fun _ => 0))), (q4, .inl (cI, 9001, .inl (fun _ => 0))), (q5, .inl (cI, 18000, .inl (fun _ => 0))), (q6, .inl (cI, 6000, .inl (fun _ => 0))), (q7, .inl (cI, 6000, .inl (fun _ => 0))), (q8, .inl (cI, 12001, .inl (fun _ => 0))), (q9, .inl (cI, 12001, .inl (fun _ => 0))), (q10, .inl (cI, 12001, .inl (fun _ => 0)))] H := hP
  have hD : va_D A [(h0, .inr (8, [.null, .null, .ref q1, .ref q2, .int 0, .int 0, .ref q3, .ref q4, .ref q5, .int 0, .ref q6, .ref q7, .ref q8, .ref q9, .ref q10, .null, .null, .int 0])), (q1, .inl (cJ, 99, .inr (.inl (fun _ => 0)))), (q2, .inl (cJ, 99, .inr (.inl (fun _ => 0)))), (q3, .inl (cI, 9001, .inl (fun _ => 0))), (q4, .inl (cI, 9001, .inl (fun _ => 0))), (q5, .inl (cI, 18000, .inl (fun _ => 0))), (q6, .inl (cI, 6000, .inl (fun _ => 0))), (q7, .inl (cI, 6000, .inl (fun _ => 0))), (q8, .inl (cI, 12001, .inl (fun _ => 0))), (q9, .inl (cI, 12001, .inl (fun _ => 0))), (q10, .inl (cI, 12001, .inl (fun _ => 0)))] := hD
  refine lv_aload_n hx hb d_Pg_init_92 rfl (lv_at hl 0 rfl) ?_
  refine lv_sipush (v := 12001) hx hb d_Pg_init_93 (by decide) ?_
  refine ra_new (atype := .int) (D := D) hx hb (hG _ ac_int) rfl (fun _ h => by cases h) hK hP hD hS hA 0 rfl (12001, .inl (fun _ => 0)) (fun _ => rfl) (by decide +kernel) (by decide +kernel) (Nat.le_of_ble_eq_true rfl) (Nat.le_of_ble_eq_true rfl) (Nat.le_of_ble_eq_true rfl) d_Pg_init_96 (fun q11 H hP hD hS => ?_)
  have hP : va_P D kl [(h0, .inr (8, [.null, .null, .ref q1, .ref q2, .int 0, .int 0, .ref q3, .ref q4, .ref q5, .int 0, .ref q6, .ref q7, .ref q8, .ref q9, .ref q10, .null, .null, .int 0])), (q1, .inl (cJ, 99, .inr (.inl (fun _ => 0)))), (q2, .inl (cJ, 99, .inr (.inl (fun _ => 0)))), (q3, .inl (cI, 9001, .inl (fun _ => 0))), (q4, .inl (cI, 9001, .inl (fun _ => 0))), (q5, .inl (cI, 18000, .inl (fun _ => 0))), (q6, .inl (cI, 6000, .inl (fun _ => 0))), (q7, .inl (cI, 6000, .inl (fun _ => 0))), (q8, .inl (cI, 12001, .inl (fun _ => 0))), (q9, .inl (cI, 12001, .inl (fun _ => 0))), (q10, .inl (cI, 12001, .inl (fun _ => 0))), (q11, .inl (cI, 12001, .inl (fun _ => 0)))] H := hP
  have hD : va_D A [(h0, .inr (8, [.null, .null, .ref q1, .ref q2, .int 0, .int 0, .ref q3, .ref q4, .ref q5, .int 0, .ref q6, .ref q7, .ref q8, .ref q9, .ref q10, .null, .null, .int 0])), (q1, .inl (cJ, 99, .inr (.inl (fun _ => 0)))), (q2, .inl (cJ, 99, .inr (.inl (fun _ => 0)))), (q3, .inl (cI, 9001, .inl (fun _ => 0))), (q4, .inl (cI, 9001, .inl (fun _ => 0))), (q5, .inl (cI, 18000, .inl (fun _ => 0))), (q6, .inl (cI, 6000, .inl (fun _ => 0))), (q7, .inl (cI, 6000, .inl (fun _ => 0))), (q8, .inl (cI, 12001, .inl (fun _ => 0))), (q9, .inl (cI, 12001, .inl (fun _ => 0))), (q10, .inl (cI, 12001, .inl (fun _ => 0))), (q11, .inl (cI, 12001, .inl (fun _ => 0)))] := hD
  refine W.widen (k := 11) (n := 96204) (Nat.le_of_ble_eq_true rfl) (Nat.le_of_ble_eq_true rfl) ?_
  refine va_putF (D := D) (ci := 8) (v := .ref q11) (ty := .array .int) (C := R_Pg) (T := T_Pg) (N := 18) hx hb hG gi_Pg ty_Pg to_Pg nm_Pg hown hK hP hD hS 0 rfl rfl 15 (by decide) (hG _ fl_Pg_43) (fun _ h9 => h9) rfl hin rfl (by decide +kernel) rfl rfl (Nat.le_of_ble_eq_true rfl) d_Pg_init_98 (fun H locs hP hD hS => ?_)
  have hP : va_P D kl [(h0, .inr (8, [.null, .null, .ref q1, .ref q2, .int 0, .int 0, .ref q3, .ref q4, .ref q5, .int 0, .ref q6, .ref q7, .ref q8, .ref q9, .ref q10, .ref q11, .null, .int 0])), (q1, .inl (cJ, 99, .inr (.inl (fun _ => 0)))), (q2, .inl (cJ, 99, .inr (.inl (fun _ => 0)))), (q3, .inl (cI, 9001, .inl (fun _ => 0))), (q4, .inl (cI, 9001, .inl (fun _ => 0))), (q5, .inl (cI, 18000, .inl (fun _ => 0))), (q6, .inl (cI, 6000, .inl (fun _ => 0))), (q7, .inl (cI, 6000, .inl (fun _ => 0))), (q8, .inl (cI, 12001, .inl (fun _ => 0))), (q9, .inl (cI, 12001, .inl (fun _ => 0))), (q10, .inl (cI, 12001, .inl (fun _ => 0))), (q11, .inl (cI, 12001, .inl (fun _ => 0)))] H := hP
  have hD : va_D A [(h0, .inr (8, [.null, .null, .ref q1, .ref q2, .int 0, .int 0, .ref q3, .ref q4, .ref q5, .int 0, .ref q6, .ref q7, .ref q8, .ref q9, .ref q10, .ref q11, .null, .int 0])), (q1, .inl (cJ, 99, .inr (.inl (fun _ => 0)))), (q2, .inl (cJ, 99, .inr (.inl (fun _ => 0)))), (q3, .inl (cI, 9001, .inl (fun _ => 0))), (q4, .inl (cI, 9001, .inl (fun _ => 0))), (q5, .inl (cI, 18000, .inl (fun _ => 0))), (q6, .inl (cI, 6000, .inl (fun _ => 0))), (q7, .inl (cI, 6000, .inl (fun _ => 0))), (q8, .inl (cI, 12001, .inl (fun _ => 0))), (q9, .inl (cI, 12001, .inl (fun _ => 0))), (q10, .inl (cI, 12001, .inl (fun _ => 0))), (q11, .inl (cI, 12001, .inl (fun _ => 0)))] := hD
  refine lv_aload_n hx hb d_Pg_init_101 rfl (lv_at hl 0 rfl) ?_
  refine lv_sipush (v := 12001) hx hb d_Pg_init_102 (by decide) ?_
  refine ra_new (atype := .int) (D := D) hx hb (hG _ ac_int) rfl (fun _ h => by cases h) hK hP hD hS hA 0 rfl (12001, .inl (fun _ => 0)) (fun _ => rfl) (by decide +kernel) (by decide +kernel) (Nat.le_of_ble_eq_true rfl) (Nat.le_of_ble_eq_true rfl) (Nat.le_of_ble_eq_true rfl) d_Pg_init_105 (fun q12 H hP hD hS => ?_)
  have hP : va_P D kl [(h0, .inr (8, [.null, .null, .ref q1, .ref q2, .int 0, .int 0, .ref q3, .ref q4, .ref q5, .int 0, .ref q6, .ref q7, .ref q8, .ref q9, .ref q10, .ref q11, .null, .int 0])), (q1, .inl (cJ, 99, .inr (.inl (fun _ => 0)))), (q2, .inl (cJ, 99, .inr (.inl (fun _ => 0)))), (q3, .inl (cI, 9001, .inl (fun _ => 0))), (q4, .inl (cI, 9001, .inl (fun _ => 0))), (q5, .inl (cI, 18000, .inl (fun _ => 0))), (q6, .inl (cI, 6000, .inl (fun _ => 0))), (q7, .inl (cI, 6000, .inl (fun _ => 0))), (q8, .inl (cI, 12001, .inl (fun _ => 0))), (q9, .inl (cI, 12001, .inl (fun _ => 0))), (q10, .inl (cI, 12001, .inl (fun _ => 0))), (q11, .inl (cI, 12001, .inl (fun _ => 0))), (q12, .inl (cI, 12001, .inl (fun _ => 0)))] H := hP
  have hD : va_D A [(h0, .inr (8, [.null, .null, .ref q1, .ref q2, .int 0, .int 0, .ref q3, .ref q4, .ref q5, .int 0, .ref q6, .ref q7, .ref q8, .ref q9, .ref q10, .ref q11, .null, .int 0])), (q1, .inl (cJ, 99, .inr (.inl (fun _ => 0)))), (q2, .inl (cJ, 99, .inr (.inl (fun _ => 0)))), (q3, .inl (cI, 9001, .inl (fun _ => 0))), (q4, .inl (cI, 9001, .inl (fun _ => 0))), (q5, .inl (cI, 18000, .inl (fun _ => 0))), (q6, .inl (cI, 6000, .inl (fun _ => 0))), (q7, .inl (cI, 6000, .inl (fun _ => 0))), (q8, .inl (cI, 12001, .inl (fun _ => 0))), (q9, .inl (cI, 12001, .inl (fun _ => 0))), (q10, .inl (cI, 12001, .inl (fun _ => 0))), (q11, .inl (cI, 12001, .inl (fun _ => 0))), (q12, .inl (cI, 12001, .inl (fun _ => 0)))] := hD
  refine W.widen (k := 12) (n := 108205) (Nat.le_of_ble_eq_true rfl) (Nat.le_of_ble_eq_true rfl) ?_
  refine va_putF (D := D) (ci := 8) (v := .ref q12) (ty := .array .int) (C := R_Pg) (T := T_Pg) (N := 18) hx hb hG gi_Pg ty_Pg to_Pg nm_Pg hown hK hP hD hS 0 rfl rfl 16 (by decide) (hG _ fl_Pg_46) (fun _ h9 => h9) rfl hin rfl (by decide +kernel) rfl rfl (Nat.le_of_ble_eq_true rfl) d_Pg_init_107 (fun H locs hP hD hS => ?_)
  have hP : va_P D kl [(h0, .inr (8, [.null, .null, .ref q1, .ref q2, .int 0, .int 0, .ref q3, .ref q4, .ref q5, .int 0, .ref q6, .ref q7, .ref q8, .ref q9, .ref q10, .ref q11, .ref q12, .int 0])), (q1, .inl (cJ, 99, .inr (.inl (fun _ => 0)))), (q2, .inl (cJ, 99, .inr (.inl (fun _ => 0)))), (q3, .inl (cI, 9001, .inl (fun _ => 0))), (q4, .inl (cI, 9001, .inl (fun _ => 0))), (q5, .inl (cI, 18000, .inl (fun _ => 0))), (q6, .inl (cI, 6000, .inl (fun _ => 0))), (q7, .inl (cI, 6000, .inl (fun _ => 0))), (q8, .inl (cI, 12001, .inl (fun _ => 0))), (q9, .inl (cI, 12001, .inl (fun _ => 0))), (q10, .inl (cI, 12001, .inl (fun _ => 0))), (q11, .inl (cI, 12001, .inl (fun _ => 0))), (q12, .inl (cI, 12001, .inl (fun _ => 0)))] H := hP
  have hD : va_D A [(h0, .inr (8, [.null, .null, .ref q1, .ref q2, .int 0, .int 0, .ref q3, .ref q4, .ref q5, .int 0, .ref q6, .ref q7, .ref q8, .ref q9, .ref q10, .ref q11, .ref q12, .int 0])), (q1, .inl (cJ, 99, .inr (.inl (fun _ => 0)))), (q2, .inl (cJ, 99, .inr (.inl (fun _ => 0)))), (q3, .inl (cI, 9001, .inl (fun _ => 0))), (q4, .inl (cI, 9001, .inl (fun _ => 0))), (q5, .inl (cI, 18000, .inl (fun _ => 0))), (q6, .inl (cI, 6000, .inl (fun _ => 0))), (q7, .inl (cI, 6000, .inl (fun _ => 0))), (q8, .inl (cI, 12001, .inl (fun _ => 0))), (q9, .inl (cI, 12001, .inl (fun _ => 0))), (q10, .inl (cI, 12001, .inl (fun _ => 0))), (q11, .inl (cI, 12001, .inl (fun _ => 0))), (q12, .inl (cI, 12001, .inl (fun _ => 0)))] := hD
  refine lv_aload_n hx hb d_Pg_init_110 rfl (lv_at hl 0 rfl) ?_
  refine lv_aload_n hx hb d_Pg_init_111 rfl (lv_at hl 1 rfl) ?_
  refine va_putF (D := D) (ci := 8) (v := .ref g1) (ty := .object "StreamNodes$Slots") (C := R_Pg) (T := T_Pg) (N := 18) hx hb hG gi_Pg ty_Pg to_Pg nm_Pg hown hK hP hD hS 0 rfl rfl 0 (by decide) (hG _ fl_Pg_49) (fun _ h9 => h9) rfl hin rfl (by decide +kernel) rfl rfl (Nat.le_of_ble_eq_true rfl) d_Pg_init_112 (fun H locs hP hD hS => ?_)
  have hP : va_P D kl [(h0, .inr (8, [.ref g1, .null, .ref q1, .ref q2, .int 0, .int 0, .ref q3, .ref q4, .ref q5, .int 0, .ref q6, .ref q7, .ref q8, .ref q9, .ref q10, .ref q11, .ref q12, .int 0])), (q1, .inl (cJ, 99, .inr (.inl (fun _ => 0)))), (q2, .inl (cJ, 99, .inr (.inl (fun _ => 0)))), (q3, .inl (cI, 9001, .inl (fun _ => 0))), (q4, .inl (cI, 9001, .inl (fun _ => 0))), (q5, .inl (cI, 18000, .inl (fun _ => 0))), (q6, .inl (cI, 6000, .inl (fun _ => 0))), (q7, .inl (cI, 6000, .inl (fun _ => 0))), (q8, .inl (cI, 12001, .inl (fun _ => 0))), (q9, .inl (cI, 12001, .inl (fun _ => 0))), (q10, .inl (cI, 12001, .inl (fun _ => 0))), (q11, .inl (cI, 12001, .inl (fun _ => 0))), (q12, .inl (cI, 12001, .inl (fun _ => 0)))] H := hP
  have hD : va_D A [(h0, .inr (8, [.ref g1, .null, .ref q1, .ref q2, .int 0, .int 0, .ref q3, .ref q4, .ref q5, .int 0, .ref q6, .ref q7, .ref q8, .ref q9, .ref q10, .ref q11, .ref q12, .int 0])), (q1, .inl (cJ, 99, .inr (.inl (fun _ => 0)))), (q2, .inl (cJ, 99, .inr (.inl (fun _ => 0)))), (q3, .inl (cI, 9001, .inl (fun _ => 0))), (q4, .inl (cI, 9001, .inl (fun _ => 0))), (q5, .inl (cI, 18000, .inl (fun _ => 0))), (q6, .inl (cI, 6000, .inl (fun _ => 0))), (q7, .inl (cI, 6000, .inl (fun _ => 0))), (q8, .inl (cI, 12001, .inl (fun _ => 0))), (q9, .inl (cI, 12001, .inl (fun _ => 0))), (q10, .inl (cI, 12001, .inl (fun _ => 0))), (q11, .inl (cI, 12001, .inl (fun _ => 0))), (q12, .inl (cI, 12001, .inl (fun _ => 0)))] := hD
  refine lv_aload_n hx hb d_Pg_init_115 rfl (lv_at hl 0 rfl) ?_
  refine lv_aload_n hx hb d_Pg_init_116 rfl (lv_at hl 2 rfl) ?_
  refine va_putF (D := D) (ci := 8) (v := .ref g2) (ty := .object "StreamNodes$Order") (C := R_Pg) (T := T_Pg) (N := 18) hx hb hG gi_Pg ty_Pg to_Pg nm_Pg hown hK hP hD hS 0 rfl rfl 1 (by decide) (hG _ fl_Pg_53) (fun _ h9 => h9) rfl hin rfl (by decide +kernel) rfl rfl (Nat.le_of_ble_eq_true rfl) d_Pg_init_117 (fun H locs hP hD hS => ?_)
  have hP : va_P D kl [(h0, .inr (8, [.ref g1, .ref g2, .ref q1, .ref q2, .int 0, .int 0, .ref q3, .ref q4, .ref q5, .int 0, .ref q6, .ref q7, .ref q8, .ref q9, .ref q10, .ref q11, .ref q12, .int 0])), (q1, .inl (cJ, 99, .inr (.inl (fun _ => 0)))), (q2, .inl (cJ, 99, .inr (.inl (fun _ => 0)))), (q3, .inl (cI, 9001, .inl (fun _ => 0))), (q4, .inl (cI, 9001, .inl (fun _ => 0))), (q5, .inl (cI, 18000, .inl (fun _ => 0))), (q6, .inl (cI, 6000, .inl (fun _ => 0))), (q7, .inl (cI, 6000, .inl (fun _ => 0))), (q8, .inl (cI, 12001, .inl (fun _ => 0))), (q9, .inl (cI, 12001, .inl (fun _ => 0))), (q10, .inl (cI, 12001, .inl (fun _ => 0))), (q11, .inl (cI, 12001, .inl (fun _ => 0))), (q12, .inl (cI, 12001, .inl (fun _ => 0)))] H := hP
  have hD : va_D A [(h0, .inr (8, [.ref g1, .ref g2, .ref q1, .ref q2, .int 0, .int 0, .ref q3, .ref q4, .ref q5, .int 0, .ref q6, .ref q7, .ref q8, .ref q9, .ref q10, .ref q11, .ref q12, .int 0])), (q1, .inl (cJ, 99, .inr (.inl (fun _ => 0)))), (q2, .inl (cJ, 99, .inr (.inl (fun _ => 0)))), (q3, .inl (cI, 9001, .inl (fun _ => 0))), (q4, .inl (cI, 9001, .inl (fun _ => 0))), (q5, .inl (cI, 18000, .inl (fun _ => 0))), (q6, .inl (cI, 6000, .inl (fun _ => 0))), (q7, .inl (cI, 6000, .inl (fun _ => 0))), (q8, .inl (cI, 12001, .inl (fun _ => 0))), (q9, .inl (cI, 12001, .inl (fun _ => 0))), (q10, .inl (cI, 12001, .inl (fun _ => 0))), (q11, .inl (cI, 12001, .inl (fun _ => 0))), (q12, .inl (cI, 12001, .inl (fun _ => 0)))] := hD
  exact W.vret hx hb hr (fun t ht hW => ⟨⟨(), rfl, trivial, q1, q2, q3, q4, q5, q6, q7, q8, q9, q10, q11, q12, by rw [ht]; exact hP, hD⟩, hS.F ht⟩) hS.2.2 d_Pg_init_120

