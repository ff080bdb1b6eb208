/-! constructors: all rows empty -/
theorem d_Wd_init_0 : decode b_Wd_init 0 = .ok (.aload_n 0, 1) := by decide +kernel
theorem d_Wd_init_1 : decode b_Wd_init 1 = .ok (.invokespecial 3, 3) := by decide +kernel
theorem d_Wd_init_4 : decode b_Wd_init 4 = .ok (.aload_n 0, 1) := by decide +kernel
theorem d_Wd_init_5 : decode b_Wd_init 5 = .ok (.sipush 512, 3) := by decide +kernel
theorem d_Wd_init_8 : decode b_Wd_init 8 = .ok (.newarray .int, 2) := by decide +kernel
theorem d_Wd_init_10 : decode b_Wd_init 10 = .ok (.putfield 11, 3) := by decide +kernel
theorem d_Wd_init_13 : decode b_Wd_init 13 = .ok (.aload_n 0, 1) := by decide +kernel
theorem d_Wd_init_14 : decode b_Wd_init 14 = .ok (.sipush 5923, 3) := by decide +kernel
theorem d_Wd_init_17 : decode b_Wd_init 17 = .ok (.newarray .int, 2) := by decide +kernel
theorem d_Wd_init_19 : decode b_Wd_init 19 = .ok (.putfield 15, 3) := by decide +kernel
theorem d_Wd_init_22 : decode b_Wd_init 22 = .ok (.aload_n 0, 1) := by decide +kernel
theorem d_Wd_init_23 : decode b_Wd_init 23 = .ok (.sipush 5923, 3) := by decide +kernel
theorem d_Wd_init_26 : decode b_Wd_init 26 = .ok (.newarray .int, 2) := by decide +kernel
theorem d_Wd_init_28 : decode b_Wd_init 28 = .ok (.putfield 18, 3) := by decide +kernel
theorem d_Wd_init_31 : decode b_Wd_init 31 = .ok (.aload_n 0, 1) := by decide +kernel
theorem d_Wd_init_32 : decode b_Wd_init 32 = .ok (.sipush 5923, 3) := by decide +kernel
theorem d_Wd_init_35 : decode b_Wd_init 35 = .ok (.newarray .int, 2) := by decide +kernel
theorem d_Wd_init_37 : decode b_Wd_init 37 = .ok (.putfield 21, 3) := by decide +kernel
theorem d_Wd_init_40 : decode b_Wd_init 40 = .ok (.aload_n 0, 1) := by decide +kernel
theorem d_Wd_init_41 : decode b_Wd_init 41 = .ok (.sipush 5923, 3) := by decide +kernel
theorem d_Wd_init_44 : decode b_Wd_init 44 = .ok (.newarray .int, 2) := by decide +kernel
theorem d_Wd_init_46 : decode b_Wd_init 46 = .ok (.putfield 24, 3) := by decide +kernel
theorem d_Wd_init_49 : decode b_Wd_init 49 = .ok (.aload_n 0, 1) := by decide +kernel
theorem d_Wd_init_50 : decode b_Wd_init 50 = .ok (.sipush 5923, 3) := by decide +kernel
theorem d_Wd_init_53 : decode b_Wd_init 53 = .ok (.newarray .int, 2) := by decide +kernel
theorem d_Wd_init_55 : decode b_Wd_init 55 = .ok (.putfield 27, 3) := by decide +kernel
theorem d_Wd_init_58 : decode b_Wd_init 58 = .ok (.aload_n 0, 1) := by decide +kernel
theorem d_Wd_init_59 : decode b_Wd_init 59 = .ok (.sipush 5923, 3) := by decide +kernel
theorem d_Wd_init_62 : decode b_Wd_init 62 = .ok (.newarray .int, 2) := by decide +kernel
theorem d_Wd_init_64 : decode b_Wd_init 64 = .ok (.putfield 30, 3) := by decide +kernel
theorem d_Wd_init_67 : decode b_Wd_init 67 = .ok (.aload_n 0, 1) := by decide +kernel
theorem d_Wd_init_68 : decode b_Wd_init 68 = .ok (.aload_n 1, 1) := by decide +kernel
theorem d_Wd_init_69 : decode b_Wd_init 69 = .ok (.putfield 33, 3) := by decide +kernel
theorem d_Wd_init_72 : decode b_Wd_init 72 = .ok (.return_, 1) := by decide +kernel
set_option maxHeartbeats 4000000 in
set_option maxRecDepth 100000 in
theorem c_Wd_init (l : Launch) (D : va_G) (cI cB cJ cZ : ClassId) (sz : Nat) (h0 g1 : Nat) : Met l y_Wd_init (Cond.code y_Wd_init b_Wd_init 2 none :: gG) { frames := 1, cells := 7, slots := 36050, locals := 12 } (va_Pc [.ref h0, .ref g1] (ct_P D (tyL cI cB cJ cZ) [(h0, .inr (11, [.null, .null, .null, .null, .null, .null, .null, .null, .int 0]))] sz)) (va_Qv (fun _ : Unit => True) (fun _ t => ∃ q1 q2 q3 q4 q5 q6 q7 : Nat, va_P D kl [(h0, .inr (11, [.ref g1, .ref q1, .ref q2, .ref q3, .ref q4, .ref q5, .ref q6, .ref q7, .int 0])), (q1, .inl (cI, 512, .inl (fun _ => 0))), (q2, .inl (cI, 5923, .inl (fun _ => 0))), (q3, .inl (cI, 5923, .inl (fun _ => 0))), (q4, .inl (cI, 5923, .inl (fun _ => 0))), (q5, .inl (cI, 5923, .inl (fun _ => 0))), (q6, .inl (cI, 5923, .inl (fun _ => 0))), (q7, .inl (cI, 5923, .inl (fun _ => 0)))] t.heap ∧ va_D (va_A [(h0, .inr (11, [.null, .null, .null, .null, .null, .null, .null, .null, .int 0]))] sz) [(h0, .inr (11, [.ref g1, .ref q1, .ref q2, .ref q3, .ref q4, .ref q5, .ref q6, .ref q7, .int 0])), (q1, .inl (cI, 512, .inl (fun _ => 0))), (q2, .inl (cI, 5923, .inl (fun _ => 0))), (q3, .inl (cI, 5923, .inl (fun _ => 0))), (q4, .inl (cI, 5923, .inl (fun _ => 0))), (q5, .inl (cI, 5923, .inl (fun _ => 0))), (q6, .inl (cI, 5923, .inl (fun _ => 0))), (q7, .inl (cI, 5923, .inl (fun _ => 0)))]) (va_A [(h0, .inr (11, [.null, .null, .null, .null, .null, .null, .null, .null, .int 0]))] sz)) 7 36050 (va_A [(h0, .inr (11, [.null, .null, .null, .null, .null, .null, .null, .null, .int 0]))] sz) := by
  refine Met.ofW (cc := b_Wd_init) (maxL := 2) (ret := none) (by decide) rfl ?_
  intro p e s m args below meth c s₁ B hml hv
  obtain ⟨rfl, hsz, hP, hK, hD0⟩ := hv
  have hx := B.exec
  have hb := B.bytes
  have hr := B.returns
  have hts := atoms_spec (ws := Cond.code y_Wd_init b_Wd_init 2 none :: gG) B.pre
  have hG : ∀ w ∈ gG, w.before [.ref h0, .ref g1].toArray s = true := fun w h => hts w (List.mem_cons_of_mem _ h)
  have hown : s.vm.findClass R_Wd = some m.cls := findClass_of_methodNamed B.named
  have hlocks := B.notSynchronized
  have hin : meth.name = "<init>" := (name_of_methodNamed B.named B.method).1
  subst hsz
  have hD := hD0.self (sz := s.heap.size)
  generalize hAe : va_A [(h0, .inr (11, [.null, .null, .null, .null, .null, .null, .null, .null, .int 0]))] s.heap.size = A at hD ⊢
  have hA : ∀ q : Nat, s.heap.size ≤ q → A q := fun q h => by rw [← hAe]; exact Or.inr h
  have hS : va_S A s.heap s.heap [] := va_S.rf
  have hl := lv_entry ([.ref h0, .ref g1]) (n := 2) (Nat.le_of_ble_eq_true rfl)
  rw [lg_entry_eq]
  generalize (lg_sl ([.ref h0, .ref g1]) ++ List.replicate (2 - (lg_sl ([.ref h0, .ref g1])).length) Slot.unset).toArray = ls at hl ⊢
  have hl : lv_has ls 2 [(0, .ref h0), (1, .ref g1)] := hl
  refine lv_aload_n hx hb d_Wd_init_0 rfl (lv_at hl 0 rfl) ?_
  refine W.objInit hx hb hown (hG _ ml_Wd_3) (hG _ im_java_lang_Object_init) (hG _ co_java_lang_Object_init) rfl (by rw [hml]; exact hl.1) rfl d_Wd_init_1 (Nat.le_of_ble_eq_true rfl) (Nat.le_of_ble_eq_true rfl) ?_
  refine W.eq (g2 := F0 m 4 ls []) rfl ?_
  refine lv_aload_n hx hb d_Wd_init_4 rfl (lv_at hl 0 rfl) ?_
  refine lv_sipush (v := 512) hx hb d_Wd_init_5 (by decide) ?_
  refine ra_new (atype := .int) (D := D) hx hb (hG _ ac_int) rfl (fun _ h => by cases h) hK hP hD hS hA 0 rfl (512, .inl (fun _ => 0)) (fun _ => rfl) (by decide +kernel) (by decide +kernel) (Nat.le_of_ble_eq_true rfl) (Nat.le_of_ble_eq_true rfl) (Nat.le_of_ble_eq_true rfl) d_Wd_init_8 (fun q1 H hP hD hS => ?_)
  have hP : va_P D kl [(h0, .inr (11, [.null, .null, .null, .null, .null, .null, .null, .null, .int 0])), (q1, .inl (cI, 512, .inl (fun _ => 0)))] H := hP
  have hD : va_D A [(h0, .inr (11, [.null, .null, .null, .null, .null, .null, .null, .null, .int 0])), (q1, .inl (cI, 512, .inl (fun _ => 0)))] := hD
  refine W.widen (k := 1) (n := 512) (Nat.le_of_ble_eq_true rfl) (Nat.le_of_ble_eq_true rfl) ?_
  refine va_putF (D := D) (ci := 11) (v := .ref q1) (ty := .array .int) (C := R_Wd) (T := T_Wd) (N := 9) hx hb hG gi_Wd ty_Wd to_Wd nm_Wd hown hK hP hD hS 0 rfl rfl 1 (by decide) (hG _ fl_Wd_11) (fun _ h9 => h9) rfl hin rfl (by decide +kernel) rfl rfl (Nat.le_of_ble_eq_true rfl) d_Wd_init_10 (fun H locs hP hD hS => ?_)
  have hP : va_P D kl [(h0, .inr (11, [.null, .ref q1, .null, .null, .null, .null, .null, .null, .int 0])), (q1, .inl (cI, 512, .inl (fun _ => 0)))] H := hP
  have hD : va_D A [(h0, .inr (11, [.null, .ref q1, .null, .null, .null, .null, .null, .null, .int 0])), (q1, .inl (cI, 512, .inl (fun _ => 0)))] := hD
  refine lv_aload_n hx hb d_Wd_init_13 rfl (lv_at hl 0 rfl) ?_
  refine lv_sipush (v := 5923) hx hb d_Wd_init_14 (by decide) ?_
  refine ra_new (atype := .int) (D := D) hx hb (hG _ ac_int) rfl (fun _ h => by cases h) hK hP hD hS hA 0 rfl (5923, .inl (fun _ => 0)) (fun _ => rfl) (by decide +kernel) (by decide +kernel) (Nat.le_of_ble_eq_true rfl) (Nat.le_of_ble_eq_true rfl) (Nat.le_of_ble_eq_true rfl) d_Wd_init_17 (fun q2 H hP hD hS => ?_)
  have hP : va_P D kl [(h0, .inr (11, [.null, .ref q1, .null, .null, .null, .null, .null, .null, .int 0])), (q1, .inl (cI, 512, .inl (fun _ => 0))), (q2, .inl (cI, 5923, .inl (fun _ => 0)))] H := hP
  have hD : va_D A [(h0, .inr (11, [.null, .ref q1, .null, .null, .null, .null, .null, .null, .int 0])), (q1, .inl (cI, 512, .inl (fun _ => 0))), (q2, .inl (cI, 5923, .inl (fun _ => 0)))] := hD
  refine W.widen (k := 2) (n := 6435) (Nat.le_of_ble_eq_true rfl) (Nat.le_of_ble_eq_true rfl) ?_
  refine va_putF (D := D) (ci := 11) (v := .ref q2) (ty := .array .int) (C := R_Wd) (T := T_Wd) (N := 9) hx hb hG gi_Wd ty_Wd to_Wd nm_Wd hown hK hP hD hS 0 rfl rfl 2 (by decide) (hG _ fl_Wd_15) (fun _ h9 => h9) rfl hin rfl (by decide +kernel) rfl rfl (Nat.le_of_ble_eq_true rfl) d_Wd_init_19 (fun H locs hP hD hS => ?_)
  have hP : va_P D kl [(h0, .inr (11, [.null, .ref q1, .ref q2, .null, .null, .null, .null, .null, .int 0])), (q1, .inl (cI, 512, .inl (fun _ => 0))), (q2, .inl (cI, 5923, .inl (fun _ => 0)))] H := hP
  have hD : va_D A [(h0, .inr (11, [.null, .ref q1, .ref q2, .null, .null, .null, .null, .null, .int 0])), (q1, .inl (cI, 512, .inl (fun _ => 0))), (q2, .inl (cI, 5923, .inl (fun _ => 0)))] := hD
  refine lv_aload_n hx hb d_Wd_init_22 rfl (lv_at hl 0 rfl) ?_
  refine lv_sipush (v := 5923) hx hb d_Wd_init_23 (by decide) ?_
  refine ra_new (atype := .int) (D := D) hx hb (hG _ ac_int) rfl (fun _ h => by cases h) hK hP hD hS hA 0 rfl (5923, .inl (fun _ => 0)) (fun _ => rfl) (by decide +kernel) (by decide +kernel) (Nat.le_of_ble_eq_true rfl) (Nat.le_of_ble_eq_true rfl) (Nat.le_of_ble_eq_true rfl) d_Wd_init_26 (fun q3 H hP hD hS => ?_)
  have hP : va_P D kl [(h0, .inr (11, [.null, .ref q1, .ref q2, .null, .null, .null, .null, .null, .int 0])), (q1, .inl (cI, 512, .inl (fun _ => 0))), (q2, .inl (cI, 5923, .inl (fun _ => 0))), (q3, .inl (cI, 5923, .inl (fun _ => 0)))] H := hP
  have hD : va_D A [(h0, .inr (11, [.null, .ref q1, .ref q2, .null, .null, .null, .null, .null, .int 0])), (q1, .inl (cI, 512, .inl (fun _ => 0))), (q2, .inl (cI, 5923, .inl (fun _ => 0))), (q3, .inl (cI, 5923, .inl (fun _ => 0)))] := hD
  refine W.widen (k := 3) (n := 12358) (Nat.le_of_ble_eq_true rfl) (Nat.le_of_ble_eq_true rfl) ?_
  refine va_putF (D := D) (ci := 11) (v := .ref q3) (ty := .array .int) (C := R_Wd) (T := T_Wd) (N := 9) hx hb hG gi_Wd ty_Wd to_Wd nm_Wd hown hK hP hD hS 0 rfl rfl 3 (by decide) (hG _ fl_Wd_18) (fun _ h9 => h9) rfl hin rfl (by decide +kernel) rfl rfl (Nat.le_of_ble_eq_true rfl) d_Wd_init_28 (fun H locs hP hD hS => ?_)
  have hP : va_P D kl [(h0, .inr (11, [.null, .ref q1, .ref q2, .ref q3, .null, .null, .null, .null, .int 0])), (q1, .inl (cI, 512, .inl (fun _ => 0))), (q2, .inl (cI, 5923, .inl (fun _ => 0))), (q3, .inl (cI, 5923, .inl (fun _ => 0)))] H := hP
  have hD : va_D A [(h0, .inr (11, [.null, .ref q1, .ref q2, .ref q3, .null, .null, .null, .null, .int 0])), (q1, .inl (cI, 512, .inl (fun _ => 0))), (q2, .inl (cI, 5923, .inl (fun _ => 0))), (q3, .inl (cI, 5923, .inl (fun _ => 0)))] := hD
  refine lv_aload_n hx hb d_Wd_init_31 rfl (lv_at hl 0 rfl) ?_
  refine lv_sipush (v := 5923) hx hb d_Wd_init_32 (by decide) ?_
  refine ra_new (atype := .int) (D := D) hx hb (hG _ ac_int) rfl (fun _ h => by cases h) hK hP hD hS hA 0 rfl (5923, .inl (fun _ => 0)) (fun _ => rfl) (by decide +kernel) (by decide +kernel) (Nat.le_of_ble_eq_true rfl) (Nat.le_of_ble_eq_true rfl) (Nat.le_of_ble_eq_true rfl) d_Wd_init_35 (fun q4 H hP hD hS => ?_)
  have hP : va_P D kl [(h0, .inr (11, [.null, .ref q1, .ref q2, .ref q3, .null, .null, .null, .null, .int 0])), (q1, .inl (cI, 512, .inl (fun _ => 0))), (q2, .inl (cI, 5923, .inl (fun _ => 0))), (q3, .inl (cI, 5923, .inl (fun _ => 0))), (q4, .inl (cI, 5923, .inl (fun _ => 0)))] H := hP
  have hD : va_D A [(h0, .inr (11, [.null, .ref q1, .ref q2, .ref q3, .null, .null, .null, .null, .int 0])), (q1, .inl (cI, 512, .inl (fun _ => 0))), (q2, .inl (cI, 5923, .inl (fun _ => 0))), (q3, .inl (cI, 5923, .inl (fun _ => 0))), (q4, .inl (cI, 5923, .inl (fun _ => 0)))] := hD
  refine W.widen (k := 4) (n := 18281) (Nat.le_of_ble_eq_true rfl) (Nat.le_of_ble_eq_true rfl) ?_
  refine va_putF (D := D) (ci := 11) (v := .ref q4) (ty := .array .int) (C := R_Wd) (T := T_Wd) (N := 9) hx hb hG gi_Wd ty_Wd to_Wd nm_Wd hown hK hP hD hS 0 rfl rfl 4 (by decide) (hG _ fl_Wd_21) (fun _ h9 => h9) rfl hin rfl (by decide +kernel) rfl rfl (Nat.le_of_ble_eq_true rfl) d_Wd_init_37 (fun H locs hP hD hS => ?_)
  have hP : va_P D kl [(h0, .inr (11, [.null, .ref q1, .ref q2, .ref q3, .ref q4, .null, .null, .null, .int 0])), (q1, .inl (cI, 512, .inl (fun _ => 0))), (q2, .inl (cI, 5923, .inl (fun _ => 0))), (q3, .inl (cI, 5923, .inl (fun _ => 0))), (q4, .inl (cI, 5923, .inl (fun _ => 0)))] H := hP
  have hD : va_D A [(h0, .inr (11, [.null, .ref q1, .ref q2, .ref q3, .ref q4, .null, .null, .null, .int 0])), (q1, .inl (cI, 512, .inl (fun _ => 0))), (q2, .inl (cI, 5923, .inl (fun _ => 0))), (q3, .inl (cI, 5923, .inl (fun _ => 0))), (q4, .inl (cI, 5923, .inl (fun _ => 0)))] := hD
  refine lv_aload_n hx hb d_Wd_init_40 rfl (lv_at hl 0 rfl) ?_
  refine lv_sipush (v := 5923) hx hb d_Wd_init_41 (by decide) ?_
  refine ra_new (atype := .int) (D := D) hx hb (hG _ ac_int) rfl (fun _ h => by cases h) hK hP hD hS hA 0 rfl (5923, .inl (fun _ => 0)) (fun _ => rfl) (by decide +kernel) (by decide +kernel) (Nat.le_of_ble_eq_true rfl) (Nat.le_of_ble_eq_true rfl) (Nat.le_of_ble_eq_true rfl) d_Wd_init_44 (fun q5 H hP hD hS => ?_)
  have hP : va_P D kl [(h0, .inr (11, [.null, .ref q1, .ref q2, .ref q3, .ref q4, .null, .null, .null, .int 0])), (q1, .inl (cI, 512, .inl (fun _ => 0))), (q2, .inl (cI, 5923, .inl (fun _ => 0))), (q3, .inl (cI, 5923, .inl (fun _ => 0))), (q4, .inl (cI, 5923, .inl (fun _ => 0))), (q5, .inl (cI, 5923, .inl (fun _ => 0)))] H := hP
  have hD : va_D A [(h0, .inr (11, [.null, .ref q1, .ref q2, .ref q3, .ref q4, .null, .null, .null, .int 0])), (q1, .inl (cI, 512, .inl (fun _ => 0))), (q2, .inl (cI, 5923, .inl (fun _ => 0))), (q3, .inl (cI, 5923, .inl (fun _ => 0))), (q4, .inl (cI, 5923, .inl (fun _ => 0))), (q5, .inl (cI, 5923, .inl (fun _ => 0)))] := hD
  refine W.widen (k := 5) (n := 24204) (Nat.le_of_ble_eq_true rfl) (Nat.le_of_ble_eq_true rfl) ?_
  refine va_putF (D := D) (ci := 11) (v := .ref q5) (ty := .array .int) (C := R_Wd) (T := T_Wd) (N := 9) hx hb hG gi_Wd ty_Wd to_Wd nm_Wd hown hK hP hD hS 0 rfl rfl 5 (by decide) (hG _ fl_Wd_24) (fun _ h9 => h9) rfl hin rfl (by decide +kernel) rfl rfl (Nat.le_of_ble_eq_true rfl) d_Wd_init_46 (fun H locs hP hD hS => ?_)
  have hP : va_P D kl [(h0, .inr (11, [.null, .ref q1, .ref q2, .ref q3, .ref q4, .ref q5, .null, .null, .int 0])), (q1, .inl (cI, 512, .inl (fun _ => 0))), (q2, .inl (cI, 5923, .inl (fun _ => 0))), (q3, .inl (cI, 5923, .inl (fun _ => 0))), (q4, .inl (cI, 5923, .inl (fun _ => 0))), (q5, .inl (cI, 5923, .inl (fun _ => 0)))] H := hP
  have hD : va_D A [(h0, .inr (11, [.null, .ref q1, .ref q2, .ref q3, .ref q4, .ref q5, .null, .null, .int 0])), (q1, .inl (cI, 512, .inl (fun _ => 0))), (q2, .inl (cI, 5923, .inl (fun _ => 0))), (q3, .inl (cI, 5923, .inl (fun _ => 0))), (q4, .inl (cI, 5923, .inl (fun _ => 0))), (q5, .inl (cI, 5923, .inl (fun _ => 0)))] := hD
  refine lv_aload_n hx hb d_Wd_init_49 rfl (lv_at hl 0 rfl) ?_
  refine lv_sipush (v := 5923) hx hb d_Wd_init_50 (by decide) ?_
  refine ra_new (atype := .int) (D := D) hx hb (hG _ ac_int) rfl (fun _ h => by cases h) hK hP hD hS hA 0 rfl (5923, .inl (fun _ => 0)) (fun _ => rfl) (by decide +kernel) (by decide +kernel) (Nat.le_of_ble_eq_true rfl) (Nat.le_of_ble_eq_true rfl) (Nat.le_of_ble_eq_true rfl) d_Wd_init_53 (fun q6 H hP hD hS => ?_)
  have hP : va_P D kl [(h0, .inr (11, [.null, .ref q1, .ref q2, .ref q3, .ref q4, .ref q5, .null, .null, .int 0])), (q1, .inl (cI, 512, .inl (fun _ => 0))), (q2, .inl (cI, 5923, .inl (fun _ => 0))), (q3, .inl (cI, 5923, .inl (fun _ => 0))), (q4, .inl (cI, 5923, .inl (fun _ => 0))), (q5, .inl (cI, 5923, .inl (fun _ => 0))), (q6, .inl (cI, 5923, .inl (fun _ => 0)))] H := hP
  have hD : va_D A [(h0, .inr (11, [.null, .ref q1, .ref q2, .ref q3, .ref q4, .ref q5, .null, .null, .int 0])), (q1, .inl (cI, 512, .inl (fun _ => 0))), (q2, .inl (cI, 5923, .inl (fun _ => 0))), (q3, .inl (cI, 5923, .inl (fun _ => 0))), (q4, .inl (cI, 5923, .inl (fun _ => 0))), (q5, .inl (cI, 5923, .inl (fun _ => 0))), (q6, .inl (cI, 5923, .inl (fun _ => 0)))] := hD
  refine W.widen (k := 6) (n := 30127) (Nat.le_of_ble_eq_true rfl) (Nat.le_of_ble_eq_true rfl) ?_
  refine va_putF (D := D) (ci := 11) (v := .ref q6) (ty := .array .int) (C := R_Wd) (T := T_Wd) (N := 9) hx hb hG gi_Wd ty_Wd to_Wd nm_Wd hown hK hP hD hS 0 rfl rfl 6 (by decide) (hG _ fl_Wd_27) (fun _ h9 => h9) rfl hin rfl (by decide +kernel) rfl rfl (Nat.le_of_ble_eq_true rfl) d_Wd_init_55 (fun H locs hP hD hS => ?_)
  have hP : va_P D kl [(h0, .inr (11, [.null, .ref q1, .ref q2, .ref q3, .ref q4, .ref q5, .ref q6, .null, .int 0])), (q1, .inl (cI, 512, .inl (fun _ => 0))), (q2, .inl (cI, 5923, .inl (fun _ => 0))), (q3, .inl (cI, 5923, .inl (fun _ => 0))), (q4, .inl (cI, 5923, .inl (fun _ => 0))), (q5, .inl (cI, 5923, .inl (fun _ => 0))), (q6, .inl (cI, 5923, .inl (fun _ => 0)))] H := hP
  have hD : va_D A [(h0, .inr (11, [.null, .ref q1, .ref q2, .ref q3, .ref q4, .ref q5, .ref q6, .null, .int 0])), (q1, .inl (cI, 512, .inl (fun _ => 0))), (q2, .inl (cI, 5923, .inl (fun _ => 0))), (q3, .inl (cI, 5923, .inl (fun _ => 0))), (q4, .inl (cI, 5923, .inl (fun _ => 0))), (q5, .inl (cI, 5923, .inl (fun _ => 0))), (q6, .inl (cI, 5923, .inl (fun _ => 0)))] := hD
  refine lv_aload_n hx hb d_Wd_init_58 rfl (lv_at hl 0 rfl) ?_
  refine lv_sipush (v := 5923) hx hb d_Wd_init_59 (by decide) ?_
  refine ra_new (atype := .int) (D := D) hx hb (hG _ ac_int) rfl (fun _ h => by cases h) hK hP hD hS hA 0 rfl (5923, .inl (fun _ => 0)) (fun _ => rfl) (by decide +kernel) (by decide +kernel) (Nat.le_of_ble_eq_true rfl) (Nat.le_of_ble_eq_true rfl) (Nat.le_of_ble_eq_true rfl) d_Wd_init_62 (fun q7 H hP hD hS => ?_)
  have hP : va_P D kl [(h0, .inr (11, [.null, .ref q1, .ref q2, .ref q3, .ref q4, .ref q5, .ref q6, .null, .int 0])), (q1, .inl (cI, 512, .inl (fun _ => 0))), (q2, .inl (cI, 5923, .inl (fun _ => 0))), (q3, .inl (cI, 5923, .inl (fun _ => 0))), (q4, .inl (cI, 5923, .inl (fun _ => 0))), (q5, .inl (cI, 5923, .inl (fun _ => 0))), (q6, .inl (cI, 5923, .inl (fun _ => 0))), (q7, .inl (cI, 5923, .inl (fun _ => 0)))] H := hP
  have hD : va_D A [(h0, .inr (11, [.null, .ref q1, .ref q2, .ref q3, .ref q4, .ref q5, .ref q6, .null, .int 0])), (q1, .inl (cI, 512, .inl (fun _ => 0))), (q2, .inl (cI, 5923, .inl (fun _ => 0))), (q3, .inl (cI, 5923, .inl (fun _ => 0))), (q4, .inl (cI, 5923, .inl (fun _ => 0))), (q5, .inl (cI, 5923, .inl (fun _ => 0))), (q6, .inl (cI, 5923, .inl (fun _ => 0))), (q7, .inl (cI, 5923, .inl (fun _ => 0)))] := hD
  refine W.widen (k := 7) (n := 36050) (Nat.le_of_ble_eq_true rfl) (Nat.le_of_ble_eq_true rfl) ?_
  refine va_putF (D := D) (ci := 11) (v := .ref q7) (ty := .array .int) (C := R_Wd) (T := T_Wd) (N := 9) hx hb hG gi_Wd ty_Wd to_Wd nm_Wd hown hK hP hD hS 0 rfl rfl 7 (by decide) (hG _ fl_Wd_30) (fun _ h9 => h9) rfl hin rfl (by decide +kernel) rfl rfl (Nat.le_of_ble_eq_true rfl) d_Wd_init_64 (fun H locs hP hD hS => ?_)
  have hP : va_P D kl [(h0, .inr (11, [.null, .ref q1, .ref q2, .ref q3, .ref q4, .ref q5, .ref q6, .ref q7, .int 0])), (q1, .inl (cI, 512, .inl (fun _ => 0))), (q2, .inl (cI, 5923, .inl (fun _ => 0))), (q3, .inl (cI, 5923, .inl (fun _ => 0))), (q4, .inl (cI, 5923, .inl (fun _ => 0))), (q5, .inl (cI, 5923, .inl (fun _ => 0))), (q6, .inl (cI, 5923, .inl (fun _ => 0))), (q7, .inl (cI, 5923, .inl (fun _ => 0)))] H := hP
  have hD : va_D A [(h0, .inr (11, [.null, .ref q1, .ref q2, .ref q3, .ref q4, .ref q5, .ref q6, .ref q7, .int 0])), (q1, .inl (cI, 512, .inl (fun _ => 0))), (q2, .inl (cI, 5923, .inl (fun _ => 0))), (q3, .inl (cI, 5923, .inl (fun _ => 0))), (q4, .inl (cI, 5923, .inl (fun _ => 0))), (q5, .inl (cI, 5923, .inl (fun _ => 0))), (q6, .inl (cI, 5923, .inl (fun _ => 0))), (q7, .inl (cI, 5923, .inl (fun _ => 0)))] := hD
  refine lv_aload_n hx hb d_Wd_init_67 rfl (lv_at hl 0 rfl) ?_
  refine lv_aload_n hx hb d_Wd_init_68 rfl (lv_at hl 1 rfl) ?_
  refine va_putF (D := D) (ci := 11) (v := .ref g1) (ty := .array .byte) (C := R_Wd) (T := T_Wd) (N := 9) hx hb hG gi_Wd ty_Wd to_Wd nm_Wd hown hK hP hD hS 0 rfl rfl 0 (by decide) (hG _ fl_Wd_33) (fun _ h9 => h9) rfl hin rfl (by decide +kernel) rfl rfl (Nat.le_of_ble_eq_true rfl) d_Wd_init_69 (fun H locs hP hD hS => ?_)
  have hP : va_P D kl [(h0, .inr (11, [.ref g1, .ref q1, .ref q2, .ref q3, .ref q4, .ref q5, .ref q6, .ref q7, .int 0])), (q1, .inl (cI, 512, .inl (fun _ => 0))), (q2, .inl (cI, 5923, .inl (fun _ => 0))), (q3, .inl (cI, 5923, .inl (fun _ => 0))), (q4, .inl (cI, 5923, .inl (fun _ => 0))), (q5, .inl (cI, 5923, .inl (fun _ => 0))), (q6, .inl (cI, 5923, .inl (fun _ => 0))), (q7, .inl (cI, 5923, .inl (fun _ => 0)))] H := hP
  have hD : va_D A [(h0, .inr (11, [.ref g1, .ref q1, .ref q2, .ref q3, .ref q4, .ref q5, .ref q6, .ref q7, .int 0])), (q1, .inl (cI, 512, .inl (fun _ => 0))), (q2, .inl (cI, 5923, .inl (fun _ => 0))), (q3, .inl (cI, 5923, .inl (fun _ => 0))), (q4, .inl (cI, 5923, .inl (fun _ => 0))), (q5, .inl (cI, 5923, .inl (fun _ => 0))), (q6, .inl (cI, 5923, .inl (fun _ => 0))), (q7, .inl (cI, 5923, .inl (fun _ => 0)))] := hD
  exact W.vret hx hb hr (fun t ht hW => ⟨⟨(), rfl, trivial, q1, q2, q3, q4, q5, q6, q7, by rw [ht]; exact hP, hD⟩, hS.F ht⟩) hS.2.2 d_Wd_init_72

theorem d_Tk_init_0 : decode b_Tk_init 0 = .ok (.aload_n 0, 1) := by decide +kernel
theorem d_Tk_init_1 : decode b_Tk_init 1 = .ok (.invokespecial 3, 3) := by decide +kernel
theorem d_Tk_init_4 : decode b_Tk_init 4 = .ok (.aload_n 0, 1) := by decide +kernel
theorem d_Tk_init_5 : decode b_Tk_init 5 = .ok (.ldc 9, 2) := by decide +kernel
theorem d_Tk_init_7 : decode b_Tk_init 7 = .ok (.newarray .int, 2) := by decide +kernel
theorem d_Tk_init_9 : decode b_Tk_init 9 = .ok (.putfield 10, 3) := by decide +kernel
theorem d_Tk_init_12 : decode b_Tk_init 12 = .ok (.aload_n 0, 1) := by decide +kernel
theorem d_Tk_init_13 : decode b_Tk_init 13 = .ok (.ldc 9, 2) := by decide +kernel
theorem d_Tk_init_15 : decode b_Tk_init 15 = .ok (.newarray .int, 2) := by decide +kernel
theorem d_Tk_init_17 : decode b_Tk_init 17 = .ok (.putfield 16, 3) := by decide +kernel
theorem d_Tk_init_20 : decode b_Tk_init 20 = .ok (.aload_n 0, 1) := by decide +kernel
theorem d_Tk_init_21 : decode b_Tk_init 21 = .ok (.ldc 9, 2) := by decide +kernel
theorem d_Tk_init_23 : decode b_Tk_init 23 = .ok (.newarray .int, 2) := by decide +kernel
theorem d_Tk_init_25 : decode b_Tk_init 25 = .ok (.putfield 19, 3) := by decide +kernel
theorem d_Tk_init_28 : decode b_Tk_init 28 = .ok (.aload_n 0, 1) := by decide +kernel
theorem d_Tk_init_29 : decode b_Tk_init 29 = .ok (.aload_n 1, 1) := by decide +kernel
theorem d_Tk_init_30 : decode b_Tk_init 30 = .ok (.putfield 22, 3) := by decide +kernel
theorem d_Tk_init_33 : decode b_Tk_init 33 = .ok (.aload_n 0, 1) := by decide +kernel
theorem d_Tk_init_34 : decode b_Tk_init 34 = .ok (.new 26, 3) := by decide +kernel
theorem d_Tk_init_37 : decode b_Tk_init 37 = .ok (.dup, 1) := by decide +kernel
theorem d_Tk_init_38 : decode b_Tk_init 38 = .ok (.aload_n 1, 1) := by decide +kernel
theorem d_Tk_init_39 : decode b_Tk_init 39 = .ok (.invokespecial 28, 3) := by decide +kernel
theorem d_Tk_init_42 : decode b_Tk_init 42 = .ok (.putfield 31, 3) := by decide +kernel
theorem d_Tk_init_45 : decode b_Tk_init 45 = .ok (.return_, 1) := by decide +kernel
set_option maxHeartbeats 4000000 in
set_option maxRecDepth 100000 in
theorem c_Tk_init (l : Launch) (D : va_G) (cI cB cJ cZ : ClassId) (sz : Nat) (h0 g1 : Nat) : Met l y_Tk_init (Cond.code y_Tk_init b_Tk_init 2 none :: gG) { frames := 2, cells := 11, slots := 232670, locals := 44 } (va_Pc [.ref h0, .ref g1] (ct_P D (tyL cI cB cJ cZ) [(h0, .inr (10, [.null, .null, .null, .null, .null, .int 0, .int 0, .int 0, .int 0]))] sz)) (va_Qv (fun _ : Unit => True) (fun _ t => ∃ q1 q2 q3 q4 q5 q6 q7 q8 q9 q10 q11 : Nat, va_P D kl [(h0, .inr (10, [.ref g1, .ref q4, .ref q1, .ref q2, .ref q3, .int 0, .int 0, .int 0, .int 0])), (q1, .inl (cI, 65537, .inl (fun _ => 0))), (q2, .inl (cI, 65537, .inl (fun _ => 0))), (q3, .inl (cI, 65537, .inl (fun _ => 0))), (q4, .inr (11, [.ref g1, .ref q5, .ref q6, .ref q7, .ref q8, .ref q9, .ref q10, .ref q11, .int 0])), (q5, .inl (cI, 512, .inl (fun _ => 0))), (q6, .inl (cI, 5923, .inl (fun _ => 0))), (q7, .inl (cI, 5923, .inl (fun _ => 0))), (q8, .inl (cI, 5923, .inl (fun _ => 0))), (q9, .inl (cI, 5923, .inl (fun _ => 0))), (q10, .inl (cI, 5923, .inl (fun _ => 0))), (q11, .inl (cI, 5923, .inl (fun _ => 0)))] t.heap ∧ va_D (va_A [(h0, .inr (10, [.null, .null, .null, .null, .null, .int 0, .int 0, .int 0, .int 0]))] sz) [(h0, .inr (10, [.ref g1, .ref q4, .ref q1, .ref q2, .ref q3, .int 0, .int 0, .int 0, .int 0])), (q1, .inl (cI, 65537, .inl (fun _ => 0))), (q2, .inl (cI, 65537, .inl (fun _ => 0))), (q3, .inl (cI, 65537, .inl (fun _ => 0))), (q4, .inr (11, [.ref g1, .ref q5, .ref q6, .ref q7, .ref q8, .ref q9, .ref q10, .ref q11, .int 0])), (q5, .inl (cI, 512, .inl (fun _ => 0))), (q6, .inl (cI, 5923, .inl (fun _ => 0))), (q7, .inl (cI, 5923, .inl (fun _ => 0))), (q8, .inl (cI, 5923, .inl (fun _ => 0))), (q9, .inl (cI, 5923, .inl (fun _ => 0))), (q10, .inl (cI, 5923, .inl (fun _ => 0))), (q11, .inl (cI, 5923, .inl (fun _ => 0)))]) (va_A [(h0, .inr (10, [.null, .null, .null, .null, .null, .int 0, .int 0, .int 0, .int 0]))] sz)) 11 232670 (va_A [(h0, .inr (10, [.null, .null, .null, .null, .null, .int 0, .int 0, .int 0, .int 0]))] sz) := by
  refine Met.ofW (cc := b_Tk_init) (maxL := 2) (ret := none) (by decide) rfl ?_
  intro p e s m args below meth c s₁ B hml hv
  obtain ⟨rfl, hsz, hP, hK, hD0⟩ := hv
  have hx := B.exec
  have hb := B.bytes
  have hr := B.returns
  have hts := atoms_spec (ws := Cond.code y_Tk_init b_Tk_init 2 none :: gG) B.pre
  have hG : ∀ w ∈ gG, w.before [.ref h0, .ref g1].toArray s = true := fun w h => hts w (List.mem_cons_of_mem _ h)
  have hown : s.vm.findClass R_Tk = some m.cls := findClass_of_methodNamed B.named
  have hlocks := B.notSynchronized
  have hin : meth.name = "<init>" := (name_of_methodNamed B.named B.method).1
  subst hsz
  have hD := hD0.self (sz := s.heap.size)
  generalize hAe : va_A [(h0, .inr (10, [.null, .null, .null, .null, .null, .int 0, .int 0, .int 0, .int 0]))] s.heap.size = A at hD ⊢
  have hA : ∀ q : Nat, s.heap.size ≤ q → A q := fun q h => by rw [← hAe]; exact Or.inr h
  have hS : va_S A s.heap s.heap [] := va_S.rf
  have hl := lv_entry ([.ref h0, .ref g1]) (n := 2) (Nat.le_of_ble_eq_true rfl)
  rw [lg_entry_eq]
  generalize (lg_sl ([.ref h0, .ref g1]) ++ List.replicate (2 - (lg_sl ([.ref h0, .ref g1])).length) Slot.unset).toArray = ls at hl ⊢
  have hl : lv_has ls 2 [(0, .ref h0), (1, .ref g1)] := hl
  refine lv_aload_n hx hb d_Tk_init_0 rfl (lv_at hl 0 rfl) ?_
  refine W.objInit hx hb hown (hG _ ml_Tk_3) (hG _ im_java_lang_Object_init) (hG _ co_java_lang_Object_init) rfl (by rw [hml]; exact hl.1) rfl d_Tk_init_1 (Nat.le_of_ble_eq_true rfl) (Nat.le_of_ble_eq_true rfl) ?_
  refine W.eq (g2 := F0 m 4 ls []) rfl ?_
  refine lv_aload_n hx hb d_Tk_init_4 rfl (lv_at hl 0 rfl) ?_
  refine lv_ldc (v := 65537) hx hb hown (hG _ ct_Tk_9) d_Tk_init_5 ?_
  refine ra_new (atype := .int) (D := D) hx hb (hG _ ac_int) rfl (fun _ h => by cases h) hK hP hD hS hA 0 rfl (65537, .inl (fun _ => 0)) (fun _ => rfl) (by decide +kernel) (by decide +kernel) (Nat.le_of_ble_eq_true rfl) (Nat.le_of_ble_eq_true rfl) (Nat.le_of_ble_eq_true rfl) d_Tk_init_7 (fun q1 H hP hD hS => ?_)
  have hP : va_P D kl [(h0, .inr (10, [.null, .null, .null, .null, .null, .int 0, .int 0, .int 0, .int 0])), (q1, .inl (cI, 65537, .inl (fun _ => 0)))] H := hP
  have hD : va_D A [(h0, .inr (10, [.null, .null, .null, .null, .null, .int 0, .int 0, .int 0, .int 0])), (q1, .inl (cI, 65537, .inl (fun _ => 0)))] := hD
  refine W.widen (k := 1) (n := 65537) (Nat.le_of_ble_eq_true rfl) (Nat.le_of_ble_eq_true rfl) ?_
  refine va_putF (D := D) (ci := 10) (v := .ref q1) (ty := .array .int) (C := R_Tk) (T := T_Tk) (N := 9) hx hb hG gi_Tk ty_Tk to_Tk nm_Tk hown hK hP hD hS 0 rfl rfl 2 (by decide) (hG _ fl_Tk_10) (fun _ h9 => h9) rfl hin rfl (by decide +kernel) rfl rfl (Nat.le_of_ble_eq_true rfl) d_Tk_init_9 (fun H locs hP hD hS => ?_)
  have hP : va_P D kl [(h0, .inr (10, [.null, .null, .ref q1, .null, .null, .int 0, .int 0, .int 0, .int 0])), (q1, .inl (cI, 65537, .inl (fun _ => 0)))] H := hP
  have hD : va_D A [(h0, .inr (10, [.null, .null, .ref q1, .null, .null, .int 0, .int 0, .int 0, .int 0])), (q1, .inl (cI, 65537, .inl (fun _ => 0)))] := hD
  refine lv_aload_n hx hb d_Tk_init_12 rfl (lv_at hl 0 rfl) ?_
  refine lv_ldc (v := 65537) hx hb hown (hG _ ct_Tk_9) d_Tk_init_13 ?_
  refine ra_new (atype := .int) (D := D) hx hb (hG _ ac_int) rfl (fun _ h => by cases h) hK hP hD hS hA 0 rfl (65537, .inl (fun _ => 0)) (fun _ => rfl) (by decide +kernel) (by decide +kernel) (Nat.le_of_ble_eq_true rfl) (Nat.le_of_ble_eq_true rfl) (Nat.le_of_ble_eq_true rfl) d_Tk_init_15 (fun q2 H hP hD hS => ?_)
  have hP : va_P D kl [(h0, .inr (10, [.null, .null, .ref q1, .null, .null, .int 0, .int 0, .int 0, .int 0])), (q1, .inl (cI, 65537, .inl (fun _ => 0))), (q2, .inl (cI, 65537, .inl (fun _ => 0)))] H := hP
  have hD : va_D A [(h0, .inr (10, [.null, .null, .ref q1, .null, .null, .int 0, .int 0, .int 0, .int 0])), (q1, .inl (cI, 65537, .inl (fun _ => 0))), (q2, .inl (cI, 65537, .inl (fun _ => 0)))] := hD
  refine W.widen (k := 2) (n := 131074) (Nat.le_of_ble_eq_true rfl) (Nat.le_of_ble_eq_true rfl) ?_
  refine va_putF (D := D) (ci := 10) (v := .ref q2) (ty := .array .int) (C := R_Tk) (T := T_Tk) (N := 9) hx hb hG gi_Tk ty_Tk to_Tk nm_Tk hown hK hP hD hS 0 rfl rfl 3 (by decide) (hG _ fl_Tk_16) (fun _ h9 => h9) rfl hin rfl (by decide +kernel) rfl rfl (Nat.le_of_ble_eq_true rfl) d_Tk_init_17 (fun H locs hP hD hS => ?_)
  have hP : va_P D kl [(h0, .inr (10, [.null, .null, .ref q1, .ref q2, .null, .int 0, .int 0, .int 0, .int 0])), (q1, .inl (cI, 65537, .inl (fun _ => 0))), (q2, .inl (cI, 65537, .inl (fun _ => 0)))] H := hP
  have hD : va_D A [(h0, .inr (10, [.null, .null, .ref q1, .ref q2, .null, .int 0, .int 0, .int 0, .int 0])), (q1, .inl (cI, 65537, .inl (fun _ => 0))), (q2, .inl (cI, 65537, .inl (fun _ => 0)))] := hD
  refine lv_aload_n hx hb d_Tk_init_20 rfl (lv_at hl 0 rfl) ?_
  refine lv_ldc (v := 65537) hx hb hown (hG _ ct_Tk_9) d_Tk_init_21 ?_
  refine ra_new (atype := .int) (D := D) hx hb (hG _ ac_int) rfl (fun _ h => by cases h) hK hP hD hS hA 0 rfl (65537, .inl (fun _ => 0)) (fun _ => rfl) (by decide +kernel) (by decide +kernel) (Nat.le_of_ble_eq_true rfl) (Nat.le_of_ble_eq_true rfl) (Nat.le_of_ble_eq_true rfl) d_Tk_init_23 (fun q3 H hP hD hS => ?_)
  have hP : va_P D kl [(h0, .inr (10, [.null, .null, .ref q1, .ref q2, .null, .int 0, .int 0, .int 0, .int 0])), (q1, .inl (cI, 65537, .inl (fun _ => 0))), (q2, .inl (cI, 65537, .inl (fun _ => 0))), (q3, .inl (cI, 65537, .inl (fun _ => 0)))] H := hP
  have hD : va_D A [(h0, .inr (10, [.null, .null, .ref q1, .ref q2, .null, .int 0, .int 0, .int 0, .int 0])), (q1, .inl (cI, 65537, .inl (fun _ => 0))), (q2, .inl (cI, 65537, .inl (fun _ => 0))), (q3, .inl (cI, 65537, .inl (fun _ => 0)))] := hD
  refine W.widen (k := 3) (n := 196611) (Nat.le_of_ble_eq_true rfl) (Nat.le_of_ble_eq_true rfl) ?_
  refine va_putF (D := D) (ci := 10) (v := .ref q3) (ty := .array .int) (C := R_Tk) (T := T_Tk) (N := 9) hx hb hG gi_Tk ty_Tk to_Tk nm_Tk hown hK hP hD hS 0 rfl rfl 4 (by decide) (hG _ fl_Tk_19) (fun _ h9 => h9) rfl hin rfl (by decide +kernel) rfl rfl (Nat.le_of_ble_eq_true rfl) d_Tk_init_25 (fun H locs hP hD hS => ?_)
  have hP : va_P D kl [(h0, .inr (10, [.null, .null, .ref q1, .ref q2, .ref q3, .int 0, .int 0, .int 0, .int 0])), (q1, .inl (cI, 65537, .inl (fun _ => 0))), (q2, .inl (cI, 65537, .inl (fun _ => 0))), (q3, .inl (cI, 65537, .inl (fun _ => 0)))] H := hP
  have hD : va_D A [(h0, .inr (10, [.null, .null, .ref q1, .ref q2, .ref q3, .int 0, .int 0, .int 0, .int 0])), (q1, .inl (cI, 65537, .inl (fun _ => 0))), (q2, .inl (cI, 65537, .inl (fun _ => 0))), (q3, .inl (cI, 65537, .inl (fun _ => 0)))] := hD
  refine lv_aload_n hx hb d_Tk_init_28 rfl (lv_at hl 0 rfl) ?_
  refine lv_aload_n hx hb d_Tk_init_29 rfl (lv_at hl 1 rfl) ?_
  refine va_putF (D := D) (ci := 10) (v := .ref g1) (ty := .array .byte) (C := R_Tk) (T := T_Tk) (N := 9) hx hb hG gi_Tk ty_Tk to_Tk nm_Tk hown hK hP hD hS 0 rfl rfl 0 (by decide) (hG _ fl_Tk_22) (fun _ h9 => h9) rfl hin rfl (by decide +kernel) rfl rfl (Nat.le_of_ble_eq_true rfl) d_Tk_init_30 (fun H locs hP hD hS => ?_)
  have hP : va_P D kl [(h0, .inr (10, [.ref g1, .null, .ref q1, .ref q2, .ref q3, .int 0, .int 0, .int 0, .int 0])), (q1, .inl (cI, 65537, .inl (fun _ => 0))), (q2, .inl (cI, 65537, .inl (fun _ => 0))), (q3, .inl (cI, 65537, .inl (fun _ => 0)))] H := hP
  have hD : va_D A [(h0, .inr (10, [.ref g1, .null, .ref q1, .ref q2, .ref q3, .int 0, .int 0, .int 0, .int 0])), (q1, .inl (cI, 65537, .inl (fun _ => 0))), (q2, .inl (cI, 65537, .inl (fun _ => 0))), (q3, .inl (cI, 65537, .inl (fun _ => 0)))] := hD
  refine lv_aload_n hx hb d_Tk_init_33 rfl (lv_at hl 0 rfl) ?_
  refine va_new (ci := 11) (fs := [.null, .null, .null, .null, .null, .null, .null, .null, .int 0]) (C := R_Wd) (T := T_Wd) (N := 9) hx hb hG gi_Wd ty_Wd to_Wd hown (hG _ cl_Tk_26) (hG _ ia_Wd) (hG _ in_Wd) hK hP hD hS hA rfl (fun j hj => by rcases (show j = 0 ∨ j = 1 ∨ j = 2 ∨ j = 3 ∨ j = 4 ∨ j = 5 ∨ j = 6 ∨ j = 7 ∨ j = 8 by omega) with rfl | rfl | rfl | rfl | rfl | rfl | rfl | rfl | rfl <;> rfl) (Nat.le_of_ble_eq_true rfl) (Nat.le_of_ble_eq_true rfl) d_Tk_init_34 (fun q4 H hP hD hS => ?_)
  have hP : va_P D kl [(h0, .inr (10, [.ref g1, .null, .ref q1, .ref q2, .ref q3, .int 0, .int 0, .int 0, .int 0])), (q1, .inl (cI, 65537, .inl (fun _ => 0))), (q2, .inl (cI, 65537, .inl (fun _ => 0))), (q3, .inl (cI, 65537, .inl (fun _ => 0))), (q4, .inr (11, [.null, .null, .null, .null, .null, .null, .null, .null, .int 0]))] H := hP
  have hD : va_D A [(h0, .inr (10, [.ref g1, .null, .ref q1, .ref q2, .ref q3, .int 0, .int 0, .int 0, .int 0])), (q1, .inl (cI, 65537, .inl (fun _ => 0))), (q2, .inl (cI, 65537, .inl (fun _ => 0))), (q3, .inl (cI, 65537, .inl (fun _ => 0))), (q4, .inr (11, [.null, .null, .null, .null, .null, .null, .null, .null, .int 0]))] := hD
  refine W.widen (k := 4) (n := 196620) (Nat.le_of_ble_eq_true rfl) (Nat.le_of_ble_eq_true rfl) ?_
  refine lv_dup hx hb d_Tk_init_37 rfl ?_
  refine lv_aload_n hx hb d_Tk_init_38 rfl (lv_at hl 1 rfl) ?_
  have hPc := hP.sub (ws' := [(q4, .inr (11, [.null, .null, .null, .null, .null, .null, .null, .null, .int 0]))]) [4] rfl
  have hDc := hD.sub (ws' := [(q4, .inr (11, [.null, .null, .null, .null, .null, .null, .null, .null, .int 0]))]) [4] (by decide) rfl
  have hFc := va_free (wc := [(q4, .inr (11, [.null, .null, .null, .null, .null, .null, .null, .null, .int 0]))]) hD hS hA [4] rfl
  refine va_callv (va_runI (As := [.ref g1]) (rest := [.ref q4, .ref h0]) ⟨hx, hb, hml, hown, hG⟩ (c_Wd_init l D cI cB cJ cZ H.size q4 g1) (gcI 1 gG_good hG ml_Tk_28 im_Wd_init in_Wd co_Wd_init rfl rfl rfl (by decide +kernel) ⟨(Nat.le_of_ble_eq_true rfl), (Nat.le_of_ble_eq_true rfl)⟩) (ct_pre hPc hK hDc) rfl rfl hl.1 rfl (lv_room (Nat.le_of_ble_eq_true rfl)) d_Tk_init_39 ⟨(Nat.le_of_ble_eq_true rfl), (Nat.le_of_ble_eq_true rfl)⟩) hS (fun q _ h => hFc q h) hFc (fun _ t H1 locs ht hvm hw hB hz1 hk1 hS => ?_)
  obtain ⟨q5, q6, q7, q8, q9, q10, q11, hP1, hD1⟩ := hB
  rw [ht] at hP1
  obtain ⟨hP, hD⟩ := va_join (wr := [(h0, .inr (10, [.ref g1, .null, .ref q1, .ref q2, .ref q3, .int 0, .int 0, .int 0, .int 0])), (q1, .inl (cI, 65537, .inl (fun _ => 0))), (q2, .inl (cI, 65537, .inl (fun _ => 0))), (q3, .inl (cI, 65537, .inl (fun _ => 0)))]) (w1 := [(q4, .inr (11, [.ref g1, .ref q5, .ref q6, .ref q7, .ref q8, .ref q9, .ref q10, .ref q11, .int 0])), (q5, .inl (cI, 512, .inl (fun _ => 0))), (q6, .inl (cI, 5923, .inl (fun _ => 0))), (q7, .inl (cI, 5923, .inl (fun _ => 0))), (q8, .inl (cI, 5923, .inl (fun _ => 0))), (q9, .inl (cI, 5923, .inl (fun _ => 0))), (q10, .inl (cI, 5923, .inl (fun _ => 0))), (q11, .inl (cI, 5923, .inl (fun _ => 0)))]) hP hD [4] [0, 1, 2, 3] rfl rfl (by decide) (by decide) hk1 hFc hP1 hD1
  generalize H1 = H at hP hS ⊢
  have hP : va_P D kl [(h0, .inr (10, [.ref g1, .null, .ref q1, .ref q2, .ref q3, .int 0, .int 0, .int 0, .int 0])), (q1, .inl (cI, 65537, .inl (fun _ => 0))), (q2, .inl (cI, 65537, .inl (fun _ => 0))), (q3, .inl (cI, 65537, .inl (fun _ => 0))), (q4, .inr (11, [.ref g1, .ref q5, .ref q6, .ref q7, .ref q8, .ref q9, .ref q10, .ref q11, .int 0])), (q5, .inl (cI, 512, .inl (fun _ => 0))), (q6, .inl (cI, 5923, .inl (fun _ => 0))), (q7, .inl (cI, 5923, .inl (fun _ => 0))), (q8, .inl (cI, 5923, .inl (fun _ => 0))), (q9, .inl (cI, 5923, .inl (fun _ => 0))), (q10, .inl (cI, 5923, .inl (fun _ => 0))), (q11, .inl (cI, 5923, .inl (fun _ => 0)))] H := hP
  have hD : va_D A [(h0, .inr (10, [.ref g1, .null, .ref q1, .ref q2, .ref q3, .int 0, .int 0, .int 0, .int 0])), (q1, .inl (cI, 65537, .inl (fun _ => 0))), (q2, .inl (cI, 65537, .inl (fun _ => 0))), (q3, .inl (cI, 65537, .inl (fun _ => 0))), (q4, .inr (11, [.ref g1, .ref q5, .ref q6, .ref q7, .ref q8, .ref q9, .ref q10, .ref q11, .int 0])), (q5, .inl (cI, 512, .inl (fun _ => 0))), (q6, .inl (cI, 5923, .inl (fun _ => 0))), (q7, .inl (cI, 5923, .inl (fun _ => 0))), (q8, .inl (cI, 5923, .inl (fun _ => 0))), (q9, .inl (cI, 5923, .inl (fun _ => 0))), (q10, .inl (cI, 5923, .inl (fun _ => 0))), (q11, .inl (cI, 5923, .inl (fun _ => 0)))] := hD
  refine W.widen (k := 11) (n := 232670) (Nat.le_of_ble_eq_true rfl) (Nat.le_of_ble_eq_true rfl) ?_
  refine va_putF (D := D) (ci := 10) (v := .ref q4) (ty := .object "StreamNodes$Words") (C := R_Tk) (T := T_Tk) (N := 9) hx hb hG gi_Tk ty_Tk to_Tk nm_Tk hown hK hP hD hS 0 rfl rfl 1 (by decide) (hG _ fl_Tk_31) (fun _ h9 => h9) rfl hin rfl (by decide +kernel) rfl rfl (Nat.le_of_ble_eq_true rfl) d_Tk_init_42 (fun H locs hP hD hS => ?_)
  have hP : va_P D kl [(h0, .inr (10, [.ref g1, .ref q4, .ref q1, .ref q2, .ref q3, .int 0, .int 0, .int 0, .int 0])), (q1, .inl (cI, 65537, .inl (fun _ => 0))), (q2, .inl (cI, 65537, .inl (fun _ => 0))), (q3, .inl (cI, 65537, .inl (fun _ => 0))), (q4, .inr (11, [.ref g1, .ref q5, .ref q6, .ref q7, .ref q8, .ref q9, .ref q10, .ref q11, .int 0])), (q5, .inl (cI, 512, .inl (fun _ => 0))), (q6, .inl (cI, 5923, .inl (fun _ => 0))), (q7, .inl (cI, 5923, .inl (fun _ => 0))), (q8, .inl (cI, 5923, .inl (fun _ => 0))), (q9, .inl (cI, 5923, .inl (fun _ => 0))), (q10, .inl (cI, 5923, .inl (fun _ => 0))), (q11, .inl (cI, 5923, .inl (fun _ => 0)))] H := hP
  have hD : va_D A [(h0, .inr (10, [.ref g1, .ref q4, .ref q1, .ref q2, .ref q3, .int 0, .int 0, .int 0, .int 0])), (q1, .inl (cI, 65537, .inl (fun _ => 0))), (q2, .inl (cI, 65537, .inl (fun _ => 0))), (q3, .inl (cI, 65537, .inl (fun _ => 0))), (q4, .inr (11, [.ref g1, .ref q5, .ref q6, .ref q7, .ref q8, .ref q9, .ref q10, .ref q11, .int 0])), (q5, .inl (cI, 512, .inl (fun _ => 0))), (q6, .inl (cI, 5923, .inl (fun _ => 0))), (q7, .inl (cI, 5923, .inl (fun _ => 0))), (q8, .inl (cI, 5923, .inl (fun _ => 0))), (q9, .inl (cI, 5923, .inl (fun _ => 0))), (q10, .inl (cI, 5923, .inl (fun _ => 0))), (q11, .inl (cI, 5923, .inl (fun _ => 0)))] := hD
  exact W.vret hx hb hr (fun t ht hW => ⟨⟨(), rfl, trivial, q1, q2, q3, q4, q5, q6, q7, q8, q9, q10, q11, by rw [ht]; exact hP, hD⟩, hS.F ht⟩) hS.2.2 d_Tk_init_45

theorem d_Nd_init_0 : decode b_Nd_init 0 = .ok (.aload_n 0, 1) := by decide +kernel
theorem d_Nd_init_1 : decode b_Nd_init 1 = .ok (.invokespecial 3, 3) := by decide +kernel
theorem d_Nd_init_4 : decode b_Nd_init 4 = .ok (.aload_n 0, 1) := by decide +kernel
theorem d_Nd_init_5 : decode b_Nd_init 5 = .ok (.bipush 59, 2) := by decide +kernel
theorem d_Nd_init_7 : decode b_Nd_init 7 = .ok (.newarray .int, 2) := by decide +kernel
theorem d_Nd_init_9 : decode b_Nd_init 9 = .ok (.putfield 9, 3) := by decide +kernel
theorem d_Nd_init_12 : decode b_Nd_init 12 = .ok (.aload_n 0, 1) := by decide +kernel
theorem d_Nd_init_13 : decode b_Nd_init 13 = .ok (.bipush 59, 2) := by decide +kernel
theorem d_Nd_init_15 : decode b_Nd_init 15 = .ok (.newarray .int, 2) := by decide +kernel
theorem d_Nd_init_17 : decode b_Nd_init 17 = .ok (.putfield 15, 3) := by decide +kernel
theorem d_Nd_init_20 : decode b_Nd_init 20 = .ok (.aload_n 0, 1) := by decide +kernel
theorem d_Nd_init_21 : decode b_Nd_init 21 = .ok (.bipush 59, 2) := by decide +kernel
theorem d_Nd_init_23 : decode b_Nd_init 23 = .ok (.newarray .int, 2) := by decide +kernel
theorem d_Nd_init_25 : decode b_Nd_init 25 = .ok (.putfield 18, 3) := by decide +kernel
theorem d_Nd_init_28 : decode b_Nd_init 28 = .ok (.aload_n 0, 1) := by decide +kernel
theorem d_Nd_init_29 : decode b_Nd_init 29 = .ok (.bipush 59, 2) := by decide +kernel
theorem d_Nd_init_31 : decode b_Nd_init 31 = .ok (.newarray .int, 2) := by decide +kernel
theorem d_Nd_init_33 : decode b_Nd_init 33 = .ok (.putfield 21, 3) := by decide +kernel
theorem d_Nd_init_36 : decode b_Nd_init 36 = .ok (.aload_n 0, 1) := by decide +kernel
theorem d_Nd_init_37 : decode b_Nd_init 37 = .ok (.bipush 59, 2) := by decide +kernel
theorem d_Nd_init_39 : decode b_Nd_init 39 = .ok (.newarray .int, 2) := by decide +kernel
theorem d_Nd_init_41 : decode b_Nd_init 41 = .ok (.putfield 24, 3) := by decide +kernel
theorem d_Nd_init_44 : decode b_Nd_init 44 = .ok (.aload_n 0, 1) := by decide +kernel
theorem d_Nd_init_45 : decode b_Nd_init 45 = .ok (.bipush 59, 2) := by decide +kernel
theorem d_Nd_init_47 : decode b_Nd_init 47 = .ok (.newarray .int, 2) := by decide +kernel
theorem d_Nd_init_49 : decode b_Nd_init 49 = .ok (.putfield 27, 3) := by decide +kernel
theorem d_Nd_init_52 : decode b_Nd_init 52 = .ok (.aload_n 0, 1) := by decide +kernel
theorem d_Nd_init_53 : decode b_Nd_init 53 = .ok (.bipush 59, 2) := by decide +kernel
theorem d_Nd_init_55 : decode b_Nd_init 55 = .ok (.newarray .int, 2) := by decide +kernel
theorem d_Nd_init_57 : decode b_Nd_init 57 = .ok (.putfield 30, 3) := by decide +kernel
theorem d_Nd_init_60 : decode b_Nd_init 60 = .ok (.aload_n 0, 1) := by decide +kernel
theorem d_Nd_init_61 : decode b_Nd_init 61 = .ok (.bipush 59, 2) := by decide +kernel
theorem d_Nd_init_63 : decode b_Nd_init 63 = .ok (.newarray .int, 2) := by decide +kernel
theorem d_Nd_init_65 : decode b_Nd_init 65 = .ok (.putfield 33, 3) := by decide +kernel
theorem d_Nd_init_68 : decode b_Nd_init 68 = .ok (.aload_n 0, 1) := by decide +kernel
theorem d_Nd_init_69 : decode b_Nd_init 69 = .ok (.bipush 59, 2) := by decide +kernel
theorem d_Nd_init_71 : decode b_Nd_init 71 = .ok (.newarray .int, 2) := by decide +kernel
theorem d_Nd_init_73 : decode b_Nd_init 73 = .ok (.putfield 36, 3) := by decide +kernel
theorem d_Nd_init_76 : decode b_Nd_init 76 = .ok (.aload_n 0, 1) := by decide +kernel
theorem d_Nd_init_77 : decode b_Nd_init 77 = .ok (.sipush 5841, 3) := by decide +kernel
theorem d_Nd_init_80 : decode b_Nd_init 80 = .ok (.newarray .int, 2) := by decide +kernel
theorem d_Nd_init_82 : decode b_Nd_init 82 = .ok (.putfield 39, 3) := by decide +kernel
theorem d_Nd_init_85 : decode b_Nd_init 85 = .ok (.aload_n 0, 1) := by decide +kernel
theorem d_Nd_init_86 : decode b_Nd_init 86 = .ok (.sipush 5841, 3) := by decide +kernel
theorem d_Nd_init_89 : decode b_Nd_init 89 = .ok (.newarray .int, 2) := by decide +kernel
theorem d_Nd_init_91 : decode b_Nd_init 91 = .ok (.putfield 42, 3) := by decide +kernel
theorem d_Nd_init_94 : decode b_Nd_init 94 = .ok (.aload_n 0, 1) := by decide +kernel
theorem d_Nd_init_95 : decode b_Nd_init 95 = .ok (.sipush 5841, 3) := by decide +kernel
theorem d_Nd_init_98 : decode b_Nd_init 98 = .ok (.newarray .int, 2) := by decide +kernel
theorem d_Nd_init_100 : decode b_Nd_init 100 = .ok (.putfield 45, 3) := by decide +kernel
theorem d_Nd_init_103 : decode b_Nd_init 103 = .ok (.aload_n 0, 1) := by decide +kernel
theorem d_Nd_init_104 : decode b_Nd_init 104 = .ok (.sipush 5841, 3) := by decide +kernel
theorem d_Nd_init_107 : decode b_Nd_init 107 = .ok (.newarray .int, 2) := by decide +kernel
theorem d_Nd_init_109 : decode b_Nd_init 109 = .ok (.putfield 48, 3) := by decide +kernel
theorem d_Nd_init_112 : decode b_Nd_init 112 = .ok (.aload_n 0, 1) := by decide +kernel
theorem d_Nd_init_113 : decode b_Nd_init 113 = .ok (.sipush 5841, 3) := by decide +kernel
theorem d_Nd_init_116 : decode b_Nd_init 116 = .ok (.newarray .int, 2) := by decide +kernel
theorem d_Nd_init_118 : decode b_Nd_init 118 = .ok (.putfield 51, 3) := by decide +kernel
theorem d_Nd_init_121 : decode b_Nd_init 121 = .ok (.return_, 1) := by decide +kernel
set_option maxHeartbeats 4000000 in
set_option maxRecDepth 100000 in
theorem c_Nd_init (l : Launch) (D : va_G) (cI cB cJ cZ : ClassId) (sz : Nat) (h0 : Nat) : Met l y_Nd_init (Cond.code y_Nd_init b_Nd_init 1 none :: gG) { frames := 1, cells := 14, slots := 29736, locals := 12 } (va_Pc [.ref h0] (ct_P D (tyL cI cB cJ cZ) [(h0, .inr (6, [.null, .null, .null, .null, .null, .null, .null, .null, .null, .int 0, .null, .null, .null, .null, .null, .int 0]))] sz)) (va_Qv (fun _ : Unit => True) (fun _ t => ∃ q1 q2 q3 q4 q5 q6 q7 q8 q9 q10 q11 q12 q13 q14 : Nat, va_P D kl [(h0, .inr (6, [.ref q1, .ref q2, .ref q3, .ref q4, .ref q5, .ref q6, .ref q7, .ref q8, .ref q9, .int 0, .ref q10, .ref q11, .ref q12, .ref q13, .ref q14, .int 0])), (q1, .inl (cI, 59, .inl (fun _ => 0))), (q2, .inl (cI, 59, .inl (fun _ => 0))), (q3, .inl (cI, 59, .inl (fun _ => 0))), (q4, .inl (cI, 59, .inl (fun _ => 0))), (q5, .inl (cI, 59, .inl (fun _ => 0))), (q6, .inl (cI, 59, .inl (fun _ => 0))), (q7, .inl (cI, 59, .inl (fun _ => 0))), (q8, .inl (cI, 59, .inl (fun _ => 0))), (q9, .inl (cI, 59, .inl (fun _ => 0))), (q10, .inl (cI, 5841, .inl (fun _ => 0))), (q11, .inl (cI, 5841, .inl (fun _ => 0))), (q12, .inl (cI, 5841, .inl (fun _ => 0))), (q13, .inl (cI, 5841, .inl (fun _ => 0))), (q14, .inl (cI, 5841, .inl (fun _ => 0)))] t.heap ∧ va_D (va_A [(h0, .inr (6, [.null, .null, .null, .null, .null, .null, .null, .null, .null, .int 0, .null, .null, .null, .null, .null, .int 0]))] sz) [(h0, .inr (6, [.ref q1, .ref q2, .ref q3, .ref q4, .ref q5, .ref q6, .ref q7, .ref q8, .ref q9, .int 0, .ref q10, .ref q11, .ref q12, .ref q13, .ref q14, .int 0])), (q1, .inl (cI, 59, .inl (fun _ => 0))), (q2, .inl (cI, 59, .inl (fun _ => 0))), (q3, .inl (cI, 59, .inl (fun _ => 0))), (q4, .inl (cI, 59, .inl (fun _ => 0))), (q5, .inl (cI, 59, .inl (fun _ => 0))), (q6, .inl (cI, 59, .inl (fun _ => 0))), (q7, .inl (cI, 59, .inl (fun _ => 0))), (q8, .inl (cI, 59, .inl (fun _ => 0))), (q9, .inl (cI, 59, .inl (fun _ => 0))), (q10, .inl (cI, 5841, .inl (fun _ => 0))), (q11, .inl (cI, 5841, .inl (fun _ => 0))), (q12, .inl (cI, 5841, .inl (fun _ => 0))), (q13, .inl (cI, 5841, .inl (fun _ => 0))), (q14, .inl (cI, 5841, .inl (fun _ => 0)))]) (va_A [(h0, .inr (6, [.null, .null, .null, .null, .null, .null, .null, .null, .null, .int 0, .null, .null, .null, .null, .null, .int 0]))] sz)) 14 29736 (va_A [(h0, .inr (6, [.null, .null, .null, .null, .null, .null, .null, .null, .null, .int 0, .null, .null, .null, .null, .null, .int 0]))] sz) := by
  refine Met.ofW (cc := b_Nd_init) (maxL := 1) (ret := none) (by decide) rfl ?_
  intro p e s m args below meth c s₁ B hml hv
  obtain ⟨rfl, hsz, hP, hK, hD0⟩ := hv
  have hx := B.exec
  have hb := B.bytes
  have hr := B.returns
  have hts := atoms_spec (ws := Cond.code y_Nd_init b_Nd_init 1 none :: gG) B.pre
  have hG : ∀ w ∈ gG, w.before [.ref h0].toArray s = true := fun w h => hts w (List.mem_cons_of_mem _ h)
  have hown : s.vm.findClass R_Nd = some m.cls := findClass_of_methodNamed B.named
  have hlocks := B.notSynchronized
  have hin : meth.name = "<init>" := (name_of_methodNamed B.named B.method).1
  subst hsz
  have hD := hD0.self (sz := s.heap.size)
  generalize hAe : va_A [(h0, .inr (6, [.null, .null, .null, .null, .null, .null, .null, .null, .null, .int 0, .null, .null, .null, .null, .null, .int 0]))] s.heap.size = A at hD ⊢
  have hA : ∀ q : Nat, s.heap.size ≤ q → A q := fun q h => by rw [← hAe]; exact Or.inr h
  have hS : va_S A s.heap s.heap [] := va_S.rf
  have hl := lv_entry ([.ref h0]) (n := 1) (Nat.le_of_ble_eq_true rfl)
  rw [lg_entry_eq]
  generalize (lg_sl ([.ref h0]) ++ List.replicate (1 - (lg_sl ([.ref h0])).length) Slot.unset).toArray = ls at hl ⊢
  have hl : lv_has ls 1 [(0, .ref h0)] := hl
  refine lv_aload_n hx hb d_Nd_init_0 rfl (lv_at hl 0 rfl) ?_
  refine W.objInit hx hb hown (hG _ ml_Nd_3) (hG _ im_java_lang_Object_init) (hG _ co_java_lang_Object_init) rfl (by rw [hml]; exact hl.1) rfl d_Nd_init_1 (Nat.le_of_ble_eq_true rfl) (Nat.le_of_ble_eq_true rfl) ?_
  refine W.eq (g2 := F0 m 4 ls []) rfl ?_
  refine lv_aload_n hx hb d_Nd_init_4 rfl (lv_at hl 0 rfl) ?_
  refine lv_bipush (v := 59) hx hb d_Nd_init_5 (by decide) ?_
  refine ra_new (atype := .int) (D := D) hx hb (hG _ ac_int) rfl (fun _ h => by cases h) hK hP hD hS hA 0 rfl (59, .inl (fun _ => 0)) (fun _ => rfl) (by decide +kernel) (by decide +kernel) (Nat.le_of_ble_eq_true rfl) (Nat.le_of_ble_eq_true rfl) (Nat.le_of_ble_eq_true rfl) d_Nd_init_7 (fun q1 H hP hD hS => ?_)
  have hP : va_P D kl [(h0, .inr (6, [.null, .null, .null, .null, .null, .null, .null, .null, .null, .int 0, .null, .null, .null, .null, .null, .int 0])), (q1, .inl (cI, 59, .inl (fun _ => 0)))] H := hP
  have hD : va_D A [(h0, .inr (6, [.null, .null, .null, .null, .null, .null, .null, .null, .null, .int 0, .null, .null, .null, .null, .null, .int 0])), (q1, .inl (cI, 59, .inl (fun _ => 0)))] := hD
  refine W.widen (k := 1) (n := 59) (Nat.le_of_ble_eq_true rfl) (Nat.le_of_ble_eq_true rfl) ?_
  refine va_putF (D := D) (ci := 6) (v := .ref q1) (ty := .array .int) (C := R_Nd) (T := T_Nd) (N := 16) hx hb hG gi_Nd ty_Nd to_Nd nm_Nd hown hK hP hD hS 0 rfl rfl 0 (by decide) (hG _ fl_Nd_9) (fun _ h9 => h9) rfl hin rfl (by decide +kernel) rfl rfl (Nat.le_of_ble_eq_true rfl) d_Nd_init_9 (fun H locs hP hD hS => ?_)
  have hP : va_P D kl [(h0, .inr (6, [.ref q1, .null, .null, .null, .null, .null, .null, .null, .null, .int 0, .null, .null, .null, .null, .null, .int 0])), (q1, .inl (cI, 59, .inl (fun _ => 0)))] H := hP
  have hD : va_D A [(h0, .inr (6, [.ref q1, .null, .null, .null, .null, .null, .null, .null, .null, .int 0, .null, .null, .null, .null, .null, .int 0])), (q1, .inl (cI, 59, .inl (fun _ => 0)))] := hD
  refine lv_aload_n hx hb d_Nd_init_12 rfl (lv_at hl 0 rfl) ?_
  refine lv_bipush (v := 59) hx hb d_Nd_init_13 (by decide) ?_
  refine ra_new (atype := .int) (D := D) hx hb (hG _ ac_int) rfl (fun _ h => by cases h) hK hP hD hS hA 0 rfl (59, .inl (fun _ => 0)) (fun _ => rfl) (by decide +kernel) (by decide +kernel) (Nat.le_of_ble_eq_true rfl) (Nat.le_of_ble_eq_true rfl) (Nat.le_of_ble_eq_true rfl) d_Nd_init_15 (fun q2 H hP hD hS => ?_)
  have hP : va_P D kl [(h0, .inr (6, [.ref q1, .null, .null, .null, .null, .null, .null, .null, .null, .int 0, .null, .null, .null, .null, .null, .int 0])), (q1, .inl (cI, 59, .inl (fun _ => 0))), (q2, .inl (cI, 59, .inl (fun _ => 0)))] H := hP
  have hD : va_D A [(h0, .inr (6, [.ref q1, .null, .null, .null, .null, .null, .null, .null, .null, .int 0, .null, .null, .null, .null, .null, .int 0])), (q1, .inl (cI, 59, .inl (fun _ => 0))), (q2, .inl (cI, 59, .inl (fun _ => 0)))] := hD
  refine W.widen (k := 2) (n := 118) (Nat.le_of_ble_eq_true rfl) (Nat.le_of_ble_eq_true rfl) ?_
  refine va_putF (D := D) (ci := 6) (v := .ref q2) (ty := .array .int) (C := R_Nd) (T := T_Nd) (N := 16) hx hb hG gi_Nd ty_Nd to_Nd nm_Nd hown hK hP hD hS 0 rfl rfl 1 (by decide) (hG _ fl_Nd_15) (fun _ h9 => h9) rfl hin rfl (by decide +kernel) rfl rfl (Nat.le_of_ble_eq_true rfl) d_Nd_init_17 (fun H locs hP hD hS => ?_)
  have hP : va_P D kl [(h0, .inr (6, [.ref q1, .ref q2, .null, .null, .null, .null, .null, .null, .null, .int 0, .null, .null, .null, .null, .null, .int 0])), (q1, .inl (cI, 59, .inl (fun _ => 0))), (q2, .inl (cI, 59, .inl (fun _ => 0)))] H := hP
  have hD : va_D A [(h0, .inr (6, [.ref q1, .ref q2, .null, .null, .null, .null, .null, .null, .null, .int 0, .null, .null, .null, .null, .null, .int 0])), (q1, .inl (cI, 59, .inl (fun _ => 0))), (q2, .inl (cI, 59, .inl (fun _ => 0)))] := hD
  refine lv_aload_n hx hb d_Nd_init_20 rfl (lv_at hl 0 rfl) ?_
  refine lv_bipush (v := 59) hx hb d_Nd_init_21 (by decide) ?_
  refine ra_new (atype := .int) (D := D) hx hb (hG _ ac_int) rfl (fun _ h => by cases h) hK hP hD hS hA 0 rfl (59, .inl (fun _ => 0)) (fun _ => rfl) (by decide +kernel) (by decide +kernel) (Nat.le_of_ble_eq_true rfl) (Nat.le_of_ble_eq_true rfl) (Nat.le_of_ble_eq_true rfl) d_Nd_init_23 (fun q3 H hP hD hS => ?_)
  have hP : va_P D kl [(h0, .inr (6, [.ref q1, .ref q2, .null, .null, .null, .null, .null, .null, .null, .int 0, .null, .null, .null, .null, .null, .int 0])), (q1, .inl (cI, 59, .inl (fun _ => 0))), (q2, .inl (cI, 59, .inl (fun _ => 0))), (q3, .inl (cI, 59, .inl (fun _ => 0)))] H := hP
  have hD : va_D A [(h0, .inr (6, [.ref q1, .ref q2, .null, .null, .null, .null, .null, .null, .null, .int 0, .null, .null, .null, .null, .null, .int 0])), (q1, .inl (cI, 59, .inl (fun _ => 0))), (q2, .inl (cI, 59, .inl (fun _ => 0))), (q3, .inl (cI, 59, .inl (fun _ => 0)))] := hD
  refine W.widen (k := 3) (n := 177) (Nat.le_of_ble_eq_true rfl) (Nat.le_of_ble_eq_true rfl) ?_
  refine va_putF (D := D) (ci := 6) (v := .ref q3) (ty := .array .int) (C := R_Nd) (T := T_Nd) (N := 16) hx hb hG gi_Nd ty_Nd to_Nd nm_Nd hown hK hP hD hS 0 rfl rfl 2 (by decide) (hG _ fl_Nd_18) (fun _ h9 => h9) rfl hin rfl (by decide +kernel) rfl rfl (Nat.le_of_ble_eq_true rfl) d_Nd_init_25 (fun H locs hP hD hS => ?_)
  have hP : va_P D kl [(h0, .inr (6, [.ref q1, .ref q2, .ref q3, .null, .null, .null, .null, .null, .null, .int 0, .null, .null, .null, .null, .null, .int 0])), (q1, .inl (cI, 59, .inl (fun _ => 0))), (q2, .inl (cI, 59, .inl (fun _ => 0))), (q3, .inl (cI, 59, .inl (fun _ => 0)))] H := hP
  have hD : va_D A [(h0, .inr (6, [.ref q1, .ref q2, .ref q3, .null, .null, .null, .null, .null, .null, .int 0, .null, .null, .null, .null, .null, .int 0])), (q1, .inl (cI, 59, .inl (fun _ => 0))), (q2, .inl (cI, 59, .inl (fun _ => 0))), (q3, .inl (cI, 59, .inl (fun _ => 0)))] := hD
  refine lv_aload_n hx hb d_Nd_init_28 rfl (lv_at hl 0 rfl) ?_
  refine lv_bipush (v := 59) hx hb d_Nd_init_29 (by decide) ?_
  refine ra_new (atype := .int) (D := D) hx hb (hG _ ac_int) rfl (fun _ h => by cases h) hK hP hD hS hA 0 rfl (59, .inl (fun _ => 0)) (fun _ => rfl) (by decide +kernel) (by decide +kernel) (Nat.le_of_ble_eq_true rfl) (Nat.le_of_ble_eq_true rfl) (Nat.le_of_ble_eq_true rfl) d_Nd_init_31 (fun q4 H hP hD hS => ?_)
  have hP : va_P D kl [(h0, .inr (6, [.ref q1, .ref q2, .ref q3, .null, .null, .null, .null, .null, .null, .int 0, .null, .null, .null, .null, .null, .int 0])), (q1, .inl (cI, 59, .inl (fun _ => 0))), (q2, .inl (cI, 59, .inl (fun _ => 0))), (q3, .inl (cI, 59, .inl (fun _ => 0))), (q4, .inl (cI, 59, .inl (fun _ => 0)))] H := hP
  have hD : va_D A [(h0, .inr (6, [.ref q1, .ref q2, .ref q3, .null, .null, .null, .null, .null, .null, .int 0, .null, .null, .null, .null, .null, .int 0])), (q1, .inl (cI, 59, .inl (fun _ => 0))), (q2, .inl (cI, 59, .inl (fun _ => 0))), (q3, .inl (cI, 59, .inl (fun _ => 0))), (q4, .inl (cI, 59, .inl (fun _ => 0)))] := hD
  refine W.widen (k := 4) (n := 236) (Nat.le_of_ble_eq_true rfl) (Nat.le_of_ble_eq_true rfl) ?_
  refine va_putF (D := D) (ci := 6) (v := .ref q4) (ty := .array .int) (C := R_Nd) (T := T_Nd) (N := 16) hx hb hG gi_Nd ty_Nd to_Nd nm_Nd hown hK hP hD hS 0 rfl rfl 3 (by decide) (hG _ fl_Nd_21) (fun _ h9 => h9) rfl hin rfl (by decide +kernel) rfl rfl (Nat.le_of_ble_eq_true rfl) d_Nd_init_33 (fun H locs hP hD hS => ?_)
  have hP : va_P D kl [(h0, .inr (6, [.ref q1, .ref q2, .ref q3, .ref q4, .null, .null, .null, .null, .null, .int 0, .null, .null, .null, .null, .null, .int 0])), (q1, .inl (cI, 59, .inl (fun _ => 0))), (q2, .inl (cI, 59, .inl (fun _ => 0))), (q3, .inl (cI, 59, .inl (fun _ => 0))), (q4, .inl (cI, 59, .inl (fun _ => 0)))] H := hP
  have hD : va_D A [(h0, .inr (6, [.ref q1, .ref q2, .ref q3, .ref q4, .null, .null, .null, .null, .null, .int 0, .null, .null, .null, .null, .null, .int 0])), (q1, .inl (cI, 59, .inl (fun _ => 0))), (q2, .inl (cI, 59, .inl (fun _ => 0))), (q3, .inl (cI, 59, .inl (fun _ => 0))), (q4, .inl (cI, 59, .inl (fun _ => 0)))] := hD
  refine lv_aload_n hx hb d_Nd_init_36 rfl (lv_at hl 0 rfl) ?_
  refine lv_bipush (v := 59) hx hb d_Nd_init_37 (by decide) ?_
  refine ra_new (atype := .int) (D := D) hx hb (hG _ ac_int) rfl (fun _ h => by cases h) hK hP hD hS hA 0 rfl (59, .inl (fun _ => 0)) (fun _ => rfl) (by decide +kernel) (by decide +kernel) (Nat.le_of_ble_eq_true rfl) (Nat.le_of_ble_eq_true rfl) (Nat.le_of_ble_eq_true rfl) d_Nd_init_39 (fun q5 H hP hD hS => ?_)
  have hP : va_P D kl [(h0, .inr (6, [.ref q1, .ref q2, .ref q3, .ref q4, .null, .null, .null, .null, .null, .int 0, .null, .null, .null, .null, .null, .int 0])), (q1, .inl (cI, 59, .inl (fun _ => 0))), (q2, .inl (cI, 59, .inl (fun _ => 0))), (q3, .inl (cI, 59, .inl (fun _ => 0))), (q4, .inl (cI, 59, .inl (fun _ => 0))), (q5, .inl (cI, 59, .inl (fun _ => 0)))] H := hP
  have hD : va_D A [(h0, .inr (6, [.ref q1, .ref q2, .ref q3, .ref q4, .null, .null, .null, .null, .null, .int 0, .null, .null, .null, .null, .null, .int 0])), (q1, .inl (cI, 59, .inl (fun _ => 0))), (q2, .inl (cI, 59, .inl (fun _ => 0))), (q3, .inl (cI, 59, .inl (fun _ => 0))), (q4, .inl (cI, 59, .inl (fun _ => 0))), (q5, .inl (cI, 59, .inl (fun _ => 0)))] := hD
  refine W.widen (k := 5) (n := 295) (Nat.le_of_ble_eq_true rfl) (Nat.le_of_ble_eq_true rfl) ?_
  refine va_putF (D := D) (ci := 6) (v := .ref q5) (ty := .array .int) (C := R_Nd) (T := T_Nd) (N := 16) hx hb hG gi_Nd ty_Nd to_Nd nm_Nd hown hK hP hD hS 0 rfl rfl 4 (by decide) (hG _ fl_Nd_24) (fun _ h9 => h9) rfl hin rfl (by decide +kernel) rfl rfl (Nat.le_of_ble_eq_true rfl) d_Nd_init_41 (fun H locs hP hD hS => ?_)
  have hP : va_P D kl [(h0, .inr (6, [.ref q1, .ref q2, .ref q3, .ref q4, .ref q5, .null, .null, .null, .null, .int 0, .null, .null, .null, .null, .null, .int 0])), (q1, .inl (cI, 59, .inl (fun _ => 0))), (q2, .inl (cI, 59, .inl (fun _ => 0))), (q3, .inl (cI, 59, .inl (fun _ => 0))), (q4, .inl (cI, 59, .inl (fun _ => 0))), (q5, .inl (cI, 59, .inl (fun _ => 0)))] H := hP
  have hD : va_D A [(h0, .inr (6, [.ref q1, .ref q2, .ref q3, .ref q4, .ref q5, .null, .null, .null, .null, .int 0, .null, .null, .null, .null, .null, .int 0])), (q1, .inl (cI, 59, .inl (fun _ => 0))), (q2, .inl (cI, 59, .inl (fun _ => 0))), (q3, .inl (cI, 59, .inl (fun _ => 0))), (q4, .inl (cI, 59, .inl (fun _ => 0))), (q5, .inl (cI, 59, .inl (fun _ => 0)))] := hD
  refine lv_aload_n hx hb d_Nd_init_44 rfl (lv_at hl 0 rfl) ?_
  refine lv_bipush (v := 59) hx hb d_Nd_init_45 (by decide) ?_
  refine ra_new (atype := .int) (D := D) hx hb (hG _ ac_int) rfl (fun _ h => by cases h) hK hP hD hS hA 0 rfl (59, .inl (fun _ => 0)) (fun _ => rfl) (by decide +kernel) (by decide +kernel) (Nat.le_of_ble_eq_true rfl) (Nat.le_of_ble_eq_true rfl) (Nat.le_of_ble_eq_true rfl) d_Nd_init_47 (fun q6 H hP hD hS => ?_)
  have hP : va_P D kl [(h0, .inr (6, [.ref q1, .ref q2, .ref q3, .ref q4, .ref q5, .null, .null, .null, .null, .int 0, .null, .null, .null, .null, .null, .int 0])), (q1, .inl (cI, 59, .inl (fun _ => 0))), (q2, .inl (cI, 59, .inl (fun _ => 0))), (q3, .inl (cI, 59, .inl (fun _ => 0))), (q4, .inl (cI, 59, .inl (fun _ => 0))), (q5, .inl (cI, 59, .inl (fun _ => 0))), (q6, .inl (cI, 59, .inl (fun _ => 0)))] H := hP
  have hD : va_D A [(h0, .inr (6, [.ref q1, .ref q2, .ref q3, .ref q4, .ref q5, .null, .null, .null, .null, .int 0, .null, .null, .null, .null, .null, .int 0])), (q1, .inl (cI, 59, .inl (fun _ => 0))), (q2, .inl (cI, 59, .inl (fun _ => 0))), (q3, .inl (cI, 59, .inl (fun _ => 0))), (q4, .inl (cI, 59, .inl (fun _ => 0))), (q5, .inl (cI, 59, .inl (fun _ => 0))), (q6, .inl (cI, 59, .inl (fun _ => 0)))] := hD
  refine W.widen (k := 6) (n := 354) (Nat.le_of_ble_eq_true rfl) (Nat.le_of_ble_eq_true rfl) ?_
  refine va_putF (D := D) (ci := 6) (v := .ref q6) (ty := .array .int) (C := R_Nd) (T := T_Nd) (N := 16) hx hb hG gi_Nd ty_Nd to_Nd nm_Nd hown hK hP hD hS 0 rfl rfl 5 (by decide) (hG _ fl_Nd_27) (fun _ h9 => h9) rfl hin rfl (by decide +kernel) rfl rfl (Nat.le_of_ble_eq_true rfl) d_Nd_init_49 (fun H locs hP hD hS => ?_)
  have hP : va_P D kl [(h0, .inr (6, [.ref q1, .ref q2, .ref q3, .ref q4, .ref q5, .ref q6, .null, .null, .null, .int 0, .null, .null, .null, .null, .null, .int 0])), (q1, .inl (cI, 59, .inl (fun _ => 0))), (q2, .inl (cI, 59, .inl (fun _ => 0))), (q3, .inl (cI, 59, .inl (fun _ => 0))), (q4, .inl (cI, 59, .inl (fun _ => 0))), (q5, .inl (cI, 59, .inl (fun _ => 0))), (q6, .inl (cI, 59, .inl (fun _ => 0)))] H := hP
  have hD : va_D A [(h0, .inr (6, [.ref q1, .ref q2, .ref q3, .ref q4, .ref q5, .ref q6, .null, .null, .null, .int 0, .null, .null, .null, .null, .null, .int 0])), (q1, .inl (cI, 59, .inl (fun _ => 0))), (q2, .inl (cI, 59, .inl (fun _ => 0))), (q3, .inl (cI, 59, .inl (fun _ => 0))), (q4, .inl (cI, 59, .inl (fun _ => 0))), (q5, .inl (cI, 59, .inl (fun _ => 0))), (q6, .inl (cI, 59, .inl (fun _ => 0)))] := hD
  refine lv_aload_n hx hb d_Nd_init_52 rfl (lv_at hl 0 rfl) ?_
  refine lv_bipush (v := 59) hx hb d_Nd_init_53 (by decide) ?_
  refine ra_new (atype := .int) (D := D) hx hb (hG _ ac_int) rfl (fun _ h => by cases h) hK hP hD hS hA 0 rfl (59, .inl (fun _ => 0)) (fun _ => rfl) (by decide +kernel) (by decide +kernel) (Nat.le_of_ble_eq_true rfl) (Nat.le_of_ble_eq_true rfl) (Nat.le_of_ble_eq_true rfl) d_Nd_init_55 (fun q7 H hP hD hS => ?_)
  have hP : va_P D kl [(h0, .inr (6, [.ref q1, .ref q2, .ref q3, .ref q4, .ref q5, .ref q6, .null, .null, .null, .int 0, .null, .null, .null, .null, .null, .int 0])), (q1, .inl (cI, 59, .inl (fun _ => 0))), (q2, .inl (cI, 59, .inl (fun _ => 0))), (q3, .inl (cI, 59, .inl (fun _ => 0))), (q4, .inl (cI, 59, .inl (fun _ => 0))), (q5, .inl (cI, 59, .inl (fun _ => 0))), (q6, .inl (cI, 59, .inl (fun _ => 0))), (q7, .inl (cI, 59, .inl (fun _ => 0)))] H := hP
  have hD : va_D A [(h0, .inr (6, [.ref q1, .ref q2, .ref q3, .ref q4, .ref q5, .ref q6, .null, .null, .null, .int 0, .null, .null, .null, .null, .null, .int 0])), (q1, .inl (cI, 59, .inl (fun _ => 0))), (q2, .inl (cI, 59, .inl (fun _ => 0))), (q3, .inl (cI, 59, .inl (fun _ => 0))), (q4, .inl (cI, 59, .inl (fun _ => 0))), (q5, .inl (cI, 59, .inl (fun _ => 0))), (q6, .inl (cI, 59, .inl (fun _ => 0))), (q7, .inl (cI, 59, .inl (fun _ => 0)))] := hD
  refine W.widen (k := 7) (n := 413) (Nat.le_of_ble_eq_true rfl) (Nat.le_of_ble_eq_true rfl) ?_
  refine va_putF (D := D) (ci := 6) (v := .ref q7) (ty := .array .int) (C := R_Nd) (T := T_Nd) (N := 16) hx hb hG gi_Nd ty_Nd to_Nd nm_Nd hown hK hP hD hS 0 rfl rfl 6 (by decide) (hG _ fl_Nd_30) (fun _ h9 => h9) rfl hin rfl (by decide +kernel) rfl rfl (Nat.le_of_ble_eq_true rfl) d_Nd_init_57 (fun H locs hP hD hS => ?_)
  have hP : va_P D kl [(h0, .inr (6, [.ref q1, .ref q2, .ref q3, .ref q4, .ref q5, .ref q6, .ref q7, .null, .null, .int 0, .null, .null, .null, .null, .null, .int 0])), (q1, .inl (cI, 59, .inl (fun _ => 0))), (q2, .inl (cI, 59, .inl (fun _ => 0))), (q3, .inl (cI, 59, .inl (fun _ => 0))), (q4, .inl (cI, 59, .inl (fun _ => 0))), (q5, .inl (cI, 59, .inl (fun _ => 0))), (q6, .inl (cI, 59, .inl (fun _ => 0))), (q7, .inl (cI, 59, .inl (fun _ => 0)))] H := hP
  have hD : va_D A [(h0, .inr (6, [.ref q1, .ref q2, .ref q3, .ref q4, .ref q5, .ref q6, .ref q7, .null, .null, .int 0, .null, .null, .null, .null, .null, .int 0])), (q1, .inl (cI, 59, .inl (fun _ => 0))), (q2, .inl (cI, 59, .inl (fun _ => 0))), (q3, .inl (cI, 59, .inl (fun _ => 0))), (q4, .inl (cI, 59, .inl (fun _ => 0))), (q5, .inl (cI, 59, .inl (fun _ => 0))), (q6, .inl (cI, 59, .inl (fun _ => 0))), (q7, .inl (cI, 59, .inl (fun _ => 0)))] := hD
  refine lv_aload_n hx hb d_Nd_init_60 rfl (lv_at hl 0 rfl) ?_
  refine lv_bipush (v := 59) hx hb d_Nd_init_61 (by decide) ?_
  refine ra_new (atype := .int) (D := D) hx hb (hG _ ac_int) rfl (fun _ h => by cases h) hK hP hD hS hA 0 rfl (59, .inl (fun _ => 0)) (fun _ => rfl) (by decide +kernel) (by decide +kernel) (Nat.le_of_ble_eq_true rfl) (Nat.le_of_ble_eq_true rfl) (Nat.le_of_ble_eq_true rfl) d_Nd_init_63 (fun q8 H hP hD hS => ?_)
  have hP : va_P D kl [(h0, .inr (6, [.ref q1, .ref q2, .ref q3, .ref q4, .ref q5, .ref q6, .ref q7, .null, .null, .int 0, .null, .null, .null, .null, .null, .int 0])), (q1, .inl (cI, 59, .inl (fun _ => 0))), (q2, .inl (cI, 59, .inl (fun _ => 0))), (q3, .inl (cI, 59, .inl (fun _ => 0))), (q4, .inl (cI, 59, .inl (fun _ => 0))), (q5, .inl (cI, 59, .inl (fun _ => 0))), (q6, .inl (cI, 59, .inl (fun _ => 0))), (q7, .inl (cI, 59, .inl (fun _ => 0))), (q8, .inl (cI, 59, .inl (fun _ => 0)))] H := hP
  have hD : va_D A [(h0, .inr (6, [.ref q1, .ref q2, .ref q3, .ref q4, .ref q5, .ref q6, .ref q7, .null, .null, .int 0, .null, .null, .null, .null, .null, .int 0])), (q1, .inl (cI, 59, .inl (fun _ => 0))), (q2, .inl (cI, 59, .inl (fun _ => 0))), (q3, .inl (cI, 59, .inl (fun _ => 0))), (q4, .inl (cI, 59, .inl (fun _ => 0))), (q5, .inl (cI, 59, .inl (fun _ => 0))), (q6, .inl (cI, 59, .inl (fun _ => 0))), (q7, .inl (cI, 59, .inl (fun _ => 0))), (q8, .inl (cI, 59, .inl (fun _ => 0)))] := hD
  refine W.widen (k := 8) (n := 472) (Nat.le_of_ble_eq_true rfl) (Nat.le_of_ble_eq_true rfl) ?_
  refine va_putF (D := D) (ci := 6) (v := .ref q8) (ty := .array .int) (C := R_Nd) (T := T_Nd) (N := 16) hx hb hG gi_Nd ty_Nd to_Nd nm_Nd hown hK hP hD hS 0 rfl rfl 7 (by decide) (hG _ fl_Nd_33) (fun _ h9 => h9) rfl hin rfl (by decide +kernel) rfl rfl (Nat.le_of_ble_eq_true rfl) d_Nd_init_65 (fun H locs hP hD hS => ?_)
  have hP : va_P D kl [(h0, .inr (6, [.ref q1, .ref q2, .ref q3, .ref q4, .ref q5, .ref q6, .ref q7, .ref q8, .null, .int 0, .null, .null, .null, .null, .null, .int 0])), (q1, .inl (cI, 59, .inl (fun _ => 0))), (q2, .inl (cI, 59, .inl (fun _ => 0))), (q3, .inl (cI, 59, .inl (fun _ => 0))), (q4, .inl (cI, 59, .inl (fun _ => 0))), (q5, .inl (cI, 59, .inl (fun _ => 0))), (q6, .inl (cI, 59, .inl (fun _ => 0))), (q7, .inl (cI, 59, .inl (fun _ => 0))), (q8, .inl (cI, 59, .inl (fun _ => 0)))] H := hP
  have hD : va_D A [(h0, .inr (6, [.ref q1, .ref q2, .ref q3, .ref q4, .ref q5, .ref q6, .ref q7, .ref q8, .null, .int 0, .null, .null, .null, .null, .null, .int 0])), (q1, .inl (cI, 59, .inl (fun _ => 0))), (q2, .inl (cI, 59, .inl (fun _ => 0))), (q3, .inl (cI, 59, .inl (fun _ => 0))), (q4, .inl (cI, 59, .inl (fun _ => 0))), (q5, .inl (cI, 59, .inl (fun _ => 0))), (q6, .inl (cI, 59, .inl (fun _ => 0))), (q7, .inl (cI, 59, .inl (fun _ => 0))), (q8, .inl (cI, 59, .inl (fun _ => 0)))] := hD
  refine lv_aload_n hx hb d_Nd_init_68 rfl (lv_at hl 0 rfl) ?_
  refine lv_bipush (v := 59) hx hb d_Nd_init_69 (by decide) ?_
  refine ra_new (atype := .int) (D := D) hx hb (hG _ ac_int) rfl (fun _ h => by cases h) hK hP hD hS hA 0 rfl (59, .inl (fun _ => 0)) (fun _ => rfl) (by decide +kernel) (by decide +kernel) (Nat.le_of_ble_eq_true rfl) (Nat.le_of_ble_eq_true rfl) (Nat.le_of_ble_eq_true rfl) d_Nd_init_71 (fun q9 H hP hD hS => ?_)
  have hP : va_P D kl [(h0, .inr (6, [.ref q1, .ref q2, .ref q3, .ref q4, .ref q5, .ref q6, .ref q7, .ref q8, .null, .int 0, .null, .null, .null, .null, .null, .int 0])), (q1, .inl (cI, 59, .inl (fun _ => 0))), (q2, .inl (cI, 59, .inl (fun _ => 0))), (q3, .inl (cI, 59, .inl (fun _ => 0))), (q4, .inl (cI, 59, .inl (fun _ => 0))), (q5, .inl (cI, 59, .inl (fun _ => 0))), (q6, .inl (cI, 59, .inl (fun _ => 0))), (q7, .inl (cI, 59, .inl (fun _ => 0))), (q8, .inl (cI, 59, .inl (fun _ => 0))), (q9, .inl (cI, 59, .inl (fun _ => 0)))] H := hP
  have hD : va_D A [(h0, .inr (6, [.ref q1, .ref q2, .ref q3, .ref q4, .ref q5, .ref q6, .ref q7, .ref q8, .null, .int 0, .null, .null, .null, .null, .null, .int 0])), (q1, .inl (cI, 59, .inl (fun _ => 0))), (q2, .inl (cI, 59, .inl (fun _ => 0))), (q3, .inl (cI, 59, .inl (fun _ => 0))), (q4, .inl (cI, 59, .inl (fun _ => 0))), (q5, .inl (cI, 59, .inl (fun _ => 0))), (q6, .inl (cI, 59, .inl (fun _ => 0))), (q7, .inl (cI, 59, .inl (fun _ => 0))), (q8, .inl (cI, 59, .inl (fun _ => 0))), (q9, .inl (cI, 59, .inl (fun _ => 0)))] := hD
  refine W.widen (k := 9) (n := 531) (Nat.le_of_ble_eq_true rfl) (Nat.le_of_ble_eq_true rfl) ?_
  refine va_putF (D := D) (ci := 6) (v := .ref q9) (ty := .array .int) (C := R_Nd) (T := T_Nd) (N := 16) hx hb hG gi_Nd ty_Nd to_Nd nm_Nd hown hK hP hD hS 0 rfl rfl 8 (by decide) (hG _ fl_Nd_36) (fun _ h9 => h9) rfl hin rfl (by decide +kernel) rfl rfl (Nat.le_of_ble_eq_true rfl) d_Nd_init_73 (fun H locs hP hD hS => ?_)
  have hP : va_P D kl [(h0, .inr (6, [.ref q1, .ref q2, .ref q3, .ref q4, .ref q5, .ref q6, .ref q7, .ref q8, .ref q9, .int 0, .null, .null, .null, .null, .null, .int 0])), (q1, .inl (cI, 59, .inl (fun _ => 0))), (q2, .inl (cI, 59, .inl (fun _ => 0))), (q3, .inl (cI, 59, .inl (fun _ => 0))), (q4, .inl (cI, 59, .inl (fun _ => 0))), (q5, .inl (cI, 59, .inl (fun _ => 0))), (q6, .inl (cI, 59, .inl (fun _ => 0))), (q7, .inl (cI, 59, .inl (fun _ => 0))), (q8, .inl (cI, 59, .inl (fun _ => 0))), (q9, .inl (cI, 59, .inl (fun _ => 0)))] H := hP
  have hD : va_D A [(h0, .inr (6, [.ref q1, .ref q2, .ref q3, .ref q4, .ref q5, .ref q6, .ref q7, .ref q8, .ref q9, .int 0, .null, .null, .null, .null, .null, .int 0])), (q1, .inl (cI, 59, .inl (fun _ => 0))), (q2, .inl (cI, 59, .inl (fun _ => 0))), (q3, .inl (cI, 59, .inl (fun _ => 0))), (q4, .inl (cI, 59, .inl (fun _ => 0))), (q5, .inl (cI, 59, .inl (fun _ => 0))), (q6, .inl (cI, 59, .inl (fun _ => 0))), (q7, .inl (cI, 59, .inl (fun _ => 0))), (q8, .inl (cI, 59, .inl (fun _ => 0))), (q9, .inl (cI, 59, .inl (fun _ => 0)))] := hD
  refine lv_aload_n hx hb d_Nd_init_76 rfl (lv_at hl 0 rfl) ?_
  refine lv_sipush (v := 5841) hx hb d_Nd_init_77 (by decide) ?_
  refine ra_new (atype := .int) (D := D) hx hb (hG _ ac_int) rfl (fun _ h => by cases h) hK hP hD hS hA 0 rfl (5841, .inl (fun _ => 0)) (fun _ => rfl) (by decide +kernel) (by decide +kernel) (Nat.le_of_ble_eq_true rfl) (Nat.le_of_ble_eq_true rfl) (Nat.le_of_ble_eq_true rfl) d_Nd_init_80 (fun q10 H hP hD hS => ?_)
  have hP : va_P D kl [(h0, .inr (6, [.ref q1, .ref q2, .ref q3, .ref q4, .ref q5, .ref q6, .ref q7, .ref q8, .ref q9, .int 0, .null, .null, .null, .null, .null, .int 0])), (q1, .inl (cI, 59, .inl (fun _ => 0))), (q2, .inl (cI, 59, .inl (fun _ => 0))), (q3, .inl (cI, 59, .inl (fun _ => 0))), (q4, .inl (cI, 59, .inl (fun _ => 0))), (q5, .inl (cI, 59, .inl (fun _ => 0))), (q6, .inl (cI, 59, .inl (fun _ => 0))), (q7, .inl (cI, 59, .inl (fun _ => 0))), (q8, .inl (cI, 59, .inl (fun _ => 0))), (q9, .inl (cI, 59, .inl (fun _ => 0))), (q10, .inl (cI, 5841, .inl (fun _ => 0)))] H := hP
  have hD : va_D A [(h0, .inr (6, [.ref q1, .ref q2, .ref q3, .ref q4, .ref q5, .ref q6, .ref q7, .ref q8, .ref q9, .int 0, .null, .null, .null, .null, .null, .int 0])), (q1, .inl (cI, 59, .inl (fun _ => 0))), (q2, .inl (cI, 59, .inl (fun _ => 0))), (q3, .inl (cI, 59, .inl (fun _ => 0))), (q4, .inl (cI, 59, .inl (fun _ => 0))), (q5, .inl (cI, 59, .inl (fun _ => 0))), (q6, .inl (cI, 59, .inl (fun _ => 0))), (q7, .inl (cI, 59, .inl (fun _ => 0))), (q8, .inl (cI, 59, .inl (fun _ => 0))), (q9, .inl (cI, 59, .inl (fun _ => 0))), (q10, .inl (cI, 5841, .inl (fun _ => 0)))] := hD
  refine W.widen (k := 10) (n := 6372) (Nat.le_of_ble_eq_true rfl) (Nat.le_of_ble_eq_true rfl) ?_
  refine va_putF (D := D) (ci := 6) (v := .ref q10) (ty := .array .int) (C := R_Nd) (T := T_Nd) (N := 16) hx hb hG gi_Nd ty_Nd to_Nd nm_Nd hown hK hP hD hS 0 rfl rfl 10 (by decide) (hG _ fl_Nd_39) (fun _ h9 => h9) rfl hin rfl (by decide +kernel) rfl rfl (Nat.le_of_ble_eq_true rfl) d_Nd_init_82 (fun H locs hP hD hS => ?_)
  have hP : va_P D kl [(h0, .inr (6, [.ref q1, .ref q2, .ref q3, .ref q4, .ref q5, .ref q6, .ref q7, .ref q8, .ref q9, .int 0, .ref q10, .null, .null, .null, .null, .int 0])), (q1, .inl (cI, 59, .inl (fun _ => 0))), (q2, .inl (cI, 59, .inl (fun _ => 0))), (q3, .inl (cI, 59, .inl (fun _ => 0))), (q4, .inl (cI, 59, .inl (fun _ => 0))), (q5, .inl (cI, 59, .inl (fun _ => 0))), (q6, .inl (cI, 59, .inl (fun _ => 0))), (q7, .inl (cI, 59, .inl (fun _ => 0))), (q8, .inl (cI, 59, .inl (fun _ => 0))), (q9, .inl (cI, 59, .inl (fun _ => 0))), (q10, .inl (cI, 5841, .inl (fun _ => 0)))] H := hP
  have hD : va_D A [(h0, .inr (6, [.ref q1, .ref q2, .ref q3, .ref q4, .ref q5, .ref q6, .ref q7, .ref q8, .ref q9, .int 0, .ref q10, .null, .null, .null, .null, .int 0])), (q1, .inl (cI, 59, .inl (fun _ => 0))), (q2, .inl (cI, 59, .inl (fun _ => 0))), (q3, .inl (cI, 59, .inl (fun _ => 0))), (q4, .inl (cI, 59, .inl (fun _ => 0))), (q5, .inl (cI, 59, .inl (fun _ => 0))), (q6, .inl (cI, 59, .inl (fun _ => 0))), (q7, .inl (cI, 59, .inl (fun _ => 0))), (q8, .inl (cI, 59, .inl (fun _ => 0))), (q9, .inl (cI, 59, .inl (fun _ => 0))), (q10, .inl (cI, 5841, .inl (fun _ => 0)))] := hD
  refine lv_aload_n hx hb d_Nd_init_85 rfl (lv_at hl 0 rfl) ?_
  refine lv_sipush (v := 5841) hx hb d_Nd_init_86 (by decide) ?_
  refine ra_new (atype := .int) (D := D) hx hb (hG _ ac_int) rfl (fun _ h => by cases h) hK hP hD hS hA 0 rfl (5841, .inl (fun _ => 0)) (fun _ => rfl) (by decide +kernel) (by decide +kernel) (Nat.le_of_ble_eq_true rfl) (Nat.le_of_ble_eq_true rfl) (Nat.le_of_ble_eq_true rfl) d_Nd_init_89 (fun q11 H hP hD hS => ?_)
  have hP : va_P D kl [(h0, .inr (6, [.ref q1, .ref q2, .ref q3, .ref q4, .ref q5, .ref q6, .ref q7, .ref q8, .ref q9, .int 0, .ref q10, .null, .null, .null, .null, .int 0])), (q1, .inl (cI, 59, .inl (fun _ => 0))), (q2, .inl (cI, 59, .inl (fun _ => 0))), (q3, .inl (cI, 59, .inl (fun _ => 0))), (q4, .inl (cI, 59, .inl (fun _ => 0))), (q5, .inl (cI, 59, .inl (fun _ => 0))), (q6, .inl (cI, 59, .inl (fun _ => 0))), (q7, .inl (cI, 59, .inl (fun _ => 0))), (q8, .inl (cI, 59, .inl (fun _ => 0))), (q9, .inl (cI, 59, .inl (fun _ => 0))), (q10, .inl (cI, 5841, .inl (fun _ => 0))), (q11, .inl (cI, 5841, .inl (fun _ => 0)))] H := hP
  have hD : va_D A [(h0, .inr (6, [.ref q1, .ref q2, .ref q3, .ref q4, .ref q5, .ref q6, .ref q7, .ref q8, .ref q9, .int 0, .ref q10, .null, .null, .null, .null, .int 0])), (q1, .inl (cI, 59, .inl (fun _ => 0))), (q2, .inl (cI, 59, .inl (fun _ => 0))), (q3, .inl (cI, 59, .inl (fun _ => 0))), (q4, .inl (cI, 59, .inl (fun _ => 0))), (q5, .inl (cI, 59, .inl (fun _ => 0))), (q6, .inl (cI, 59, .inl (fun _ => 0))), (q7, .inl (cI, 59, .inl (fun _ => 0))), (q8, .inl (cI, 59, .inl (fun _ => 0))), (q9, .inl (cI, 59, .inl (fun _ => 0))), (q10, .inl (cI, 5841, .inl (fun _ => 0))), (q11, .inl (cI, 5841, .inl (fun _ => 0)))] := hD
  refine W.widen (k := 11) (n := 12213) (Nat.le_of_ble_eq_true rfl) (Nat.le_of_ble_eq_true rfl) ?_
  refine va_putF (D := D) (ci := 6) (v := .ref q11) (ty := .array .int) (C := R_Nd) (T := T_Nd) (N := 16) hx hb hG gi_Nd ty_Nd to_Nd nm_Nd hown hK hP hD hS 0 rfl rfl 11 (by decide) (hG _ fl_Nd_42) (fun _ h9 => h9) rfl hin rfl (by decide +kernel) rfl rfl (Nat.le_of_ble_eq_true rfl) d_Nd_init_91 (fun H locs hP hD hS => ?_)
  have hP : va_P D kl [(h0, .inr (6, [.ref q1, .ref q2, .ref q3, .ref q4, .ref q5, .ref q6, .ref q7, .ref q8, .ref q9, .int 0, .ref q10, .ref q11, .null, .null, .null, .int 0])), (q1, .inl (cI, 59, .inl (fun _ => 0))), (q2, .inl (cI, 59, .inl (fun _ => 0))), (q3, .inl (cI, 59, .inl (fun _ => 0))), (q4, .inl (cI, 59, .inl (fun _ => 0))), (q5, .inl (cI, 59, .inl (fun _ => 0))), (q6, .inl (cI, 59, .inl (fun _ => 0))), (q7, .inl (cI, 59, .inl (fun _ => 0))), (q8, .inl (cI, 59, .inl (fun _ => 0))), (q9, .inl (cI, 59, .inl (fun _ => 0))), (q10, .inl (cI, 5841, .inl (fun _ => 0))), (q11, .inl (cI, 5841, .inl (fun _ => 0)))] H := hP
  have hD : va_D A [(h0, .inr (6, [.ref q1, .ref q2, .ref q3, .ref q4, .ref q5, .ref q6, .ref q7, .ref q8, .ref q9, .int 0, .ref q10, .ref q11, .null, .null, .null, .int 0])), (q1, .inl (cI, 59, .inl (fun _ => 0))), (q2, .inl (cI, 59, .inl (fun _ => 0))), (q3, .inl (cI, 59, .inl (fun _ => 0))), (q4, .inl (cI, 59, .inl (fun _ => 0))), (q5, .inl (cI, 59, .inl (fun _ => 0))), (q6, .inl (cI, 59, .inl (fun _ => 0))), (q7, .inl (cI, 59, .inl (fun _ => 0))), (q8, .inl (cI, 59, .inl (fun _ => 0))), (q9, .inl (cI, 59, .inl (fun _ => 0))), (q10, .inl (cI, 5841, .inl (fun _ => 0))), (q11, .inl (cI, 5841, .inl (fun _ => 0)))] := hD
  refine lv_aload_n hx hb d_Nd_init_94 rfl (lv_at hl 0 rfl) ?_
  refine lv_sipush (v := 5841) hx hb d_Nd_init_95 (by decide) ?_
  refine ra_new (atype := .int) (D := D) hx hb (hG _ ac_int) rfl (fun _ h => by cases h) hK hP hD hS hA 0 rfl (5841, .inl (fun _ => 0)) (fun _ => rfl) (by decide +kernel) (by decide +kernel) (Nat.le_of_ble_eq_true rfl) (Nat.le_of_ble_eq_true rfl) (Nat.le_of_ble_eq_true rfl) d_Nd_init_98 (fun q12 H hP hD hS => ?_)
  have hP : va_P D kl [(h0, .inr (6, [.ref q1, .ref q2, .ref q3, .ref q4, .ref q5, .ref q6, .ref q7, .ref q8, .ref q9, .int 0, .ref q10, .ref q11, .null, .null, .null, .int 0])), (q1, .inl (cI, 59, .inl (fun _ => 0))), (q2, .inl (cI, 59, .inl (fun _ => 0))), (q3, .inl (cI, 59, .inl (fun _ => 0))), (q4, .inl (cI, 59, .inl (fun _ => 0))), (q5, .inl (cI, 59, .inl (fun _ => 0))), (q6, .inl (cI, 59, .inl (fun _ => 0))), (q7, .inl (cI, 59, .inl (fun _ => 0))), (q8, .inl (cI, 59, .inl (fun _ => 0))), (q9, .inl (cI, 59, .inl (fun _ => 0))), (q10, .inl (cI, 5841, .inl (fun _ => 0))), (q11, .inl (cI, 5841, .inl (fun _ => 0))), (q12, .inl (cI, 5841, .inl (fun _ => 0)))] H := hP
  have hD : va_D A [(h0, .inr (6, [.ref q1, .ref q2, .ref q3, .ref q4, .ref q5, .ref q6, .ref q7, .ref q8, .ref q9, .int 0, .ref q10, .ref q11, .null, .null, .null, .int 0])), (q1, .inl (cI, 59, .inl (fun _ => 0))), (q2, .inl (cI, 59, .inl (fun _ => 0))), (q3, .inl (cI, 59, .inl (fun _ => 0))), (q4, .inl (cI, 59, .inl (fun _ => 0))), (q5, .inl (cI, 59, .inl (fun _ => 0))), (q6, .inl (cI, 59, .inl (fun _ => 0))), (q7, .inl (cI, 59, .inl (fun _ => 0))), (q8, .inl (cI, 59, .inl (fun _ => 0))), (q9, .inl (cI, 59, .inl (fun _ => 0))), (q10, .inl (cI, 5841, .inl (fun _ => 0))), (q11, .inl (cI, 5841, .inl (fun _ => 0))), (q12, .inl (cI, 5841, .inl (fun _ => 0)))] := hD
  refine W.widen (k := 12) (n := 18054) (Nat.le_of_ble_eq_true rfl) (Nat.le_of_ble_eq_true rfl) ?_
  refine va_putF (D := D) (ci := 6) (v := .ref q12) (ty := .array .int) (C := R_Nd) (T := T_Nd) (N := 16) hx hb hG gi_Nd ty_Nd to_Nd nm_Nd hown hK hP hD hS 0 rfl rfl 12 (by decide) (hG _ fl_Nd_45) (fun _ h9 => h9) rfl hin rfl (by decide +kernel) rfl rfl (Nat.le_of_ble_eq_true rfl) d_Nd_init_100 (fun H locs hP hD hS => ?_)
  have hP : va_P D kl [(h0, .inr (6, [.ref q1, .ref q2, .ref q3, .ref q4, .ref q5, .ref q6, .ref q7, .ref q8, .ref q9, .int 0, .ref q10, .ref q11, .ref q12, .null, .null, .int 0])), (q1, .inl (cI, 59, .inl (fun _ => 0))), (q2, .inl (cI, 59, .inl (fun _ => 0))), (q3, .inl (cI, 59, .inl (fun _ => 0))), (q4, .inl (cI, 59, .inl (fun _ => 0))), (q5, .inl (cI, 59, .inl (fun _ => 0))), (q6, .inl (cI, 59, .inl (fun _ => 0))), (q7, .inl (cI, 59, .inl (fun _ => 0))), (q8, .inl (cI, 59, .inl (fun _ => 0))), (q9, .inl (cI, 59, .inl (fun _ => 0))), (q10, .inl (cI, 5841, .inl (fun _ => 0))), (q11, .inl (cI, 5841, .inl (fun _ => 0))), (q12, .inl (cI, 5841, .inl (fun _ => 0)))] H := hP
  have hD : va_D A [(h0, .inr (6, [.ref q1, .ref q2, .ref q3, .ref q4, .ref q5, .ref q6, .ref q7, .ref q8, .ref q9, .int 0, .ref q10, .ref q11, .ref q12, .null, .null, .int 0])), (q1, .inl (cI, 59, .inl (fun _ => 0))), (q2, .inl (cI, 59, .inl (fun _ => 0))), (q3, .inl (cI, 59, .inl (fun _ => 0))), (q4, .inl (cI, 59, .inl (fun _ => 0))), (q5, .inl (cI, 59, .inl (fun _ => 0))), (q6, .inl (cI, 59, .inl (fun _ => 0))), (q7, .inl (cI, 59, .inl (fun _ => 0))), (q8, .inl (cI, 59, .inl (fun _ => 0))), (q9, .inl (cI, 59, .inl (fun _ => 0))), (q10, .inl (cI, 5841, .inl (fun _ => 0))), (q11, .inl (cI, 5841, .inl (fun _ => 0))), (q12, .inl (cI, 5841, .inl (fun _ => 0)))] := hD
  refine lv_aload_n hx hb d_Nd_init_103 rfl (lv_at hl 0 rfl) ?_
  refine lv_sipush (v := 5841) hx hb d_Nd_init_104 (by decide) ?_
  refine ra_new (atype := .int) (D := D) hx hb (hG _ ac_int) rfl (fun _ h => by cases h) hK hP hD hS hA 0 rfl (5841, .inl (fun _ => 0)) (fun _ => rfl) (by decide +kernel) (by decide +kernel) (Nat.le_of_ble_eq_true rfl) (Nat.le_of_ble_eq_true rfl) (Nat.le_of_ble_eq_true rfl) d_Nd_init_107 (fun q13 H hP hD hS => ?_)
  have hP : va_P D kl [(h0, .inr (6, [.ref q1, .ref q2, .ref q3, .ref q4, .ref q5, .ref q6, .ref q7, .ref q8, .ref q9, .int 0, .ref q10, .ref q11, .ref q12, .null, .null, .int 0])), (q1, .inl (cI, 59, .inl (fun _ => 0))), (q2, .inl (cI, 59, .inl (fun _ => 0))), (q3, .inl (cI, 59, .inl (fun _ => 0))), (q4, .inl (cI, 59, .inl (fun _ => 0))), (q5, .inl (cI, 59, .inl (fun _ => 0))), (q6, .inl (cI, 59, .inl (fun _ => 0))), (q7, .inl (cI, 59, .inl (fun _ => 0))), (q8, .inl (cI, 59, .inl (fun _ => 0))), (q9, .inl (cI, 59, .inl (fun _ => 0))), (q10, .inl (cI, 5841, .inl (fun _ => 0))), (q11, .inl (cI, 5841, .inl (fun _ => 0))), (q12, .inl (cI, 5841, .inl (fun _ => 0))), (q13, .inl (cI, 5841, .inl (fun _ => 0)))] H := hP
  have hD : va_D A [(h0, .inr (6, [.ref q1, .ref q2, .ref q3, .ref q4, .ref q5, .ref q6, .ref q7, .ref q8, .ref q9, .int 0, .ref q10, .ref q11, .ref q12, .null, .null, .int 0])), (q1, .inl (cI, 59, .inl (fun _ => 0))), (q2, .inl (cI, 59, .inl (fun _ => 0))), (q3, .inl (cI, 59, .inl (fun _ => 0))), (q4, .inl (cI, 59, .inl (fun _ => 0))), (q5, .inl (cI, 59, .inl (fun _ => 0))), (q6, .inl (cI, 59, .inl (fun _ => 0))), (q7, .inl (cI, 59, .inl (fun _ => 0))), (q8, .inl (cI, 59, .inl (fun _ => 0))), (q9, .inl (cI, 59, .inl (fun _ => 0))), (q10, .inl (cI, 5841, .inl (fun _ => 0))), (q11, .inl (cI, 5841, .inl (fun _ => 0))), (q12, .inl (cI, 5841, .inl (fun _ => 0))), (q13, .inl (cI, 5841, .inl (fun _ => 0)))] := hD
  refine W.widen (k := 13) (n := 23895) (Nat.le_of_ble_eq_true rfl) (Nat.le_of_ble_eq_true rfl) ?_
  refine va_putF (D := D) (ci := 6) (v := .ref q13) (ty := .array .int) (C := R_Nd) (T := T_Nd) (N := 16) hx hb hG gi_Nd ty_Nd to_Nd nm_Nd hown hK hP hD hS 0 rfl rfl 13 (by decide) (hG _ fl_Nd_48) (fun _ h9 => h9) rfl hin rfl (by decide +kernel) rfl rfl (Nat.le_of_ble_eq_true rfl) d_Nd_init_109 (fun H locs hP hD hS => ?_)
  have hP : va_P D kl [(h0, .inr (6, [.ref q1, .ref q2, .ref q3, .ref q4, .ref q5, .ref q6, .ref q7, .ref q8, .ref q9, .int 0, .ref q10, .ref q11, .ref q12, .ref q13, .null, .int 0])), (q1, .inl (cI, 59, .inl (fun _ => 0))), (q2, .inl (cI, 59, .inl (fun _ => 0))), (q3, .inl (cI, 59, .inl (fun _ => 0))), (q4, .inl (cI, 59, .inl (fun _ => 0))), (q5, .inl (cI, 59, .inl (fun _ => 0))), (q6, .inl (cI, 59, .inl (fun _ => 0))), (q7, .inl (cI, 59, .inl (fun _ => 0))), (q8, .inl (cI, 59, .inl (fun _ => 0))), (q9, .inl (cI, 59, .inl (fun _ => 0))), (q10, .inl (cI, 5841, .inl (fun _ => 0))), (q11, .inl (cI, 5841, .inl (fun _ => 0))), (q12, .inl (cI, 5841, .inl (fun _ => 0))), (q13, .inl (cI, 5841, .inl (fun _ => 0)))] H := hP
  have hD : va_D A [(h0, .inr (6, [.ref q1, .ref q2, .ref q3, .ref q4, .ref q5, .ref q6, .ref q7, .ref q8, .ref q9, .int 0, .ref q10, .ref q11, .ref q12, .ref q13, .null, .int 0])), (q1, .inl (cI, 59, .inl (fun _ => 0))), (q2, .inl (cI, 59, .inl (fun _ => 0))), (q3, .inl (cI, 59, .inl (fun _ => 0))), (q4, .inl (cI, 59, .inl (fun _ => 0))), (q5, .inl (cI, 59, .inl (fun _ => 0))), (q6, .inl (cI, 59, .inl (fun _ => 0))), (q7, .inl (cI, 59, .inl (fun _ => 0))), (q8, .inl (cI, 59, .inl (fun _ => 0))), (q9, .inl (cI, 59, .inl (fun _ => 0))), (q10, .inl (cI, 5841, .inl (fun _ => 0))), (q11, .inl (cI, 5841, .inl (fun _ => 0))), (q12, .inl (cI, 5841, .inl (fun _ => 0))), (q13, .inl (cI, 5841, .inl (fun _ => 0)))] := hD
  refine lv_aload_n hx hb d_Nd_init_112 rfl (lv_at hl 0 rfl) ?_
  refine lv_sipush (v := 5841) hx hb d_Nd_init_113 (by decide) ?_
  refine ra_new (atype := .int) (D := D) hx hb (hG _ ac_int) rfl (fun _ h => by cases h) hK hP hD hS hA 0 rfl (5841, .inl (fun _ => 0)) (fun _ => rfl) (by decide +kernel) (by decide +kernel) (Nat.le_of_ble_eq_true rfl) (Nat.le_of_ble_eq_true rfl) (Nat.le_of_ble_eq_true rfl) d_Nd_init_116 (fun q14 H hP hD hS => ?_)
  have hP : va_P D kl [(h0, .inr (6, [.ref q1, .ref q2, .ref q3, .ref q4, .ref q5, .ref q6, .ref q7, .ref q8, .ref q9, .int 0, .ref q10, .ref q11, .ref q12, .ref q13, .null, .int 0])), (q1, .inl (cI, 59, .inl (fun _ => 0))), (q2, .inl (cI, 59, .inl (fun _ => 0))), (q3, .inl (cI, 59, .inl (fun _ => 0))), (q4, .inl (cI, 59, .inl (fun _ => 0))), (q5, .inl (cI, 59, .inl (fun _ => 0))), (q6, .inl (cI, 59, .inl (fun _ => 0))), (q7, .inl (cI, 59, .inl (fun _ => 0))), (q8, .inl (cI, 59, .inl (fun _ => 0))), (q9, .inl (cI, 59, .inl (fun _ => 0))), (q10, .inl (cI, 5841, .inl (fun _ => 0))), (q11, .inl (cI, 5841, .inl (fun _ => 0))), (q12, .inl (cI, 5841, .inl (fun _ => 0))), (q13, .inl (cI, 5841, .inl (fun _ => 0))), (q14, .inl (cI, 5841, .inl (fun _ => 0)))] H := hP
  have hD : va_D A [(h0, .inr (6, [.ref q1, .ref q2, .ref q3, .ref q4, .ref q5, .ref q6, .ref q7, .ref q8, .ref q9, .int 0, .ref q10, .ref q11, .ref q12, .ref q13, .null, .int 0])), (q1, .inl (cI, 59, .inl (fun _ => 0))), (q2, .inl (cI, 59, .inl (fun _ => 0))), (q3, .inl (cI, 59, .inl (fun _ => 0))), (q4, .inl (cI, 59, .inl (fun _ => 0))), (q5, .inl (cI, 59, .inl (fun _ => 0))), (q6, .inl (cI, 59, .inl (fun _ => 0))), (q7, .inl (cI, 59, .inl (fun _ => 0))), (q8, .inl (cI, 59, .inl (fun _ => 0))), (q9, .inl (cI, 59, .inl (fun _ => 0))), (q10, .inl (cI, 5841, .inl (fun _ => 0))), (q11, .inl (cI, 5841, .inl (fun _ => 0))), (q12, .inl (cI, 5841, .inl (fun _ => 0))), (q13, .inl (cI, 5841, .inl (fun _ => 0))), (q14, .inl (cI, 5841, .inl (fun _ => 0)))] := hD
  refine W.widen (k := 14) (n := 29736) (Nat.le_of_ble_eq_true rfl) (Nat.le_of_ble_eq_true rfl) ?_
  refine va_putF (D := D) (ci := 6) (v := .ref q14) (ty := .array .int) (C := R_Nd) (T := T_Nd) (N := 16) hx hb hG gi_Nd ty_Nd to_Nd nm_Nd hown hK hP hD hS 0 rfl rfl 14 (by decide) (hG _ fl_Nd_51) (fun _ h9 => h9) rfl hin rfl (by decide +kernel) rfl rfl (Nat.le_of_ble_eq_true rfl) d_Nd_init_118 (fun H locs hP hD hS => ?_)
  have hP : va_P D kl [(h0, .inr (6, [.ref q1, .ref q2, .ref q3, .ref q4, .ref q5, .ref q6, .ref q7, .ref q8, .ref q9, .int 0, .ref q10, .ref q11, .ref q12, .ref q13, .ref q14, .int 0])), (q1, .inl (cI, 59, .inl (fun _ => 0))), (q2, .inl (cI, 59, .inl (fun _ => 0))), (q3, .inl (cI, 59, .inl (fun _ => 0))), (q4, .inl (cI, 59, .inl (fun _ => 0))), (q5, .inl (cI, 59, .inl (fun _ => 0))), (q6, .inl (cI, 59, .inl (fun _ => 0))), (q7, .inl (cI, 59, .inl (fun _ => 0))), (q8, .inl (cI, 59, .inl (fun _ => 0))), (q9, .inl (cI, 59, .inl (fun _ => 0))), (q10, .inl (cI, 5841, .inl (fun _ => 0))), (q11, .inl (cI, 5841, .inl (fun _ => 0))), (q12, .inl (cI, 5841, .inl (fun _ => 0))), (q13, .inl (cI, 5841, .inl (fun _ => 0))), (q14, .inl (cI, 5841, .inl (fun _ => 0)))] H := hP
  have hD : va_D A [(h0, .inr (6, [.ref q1, .ref q2, .ref q3, .ref q4, .ref q5, .ref q6, .ref q7, .ref q8, .ref q9, .int 0, .ref q10, .ref q11, .ref q12, .ref q13, .ref q14, .int 0])), (q1, .inl (cI, 59, .inl (fun _ => 0))), (q2, .inl (cI, 59, .inl (fun _ => 0))), (q3, .inl (cI, 59, .inl (fun _ => 0))), (q4, .inl (cI, 59, .inl (fun _ => 0))), (q5, .inl (cI, 59, .inl (fun _ => 0))), (q6, .inl (cI, 59, .inl (fun _ => 0))), (q7, .inl (cI, 59, .inl (fun _ => 0))), (q8, .inl (cI, 59, .inl (fun _ => 0))), (q9, .inl (cI, 59, .inl (fun _ => 0))), (q10, .inl (cI, 5841, .inl (fun _ => 0))), (q11, .inl (cI, 5841, .inl (fun _ => 0))), (q12, .inl (cI, 5841, .inl (fun _ => 0))), (q13, .inl (cI, 5841, .inl (fun _ => 0))), (q14, .inl (cI, 5841, .inl (fun _ => 0)))] := hD
  exact W.vret hx hb hr (fun t ht hW => ⟨⟨(), rfl, trivial, q1, q2, q3, q4, q5, q6, q7, q8, q9, q10, q11, q12, q13, q14, by rw [ht]; exact hP, hD⟩, hS.F ht⟩) hS.2.2 d_Nd_init_121

theorem d_Cd_init_0 : decode b_Cd_init 0 = .ok (.aload_n 0, 1) := by decide +kernel
theorem d_Cd_init_1 : decode b_Cd_init 1 = .ok (.invokespecial 3, 3) := by decide +kernel
theorem d_Cd_init_4 : decode b_Cd_init 4 = .ok (.aload_n 0, 1) := by decide +kernel
theorem d_Cd_init_5 : decode b_Cd_init 5 = .ok (.ldc 9, 2) := by decide +kernel
theorem d_Cd_init_7 : decode b_Cd_init 7 = .ok (.newarray .int, 2) := by decide +kernel
theorem d_Cd_init_9 : decode b_Cd_init 9 = .ok (.putfield 10, 3) := by decide +kernel
theorem d_Cd_init_12 : decode b_Cd_init 12 = .ok (.aload_n 0, 1) := by decide +kernel
theorem d_Cd_init_13 : decode b_Cd_init 13 = .ok (.ldc 9, 2) := by decide +kernel
theorem d_Cd_init_15 : decode b_Cd_init 15 = .ok (.newarray .int, 2) := by decide +kernel
theorem d_Cd_init_17 : decode b_Cd_init 17 = .ok (.putfield 16, 3) := by decide +kernel
theorem d_Cd_init_20 : decode b_Cd_init 20 = .ok (.aload_n 0, 1) := by decide +kernel
theorem d_Cd_init_21 : decode b_Cd_init 21 = .ok (.ldc 9, 2) := by decide +kernel
theorem d_Cd_init_23 : decode b_Cd_init 23 = .ok (.newarray .int, 2) := by decide +kernel
theorem d_Cd_init_25 : decode b_Cd_init 25 = .ok (.putfield 19, 3) := by decide +kernel
theorem d_Cd_init_28 : decode b_Cd_init 28 = .ok (.aload_n 0, 1) := by decide +kernel
theorem d_Cd_init_29 : decode b_Cd_init 29 = .ok (.ldc 9, 2) := by decide +kernel
theorem d_Cd_init_31 : decode b_Cd_init 31 = .ok (.newarray .int, 2) := by decide +kernel
theorem d_Cd_init_33 : decode b_Cd_init 33 = .ok (.putfield 22, 3) := by decide +kernel
theorem d_Cd_init_36 : decode b_Cd_init 36 = .ok (.aload_n 0, 1) := by decide +kernel
theorem d_Cd_init_37 : decode b_Cd_init 37 = .ok (.sipush 16385, 3) := by decide +kernel
theorem d_Cd_init_40 : decode b_Cd_init 40 = .ok (.newarray .int, 2) := by decide +kernel
theorem d_Cd_init_42 : decode b_Cd_init 42 = .ok (.putfield 25, 3) := by decide +kernel
theorem d_Cd_init_45 : decode b_Cd_init 45 = .ok (.aload_n 0, 1) := by decide +kernel
theorem d_Cd_init_46 : decode b_Cd_init 46 = .ok (.sipush 16385, 3) := by decide +kernel
theorem d_Cd_init_49 : decode b_Cd_init 49 = .ok (.newarray .int, 2) := by decide +kernel
theorem d_Cd_init_51 : decode b_Cd_init 51 = .ok (.putfield 28, 3) := by decide +kernel
theorem d_Cd_init_54 : decode b_Cd_init 54 = .ok (.aload_n 0, 1) := by decide +kernel
theorem d_Cd_init_55 : decode b_Cd_init 55 = .ok (.sipush 16385, 3) := by decide +kernel
theorem d_Cd_init_58 : decode b_Cd_init 58 = .ok (.newarray .int, 2) := by decide +kernel
theorem d_Cd_init_60 : decode b_Cd_init 60 = .ok (.putfield 31, 3) := by decide +kernel
theorem d_Cd_init_63 : decode b_Cd_init 63 = .ok (.aload_n 0, 1) := by decide +kernel
theorem d_Cd_init_64 : decode b_Cd_init 64 = .ok (.sipush 16385, 3) := by decide +kernel
theorem d_Cd_init_67 : decode b_Cd_init 67 = .ok (.newarray .int, 2) := by decide +kernel
theorem d_Cd_init_69 : decode b_Cd_init 69 = .ok (.putfield 34, 3) := by decide +kernel
theorem d_Cd_init_72 : decode b_Cd_init 72 = .ok (.aload_n 0, 1) := by decide +kernel
theorem d_Cd_init_73 : decode b_Cd_init 73 = .ok (.sipush 16385, 3) := by decide +kernel
theorem d_Cd_init_76 : decode b_Cd_init 76 = .ok (.newarray .int, 2) := by decide +kernel
theorem d_Cd_init_78 : decode b_Cd_init 78 = .ok (.putfield 37, 3) := by decide +kernel
theorem d_Cd_init_81 : decode b_Cd_init 81 = .ok (.aload_n 0, 1) := by decide +kernel
theorem d_Cd_init_82 : decode b_Cd_init 82 = .ok (.ldc 40, 2) := by decide +kernel
theorem d_Cd_init_84 : decode b_Cd_init 84 = .ok (.newarray .int, 2) := by decide +kernel
theorem d_Cd_init_86 : decode b_Cd_init 86 = .ok (.putfield 41, 3) := by decide +kernel
theorem d_Cd_init_89 : decode b_Cd_init 89 = .ok (.return_, 1) := by decide +kernel
set_option maxHeartbeats 4000000 in
set_option maxRecDepth 100000 in
theorem c_Cd_init (l : Launch) (D : va_G) (cI cB cJ cZ : ClassId) (sz : Nat) (h0 : Nat) : Met l y_Cd_init (Cond.code y_Cd_init b_Cd_init 1 none :: gG) { frames := 1, cells := 10, slots := 376842, locals := 12 } (va_Pc [.ref h0] (ct_P D (tyL cI cB cJ cZ) [(h0, .inr (2, [.null, .null, .null, .null, .int 0, .null, .null, .null, .null, .null, .int 0, .null, .int 0]))] sz)) (va_Qv (fun _ : Unit => True) (fun _ t => ∃ q1 q2 q3 q4 q5 q6 q7 q8 q9 q10 : Nat, va_P D kl [(h0, .inr (2, [.ref q1, .ref q2, .ref q3, .ref q4, .int 0, .ref q5, .ref q6, .ref q7, .ref q8, .ref q9, .int 0, .ref q10, .int 0])), (q1, .inl (cI, 65537, .inl (fun _ => 0))), (q2, .inl (cI, 65537, .inl (fun _ => 0))), (q3, .inl (cI, 65537, .inl (fun _ => 0))), (q4, .inl (cI, 65537, .inl (fun _ => 0))), (q5, .inl (cI, 16385, .inl (fun _ => 0))), (q6, .inl (cI, 16385, .inl (fun _ => 0))), (q7, .inl (cI, 16385, .inl (fun _ => 0))), (q8, .inl (cI, 16385, .inl (fun _ => 0))), (q9, .inl (cI, 16385, .inl (fun _ => 0))), (q10, .inl (cI, 32769, .inl (fun _ => 0)))] t.heap ∧ va_D (va_A [(h0, .inr (2, [.null, .null, .null, .null, .int 0, .null, .null, .null, .null, .null, .int 0, .null, .int 0]))] sz) [(h0, .inr (2, [.ref q1, .ref q2, .ref q3, .ref q4, .int 0, .ref q5, .ref q6, .ref q7, .ref q8, .ref q9, .int 0, .ref q10, .int 0])), (q1, .inl (cI, 65537, .inl (fun _ => 0))), (q2, .inl (cI, 65537, .inl (fun _ => 0))), (q3, .inl (cI, 65537, .inl (fun _ => 0))), (q4, .inl (cI, 65537, .inl (fun _ => 0))), (q5, .inl (cI, 16385, .inl (fun _ => 0))), (q6, .inl (cI, 16385, .inl (fun _ => 0))), (q7, .inl (cI, 16385, .inl (fun _ => 0))), (q8, .inl (cI, 16385, .inl (fun _ => 0))), (q9, .inl (cI, 16385, .inl (fun _ => 0))), (q10, .inl (cI, 32769, .inl (fun _ => 0)))]) (va_A [(h0, .inr (2, [.null, .null, .null, .null, .int 0, .null, .null, .null, .null, .null, .int 0, .null, .int 0]))] sz)) 10 376842 (va_A [(h0, .inr (2, [.null, .null, .null, .null, .int 0, .null, .null, .null, .null, .null, .int 0, .null, .int 0]))] sz) := by
  refine Met.ofW (cc := b_Cd_init) (maxL := 1) (ret := none) (by decide) rfl ?_
  intro p e s m args below meth c s₁ B hml hv
  obtain ⟨rfl, hsz, hP, hK, hD0⟩ := hv
  have hx := B.exec
  have hb := B.bytes
  have hr := B.returns
  have hts := atoms_spec (ws := Cond.code y_Cd_init b_Cd_init 1 none :: gG) B.pre
  have hG : ∀ w ∈ gG, w.before [.ref h0].toArray s = true := fun w h => hts w (List.mem_cons_of_mem _ h)
  have hown : s.vm.findClass R_Cd = some m.cls := findClass_of_methodNamed B.named
  have hlocks := B.notSynchronized
  have hin : meth.name = "<init>" := (name_of_methodNamed B.named B.method).1
  subst hsz
  have hD := hD0.self (sz := s.heap.size)
  generalize hAe : va_A [(h0, .inr (2, [.null, .null, .null, .null, .int 0, .null, .null, .null, .null, .null, .int 0, .null, .int 0]))] s.heap.size = A at hD ⊢
  have hA : ∀ q : Nat, s.heap.size ≤ q → A q := fun q h => by rw [← hAe]; exact Or.inr h
  have hS : va_S A s.heap s.heap [] := va_S.rf
  have hl := lv_entry ([.ref h0]) (n := 1) (Nat.le_of_ble_eq_true rfl)
  rw [lg_entry_eq]
  generalize (lg_sl ([.ref h0]) ++ List.replicate (1 - (lg_sl ([.ref h0])).length) Slot.unset).toArray = ls at hl ⊢
  have hl : lv_has ls 1 [(0, .ref h0)] := hl
  refine lv_aload_n hx hb d_Cd_init_0 rfl (lv_at hl 0 rfl) ?_
  refine W.objInit hx hb hown (hG _ ml_Cd_3) (hG _ im_java_lang_Object_init) (hG _ co_java_lang_Object_init) rfl (by rw [hml]; exact hl.1) rfl d_Cd_init_1 (Nat.le_of_ble_eq_true rfl) (Nat.le_of_ble_eq_true rfl) ?_
  refine W.eq (g2 := F0 m 4 ls []) rfl ?_
  refine lv_aload_n hx hb d_Cd_init_4 rfl (lv_at hl 0 rfl) ?_
  refine lv_ldc (v := 65537) hx hb hown (hG _ ct_Cd_9) d_Cd_init_5 ?_
  refine ra_new (atype := .int) (D := D) hx hb (hG _ ac_int) rfl (fun _ h => by cases h) hK hP hD hS hA 0 rfl (65537, .inl (fun _ => 0)) (fun _ => rfl) (by decide +kernel) (by decide +kernel) (Nat.le_of_ble_eq_true rfl) (Nat.le_of_ble_eq_true rfl) (Nat.le_of_ble_eq_true rfl) d_Cd_init_7 (fun q1 H hP hD hS => ?_)
  have hP : va_P D kl [(h0, .inr (2, [.null, .null, .null, .null, .int 0, .null, .null, .null, .null, .null, .int 0, .null, .int 0])), (q1, .inl (cI, 65537, .inl (fun _ => 0)))] H := hP
  have hD : va_D A [(h0, .inr (2, [.null, .null, .null, .null, .int 0, .null, .null, .null, .null, .null, .int 0, .null, .int 0])), (q1, .inl (cI, 65537, .inl (fun _ => 0)))] := hD
  refine W.widen (k := 1) (n := 65537) (Nat.le_of_ble_eq_true rfl) (Nat.le_of_ble_eq_true rfl) ?_
  refine va_putF (D := D) (ci := 2) (v := .ref q1) (ty := .array .int) (C := R_Cd) (T := T_Cd) (N := 13) hx hb hG gi_Cd ty_Cd to_Cd nm_Cd hown hK hP hD hS 0 rfl rfl 0 (by decide) (hG _ fl_Cd_10) (fun _ h9 => h9) rfl hin rfl (by decide +kernel) rfl rfl (Nat.le_of_ble_eq_true rfl) d_Cd_init_9 (fun H locs hP hD hS => ?_)
  have hP : va_P D kl [(h0, .inr (2, [.ref q1, .null, .null, .null, .int 0, .null, .null, .null, .null, .null, .int 0, .null, .int 0])), (q1, .inl (cI, 65537, .inl (fun _ => 0)))] H := hP
  have hD : va_D A [(h0, .inr (2, [.ref q1, .null, .null, .null, .int 0, .null, .null, .null, .null, .null, .int 0, .null, .int 0])), (q1, .inl (cI, 65537, .inl (fun _ => 0)))] := hD
  refine lv_aload_n hx hb d_Cd_init_12 rfl (lv_at hl 0 rfl) ?_
  refine lv_ldc (v := 65537) hx hb hown (hG _ ct_Cd_9) d_Cd_init_13 ?_
  refine ra_new (atype := .int) (D := D) hx hb (hG _ ac_int) rfl (fun _ h => by cases h) hK hP hD hS hA 0 rfl (65537, .inl (fun _ => 0)) (fun _ => rfl) (by decide +kernel) (by decide +kernel) (Nat.le_of_ble_eq_true rfl) (Nat.le_of_ble_eq_true rfl) (Nat.le_of_ble_eq_true rfl) d_Cd_init_15 (fun q2 H hP hD hS => ?_)
  have hP : va_P D kl [(h0, .inr (2, [.ref q1, .null, .null, .null, .int 0, .null, .null, .null, .null, .null, .int 0, .null, .int 0])), (q1, .inl (cI, 65537, .inl (fun _ => 0))), (q2, .inl (cI, 65537, .inl (fun _ => 0)))] H := hP
  have hD : va_D A [(h0, .inr (2, [.ref q1, .null, .null, .null, .int 0, .null, .null, .null, .null, .null, .int 0, .null, .int 0])), (q1, .inl (cI, 65537, .inl (fun _ => 0))), (q2, .inl (cI, 65537, .inl (fun _ => 0)))] := hD
  refine W.widen (k := 2) (n := 131074) (Nat.le_of_ble_eq_true rfl) (Nat.le_of_ble_eq_true rfl) ?_
  refine va_putF (D := D) (ci := 2) (v := .ref q2) (ty := .array .int) (C := R_Cd) (T := T_Cd) (N := 13) hx hb hG gi_Cd ty_Cd to_Cd nm_Cd hown hK hP hD hS 0 rfl rfl 1 (by decide) (hG _ fl_Cd_16) (fun _ h9 => h9) rfl hin rfl (by decide +kernel) rfl rfl (Nat.le_of_ble_eq_true rfl) d_Cd_init_17 (fun H locs hP hD hS => ?_)
  have hP : va_P D kl [(h0, .inr (2, [.ref q1, .ref q2, .null, .null, .int 0, .null, .null, .null, .null, .null, .int 0, .null, .int 0])), (q1, .inl (cI, 65537, .inl (fun _ => 0))), (q2, .inl (cI, 65537, .inl (fun _ => 0)))] H := hP
  have hD : va_D A [(h0, .inr (2, [.ref q1, .ref q2, .null, .null, .int 0, .null, .null, .null, .null, .null, .int 0, .null, .int 0])), (q1, .inl (cI, 65537, .inl (fun _ => 0))), (q2, .inl (cI, 65537, .inl (fun _ => 0)))] := hD
  refine lv_aload_n hx hb d_Cd_init_20 rfl (lv_at hl 0 rfl) ?_
  refine lv_ldc (v := 65537) hx hb hown (hG _ ct_Cd_9) d_Cd_init_21 ?_
  refine ra_new (atype := .int) (D := D) hx hb (hG _ ac_int) rfl (fun _ h => by cases h) hK hP hD hS hA 0 rfl (65537, .inl (fun _ => 0)) (fun _ => rfl) (by decide +kernel) (by decide +kernel) (Nat.le_of_ble_eq_true rfl) (Nat.le_of_ble_eq_true rfl) (Nat.le_of_ble_eq_true rfl) d_Cd_init_23 (fun q3 H hP hD hS => ?_)
  have hP : va_P D kl [(h0, .inr (2, [.ref q1, .ref q2, .null, .null, .int 0, .null, .null, .null, .null, .null, .int 0, .null, .int 0])), (q1, .inl (cI, 65537, .inl (fun _ => 0))), (q2, .inl (cI, 65537, .inl (fun _ => 0))), (q3, .inl (cI, 65537, .inl (fun _ => 0)))] H := hP
  have hD : va_D A [(h0, .inr (2, [.ref q1, .ref q2, .null, .null, .int 0, .null, .null, .null, .null, .null, .int 0, .null, .int 0])), (q1, .inl (cI, 65537, .inl (fun _ => 0))), (q2, .inl (cI, 65537, .inl (fun _ => 0))), (q3, .inl (cI, 65537, .inl (fun _ => 0)))] := hD
  refine W.widen (k := 3) (n := 196611) (Nat.le_of_ble_eq_true rfl) (Nat.le_of_ble_eq_true rfl) ?_
  refine va_putF (D := D) (ci := 2) (v := .ref q3) (ty := .array .int) (C := R_Cd) (T := T_Cd) (N := 13) hx hb hG gi_Cd ty_Cd to_Cd nm_Cd hown hK hP hD hS 0 rfl rfl 2 (by decide) (hG _ fl_Cd_19) (fun _ h9 => h9) rfl hin rfl (by decide +kernel) rfl rfl (Nat.le_of_ble_eq_true rfl) d_Cd_init_25 (fun H locs hP hD hS => ?_)
  have hP : va_P D kl [(h0, .inr (2, [.ref q1, .ref q2, .ref q3, .null, .int 0, .null, .null, .null, .null, .null, .int 0, .null, .int 0])), (q1, .inl (cI, 65537, .inl (fun _ => 0))), (q2, .inl (cI, 65537, .inl (fun _ => 0))), (q3, .inl (cI, 65537, .inl (fun _ => 0)))] H := hP
  have hD : va_D A [(h0, .inr (2, [.ref q1, .ref q2, .ref q3, .null, .int 0, .null, .null, .null, .null, .null, .int 0, .null, .int 0])), (q1, .inl (cI, 65537, .inl (fun _ => 0))), (q2, .inl (cI, 65537, .inl (fun _ => 0))), (q3, .inl (cI, 65537, .inl (fun _ => 0)))] := hD
  refine lv_aload_n hx hb d_Cd_init_28 rfl (lv_at hl 0 rfl) ?_
  refine lv_ldc (v := 65537) hx hb hown (hG _ ct_Cd_9) d_Cd_init_29 ?_
  refine ra_new (atype := .int) (D := D) hx hb (hG _ ac_int) rfl (fun _ h => by cases h) hK hP hD hS hA 0 rfl (65537, .inl (fun _ => 0)) (fun _ => rfl) (by decide +kernel) (by decide +kernel) (Nat.le_of_ble_eq_true rfl) (Nat.le_of_ble_eq_true rfl) (Nat.le_of_ble_eq_true rfl) d_Cd_init_31 (fun q4 H hP hD hS => ?_)
  have hP : va_P D kl [(h0, .inr (2, [.ref q1, .ref q2, .ref q3, .null, .int 0, .null, .null, .null, .null, .null, .int 0, .null, .int 0])), (q1, .inl (cI, 65537, .inl (fun _ => 0))), (q2, .inl (cI, 65537, .inl (fun _ => 0))), (q3, .inl (cI, 65537, .inl (fun _ => 0))), (q4, .inl (cI, 65537, .inl (fun _ => 0)))] H := hP
  have hD : va_D A [(h0, .inr (2, [.ref q1, .ref q2, .ref q3, .null, .int 0, .null, .null, .null, .null, .null, .int 0, .null, .int 0])), (q1, .inl (cI, 65537, .inl (fun _ => 0))), (q2, .inl (cI, 65537, .inl (fun _ => 0))), (q3, .inl (cI, 65537, .inl (fun _ => 0))), (q4, .inl (cI, 65537, .inl (fun _ => 0)))] := hD
  refine W.widen (k := 4) (n := 262148) (Nat.le_of_ble_eq_true rfl) (Nat.le_of_ble_eq_true rfl) ?_
  refine va_putF (D := D) (ci := 2) (v := .ref q4) (ty := .array .int) (C := R_Cd) (T := T_Cd) (N := 13) hx hb hG gi_Cd ty_Cd to_Cd nm_Cd hown hK hP hD hS 0 rfl rfl 3 (by decide) (hG _ fl_Cd_22) (fun _ h9 => h9) rfl hin rfl (by decide +kernel) rfl rfl (Nat.le_of_ble_eq_true rfl) d_Cd_init_33 (fun H locs hP hD hS => ?_)
  have hP : va_P D kl [(h0, .inr (2, [.ref q1, .ref q2, .ref q3, .ref q4, .int 0, .null, .null, .null, .null, .null, .int 0, .null, .int 0])), (q1, .inl (cI, 65537, .inl (fun _ => 0))), (q2, .inl (cI, 65537, .inl (fun _ => 0))), (q3, .inl (cI, 65537, .inl (fun _ => 0))), (q4, .inl (cI, 65537, .inl (fun _ => 0)))] H := hP
  have hD : va_D A [(h0, .inr (2, [.ref q1, .ref q2, .ref q3, .ref q4, .int 0, .null, .null, .null, .null, .null, .int 0, .null, .int 0])), (q1, .inl (cI, 65537, .inl (fun _ => 0))), (q2, .inl (cI, 65537, .inl (fun _ => 0))), (q3, .inl (cI, 65537, .inl (fun _ => 0))), (q4, .inl (cI, 65537, .inl (fun _ => 0)))] := hD
  refine lv_aload_n hx hb d_Cd_init_36 rfl (lv_at hl 0 rfl) ?_
  refine lv_sipush (v := 16385) hx hb d_Cd_init_37 (by decide) ?_
  refine ra_new (atype := .int) (D := D) hx hb (hG _ ac_int) rfl (fun _ h => by cases h) hK hP hD hS hA 0 rfl (16385, .inl (fun _ => 0)) (fun _ => rfl) (by decide +kernel) (by decide +kernel) (Nat.le_of_ble_eq_true rfl) (Nat.le_of_ble_eq_true rfl) (Nat.le_of_ble_eq_true rfl) d_Cd_init_40 (fun q5 H hP hD hS => ?_)
  have hP : va_P D kl [(h0, .inr (2, [.ref q1, .ref q2, .ref q3, .ref q4, .int 0, .null, .null, .null, .null, .null, .int 0, .null, .int 0])), (q1, .inl (cI, 65537, .inl (fun _ => 0))), (q2, .inl (cI, 65537, .inl (fun _ => 0))), (q3, .inl (cI, 65537, .inl (fun _ => 0))), (q4, .inl (cI, 65537, .inl (fun _ => 0))), (q5, .inl (cI, 16385, .inl (fun _ => 0)))] H := hP
  have hD : va_D A [(h0, .inr (2, [.ref q1, .ref q2, .ref q3, .ref q4, .int 0, .null, .null, .null, .null, .null, .int 0, .null, .int 0])), (q1, .inl (cI, 65537, .inl (fun _ => 0))), (q2, .inl (cI, 65537, .inl (fun _ => 0))), (q3, .inl (cI, 65537, .inl (fun _ => 0))), (q4, .inl (cI, 65537, .inl (fun _ => 0))), (q5, .inl (cI, 16385, .inl (fun _ => 0)))] := hD
  refine W.widen (k := 5) (n := 278533) (Nat.le_of_ble_eq_true rfl) (Nat.le_of_ble_eq_true rfl) ?_
  refine va_putF (D := D) (ci := 2) (v := .ref q5) (ty := .array .int) (C := R_Cd) (T := T_Cd) (N := 13) hx hb hG gi_Cd ty_Cd to_Cd nm_Cd hown hK hP hD hS 0 rfl rfl 5 (by decide) (hG _ fl_Cd_25) (fun _ h9 => h9) rfl hin rfl (by decide +kernel) rfl rfl (Nat.le_of_ble_eq_true rfl) d_Cd_init_42 (fun H locs hP hD hS => ?_)
  have hP : va_P D kl [(h0, .inr (2, [.ref q1, .ref q2, .ref q3, .ref q4, .int 0, .ref q5, .null, .null, .null, .null, .int 0, .null, .int 0])), (q1, .inl (cI, 65537, .inl (fun _ => 0))), (q2, .inl (cI, 65537, .inl (fun _ => 0))), (q3, .inl (cI, 65537, .inl (fun _ => 0))), (q4, .inl (cI, 65537, .inl (fun _ => 0))), (q5, .inl (cI, 16385, .inl (fun _ => 0)))] H := hP
  have hD : va_D A [(h0, .inr (2, [.ref q1, .ref q2, .ref q3, .ref q4, .int 0, .ref q5, .null, .null, .null, .null, .int 0, .null, .int 0])), (q1, .inl (cI, 65537, .inl (fun _ => 0))), (q2, .inl (cI, 65537, .inl (fun _ => 0))), (q3, .inl (cI, 65537, .inl (fun _ => 0))), (q4, .inl (cI, 65537, .inl (fun _ => 0))), (q5, .inl (cI, 16385, .inl (fun _ => 0)))] := hD
  refine lv_aload_n hx hb d_Cd_init_45 rfl (lv_at hl 0 rfl) ?_
  refine lv_sipush (v := 16385) hx hb d_Cd_init_46 (by decide) ?_
  refine ra_new (atype := .int) (D := D) hx hb (hG _ ac_int) rfl (fun _ h => by cases h) hK hP hD hS hA 0 rfl (16385, .inl (fun _ => 0)) (fun _ => rfl) (by decide +kernel) (by decide +kernel) (Nat.le_of_ble_eq_true rfl) (Nat.le_of_ble_eq_true rfl) (Nat.le_of_ble_eq_true rfl) d_Cd_init_49 (fun q6 H hP hD hS => ?_)
  have hP : va_P D kl [(h0, .inr (2, [.ref q1, .ref q2, .ref q3, .ref q4, .int 0, .ref q5, .null, .null, .null, .null, .int 0, .null, .int 0])), (q1, .inl (cI, 65537, .inl (fun _ => 0))), (q2, .inl (cI, 65537, .inl (fun _ => 0))), (q3, .inl (cI, 65537, .inl (fun _ => 0))), (q4, .inl (cI, 65537, .inl (fun _ => 0))), (q5, .inl (cI, 16385, .inl (fun _ => 0))), (q6, .inl (cI, 16385, .inl (fun _ => 0)))] H := hP
  have hD : va_D A [(h0, .inr (2, [.ref q1, .ref q2, .ref q3, .ref q4, .int 0, .ref q5, .null, .null, .null, .null, .int 0, .null, .int 0])), (q1, .inl (cI, 65537, .inl (fun _ => 0))), (q2, .inl (cI, 65537, .inl (fun _ => 0))), (q3, .inl (cI, 65537, .inl (fun _ => 0))), (q4, .inl (cI, 65537, .inl (fun _ => 0))), (q5, .inl (cI, 16385, .inl (fun _ => 0))), (q6, .inl (cI, 16385, .inl (fun _ => 0)))] := hD
  refine W.widen (k := 6) (n := 294918) (Nat.le_of_ble_eq_true rfl) (Nat.le_of_ble_eq_true rfl) ?_
  refine va_putF (D := D) (ci := 2) (v := .ref q6) (ty := .array .int) (C := R_Cd) (T := T_Cd) (N := 13) hx hb hG gi_Cd ty_Cd to_Cd nm_Cd hown hK hP hD hS 0 rfl rfl 6 (by decide) (hG _ fl_Cd_28) (fun _ h9 => h9) rfl hin rfl (by decide +kernel) rfl rfl (Nat.le_of_ble_eq_true rfl) d_Cd_init_51 (fun H locs hP hD hS => ?_)
  have hP : va_P D kl [(h0, .inr (2, [.ref q1, .ref q2, .ref q3, .ref q4, .int 0, .ref q5, .ref q6, .null, .null, .null, .int 0, .null, .int 0])), (q1, .inl (cI, 65537, .inl (fun _ => 0))), (q2, .inl (cI, 65537, .inl (fun _ => 0))), (q3, .inl (cI, 65537, .inl (fun _ => 0))), (q4, .inl (cI, 65537, .inl (fun _ => 0))), (q5, .inl (cI, 16385, .inl (fun _ => 0))), (q6, .inl (cI, 16385, .inl (fun _ => 0)))] H := hP
  have hD : va_D A [(h0, .inr (2, [.ref q1, .ref q2, .ref q3, .ref q4, .int 0, .ref q5, .ref q6, .null, .null, .null, .int 0, .null, .int 0])), (q1, .inl (cI, 65537, .inl (fun _ => 0))), (q2, .inl (cI, 65537, .inl (fun _ => 0))), (q3, .inl (cI, 65537, .inl (fun _ => 0))), (q4, .inl (cI, 65537, .inl (fun _ => 0))), (q5, .inl (cI, 16385, .inl (fun _ => 0))), (q6, .inl (cI, 16385, .inl (fun _ => 0)))] := hD
  refine lv_aload_n hx hb d_Cd_init_54 rfl (lv_at hl 0 rfl) ?_
  refine lv_sipush (v := 16385) hx hb d_Cd_init_55 (by decide) ?_
  refine ra_new (atype := .int) (D := D) hx hb (hG _ ac_int) rfl (fun _ h => by cases h) hK hP hD hS hA 0 rfl (16385, .inl (fun _ => 0)) (fun _ => rfl) (by decide +kernel) (by decide +kernel) (Nat.le_of_ble_eq_true rfl) (Nat.le_of_ble_eq_true rfl) (Nat.le_of_ble_eq_true rfl) d_Cd_init_58 (fun q7 H hP hD hS => ?_)
  have hP : va_P D kl [(h0, .inr (2, [.ref q1, .ref q2, .ref q3, .ref q4, .int 0, .ref q5, .ref q6, .null, .null, .null, .int 0, .null, .int 0])), (q1, .inl (cI, 65537, .inl (fun _ => 0))), (q2, .inl (cI, 65537, .inl (fun _ => 0))), (q3, .inl (cI, 65537, .inl (fun _ => 0))), (q4, .inl (cI, 65537, .inl (fun _ => 0))), (q5, .inl (cI, 16385, .inl (fun _ => 0))), (q6, .inl (cI, 16385, .inl (fun _ => 0))), (q7, .inl (cI, 16385, .inl (fun _ => 0)))] H := hP
  have hD : va_D A [(h0, .inr (2, [.ref q1, .ref q2, .ref q3, .ref q4, .int 0, .ref q5, .ref q6, .null, .null, .null, .int 0, .null, .int 0])), (q1, .inl (cI, 65537, .inl (fun _ => 0))), (q2, .inl (cI, 65537, .inl (fun _ => 0))), (q3, .inl (cI, 65537, .inl (fun _ => 0))), (q4, .inl (cI, 65537, .inl (fun _ => 0))), (q5, .inl (cI, 16385, .inl (fun _ => 0))), (q6, .inl (cI, 16385, .inl (fun _ => 0))), (q7, .inl (cI, 16385, .inl (fun _ => 0)))] := hD
  refine W.widen (k := 7) (n := 311303) (Nat.le_of_ble_eq_true rfl) (Nat.le_of_ble_eq_true rfl) ?_
  refine va_putF (D := D) (ci := 2) (v := .ref q7) (ty := .array .int) (C := R_Cd) (T := T_Cd) (N := 13) hx hb hG gi_Cd ty_Cd to_Cd nm_Cd hown hK hP hD hS 0 rfl rfl 7 (by decide) (hG _ fl_Cd_31) (fun _ h9 => h9) rfl hin rfl (by decide +kernel) rfl rfl (Nat.le_of_ble_eq_true rfl) d_Cd_init_60 (fun H locs hP hD hS => ?_)
  have hP : va_P D kl [(h0, .inr (2, [.ref q1, .ref q2, .ref q3, .ref q4, .int 0, .ref q5, .ref q6, .ref q7, .null, .null, .int 0, .null, .int 0])), (q1, .inl (cI, 65537, .inl (fun _ => 0))), (q2, .inl (cI, 65537, .inl (fun _ => 0))), (q3, .inl (cI, 65537, .inl (fun _ => 0))), (q4, .inl (cI, 65537, .inl (fun _ => 0))), (q5, .inl (cI, 16385, .inl (fun _ => 0))), (q6, .inl (cI, 16385, .inl (fun _ => 0))), (q7, .inl (cI, 16385, .inl (fun _ => 0)))] H := hP
  have hD : va_D A [(h0, .inr (2, [.ref q1, .ref q2, .ref q3, .ref q4, .int 0, .ref q5, .ref q6, .ref q7, .null, .null, .int 0, .null, .int 0])), (q1, .inl (cI, 65537, .inl (fun _ => 0))), (q2, .inl (cI, 65537, .inl (fun _ => 0))), (q3, .inl (cI, 65537, .inl (fun _ => 0))), (q4, .inl (cI, 65537, .inl (fun _ => 0))), (q5, .inl (cI, 16385, .inl (fun _ => 0))), (q6, .inl (cI, 16385, .inl (fun _ => 0))), (q7, .inl (cI, 16385, .inl (fun _ => 0)))] := hD
  refine lv_aload_n hx hb d_Cd_init_63 rfl (lv_at hl 0 rfl) ?_
  refine lv_sipush (v := 16385) hx hb d_Cd_init_64 (by decide) ?_
  refine ra_new (atype := .int) (D := D) hx hb (hG _ ac_int) rfl (fun _ h => by cases h) hK hP hD hS hA 0 rfl (16385, .inl (fun _ => 0)) (fun _ => rfl) (by decide +kernel) (by decide +kernel) (Nat.le_of_ble_eq_true rfl) (Nat.le_of_ble_eq_true rfl) (Nat.le_of_ble_eq_true rfl) d_Cd_init_67 (fun q8 H hP hD hS => ?_)
  have hP : va_P D kl [(h0, .inr (2, [.ref q1, .ref q2, .ref q3, .ref q4, .int 0, .ref q5, .ref q6, .ref q7, .null, .null, .int 0, .null, .int 0])), (q1, .inl (cI, 65537, .inl (fun _ => 0))), (q2, .inl (cI, 65537, .inl (fun _ => 0))), (q3, .inl (cI, 65537, .inl (fun _ => 0))), (q4, .inl (cI, 65537, .inl (fun _ => 0))), (q5, .inl (cI, 16385, .inl (fun _ => 0))), (q6, .inl (cI, 16385, .inl (fun _ => 0))), (q7, .inl (cI, 16385, .inl (fun _ => 0))), (q8, .inl (cI, 16385, .inl (fun _ => 0)))] H := hP
  have hD : va_D A [(h0, .inr (2, [.ref q1, .ref q2, .ref q3, .ref q4, .int 0, .ref q5, .ref q6, .ref q7, .null, .null, .int 0, .null, .int 0])), (q1, .inl (cI, 65537, .inl (fun _ => 0))), (q2, .inl (cI, 65537, .inl (fun _ => 0))), (q3, .inl (cI, 65537, .inl (fun _ => 0))), (q4, .inl (cI, 65537, .inl (fun _ => 0))), (q5, .inl (cI, 16385, .inl (fun _ => 0))), (q6, .inl (cI, 16385, .inl (fun _ => 0))), (q7, .inl (cI, 16385, .inl (fun _ => 0))), (q8, .inl (cI, 16385, .inl (fun _ => 0)))] := hD
  refine W.widen (k := 8) (n := 327688) (Nat.le_of_ble_eq_true rfl) (Nat.le_of_ble_eq_true rfl) ?_
  refine va_putF (D := D) (ci := 2) (v := .ref q8) (ty := .array .int) (C := R_Cd) (T := T_Cd) (N := 13) hx hb hG gi_Cd ty_Cd to_Cd nm_Cd hown hK hP hD hS 0 rfl rfl 8 (by decide) (hG _ fl_Cd_34) (fun _ h9 => h9) rfl hin rfl (by decide +kernel) rfl rfl (Nat.le_of_ble_eq_true rfl) d_Cd_init_69 (fun H locs hP hD hS => ?_)
  have hP : va_P D kl [(h0, .inr (2, [.ref q1, .ref q2, .ref q3, .ref q4, .int 0, .ref q5, .ref q6, .ref q7, .ref q8, .null, .int 0, .null, .int 0])), (q1, .inl (cI, 65537, .inl (fun _ => 0))), (q2, .inl (cI, 65537, .inl (fun _ => 0))), (q3, .inl (cI, 65537, .inl (fun _ => 0))), (q4, .inl (cI, 65537, .inl (fun _ => 0))), (q5, .inl (cI, 16385, .inl (fun _ => 0))), (q6, .inl (cI, 16385, .inl (fun _ => 0))), (q7, .inl (cI, 16385, .inl (fun _ => 0))), (q8, .inl (cI, 16385, .inl (fun _ => 0)))] H := hP
  have hD : va_D A [(h0, .inr (2, [.ref q1, .ref q2, .ref q3, .ref q4, .int 0, .ref q5, .ref q6, .ref q7, .ref q8, .null, .int 0, .null, .int 0])), (q1, .inl (cI, 65537, .inl (fun _ => 0))), (q2, .inl (cI, 65537, .inl (fun _ => 0))), (q3, .inl (cI, 65537, .inl (fun _ => 0))), (q4, .inl (cI, 65537, .inl (fun _ => 0))), (q5, .inl (cI, 16385, .inl (fun _ => 0))), (q6, .inl (cI, 16385, .inl (fun _ => 0))), (q7, .inl (cI, 16385, .inl (fun _ => 0))), (q8, .inl (cI, 16385, .inl (fun _ => 0)))] := hD
  refine lv_aload_n hx hb d_Cd_init_72 rfl (lv_at hl 0 rfl) ?_
  refine lv_sipush (v := 16385) hx hb d_Cd_init_73 (by decide) ?_
  refine ra_new (atype := .int) (D := D) hx hb (hG _ ac_int) rfl (fun _ h => by cases h) hK hP hD hS hA 0 rfl (16385, .inl (fun _ => 0)) (fun _ => rfl) (by decide +kernel) (by decide +kernel) (Nat.le_of_ble_eq_true rfl) (Nat.le_of_ble_eq_true rfl) (Nat.le_of_ble_eq_true rfl) d_Cd_init_76 (fun q9 H hP hD hS => ?_)
  have hP : va_P D kl [(h0, .inr (2, [.ref q1, .ref q2, .ref q3, .ref q4, .int 0, .ref q5, .ref q6, .ref q7, .ref q8, .null, .int 0, .null, .int 0])), (q1, .inl (cI, 65537, .inl (fun _ => 0))), (q2, .inl (cI, 65537, .inl (fun _ => 0))), (q3, .inl (cI, 65537, .inl (fun _ => 0))), (q4, .inl (cI, 65537, .inl (fun _ => 0))), (q5, .inl (cI, 16385, .inl (fun _ => 0))), (q6, .inl (cI, 16385, .inl (fun _ => 0))), (q7, .inl (cI, 16385, .inl (fun _ => 0))), (q8, .inl (cI, 16385, .inl (fun _ => 0))), (q9, .inl (cI, 16385, .inl (fun _ => 0)))] H := hP
  have hD : va_D A [(h0, .inr (2, [.ref q1, .ref q2, .ref q3, .ref q4, .int 0, .ref q5, .ref q6, .ref q7, .ref q8, .null, .int 0, .null, .int 0])), (q1, .inl (cI, 65537, .inl (fun _ => 0))), (q2, .inl (cI, 65537, .inl (fun _ => 0))), (q3, .inl (cI, 65537, .inl (fun _ => 0))), (q4, .inl (cI, 65537, .inl (fun _ => 0))), (q5, .inl (cI, 16385, .inl (fun _ => 0))), (q6, .inl (cI, 16385, .inl (fun _ => 0))), (q7, .inl (cI, 16385, .inl (fun _ => 0))), (q8, .inl (cI, 16385, .inl (fun _ => 0))), (q9, .inl (cI, 16385, .inl (fun _ => 0)))] := hD
  refine W.widen (k := 9) (n := 344073) (Nat.le_of_ble_eq_true rfl) (Nat.le_of_ble_eq_true rfl) ?_
  refine va_putF (D := D) (ci := 2) (v := .ref q9) (ty := .array .int) (C := R_Cd) (T := T_Cd) (N := 13) hx hb hG gi_Cd ty_Cd to_Cd nm_Cd hown hK hP hD hS 0 rfl rfl 9 (by decide) (hG _ fl_Cd_37) (fun _ h9 => h9) rfl hin rfl (by decide +kernel) rfl rfl (Nat.le_of_ble_eq_true rfl) d_Cd_init_78 (fun H locs hP hD hS => ?_)
  have hP : va_P D kl [(h0, .inr (2, [.ref q1, .ref q2, .ref q3, .ref q4, .int 0, .ref q5, .ref q6, .ref q7, .ref q8, .ref q9, .int 0, .null, .int 0])), (q1, .inl (cI, 65537, .inl (fun _ => 0))), (q2, .inl (cI, 65537, .inl (fun _ => 0))), (q3, .inl (cI, 65537, .inl (fun _ => 0))), (q4, .inl (cI, 65537, .inl (fun _ => 0))), (q5, .inl (cI, 16385, .inl (fun _ => 0))), (q6, .inl (cI, 16385, .inl (fun _ => 0))), (q7, .inl (cI, 16385, .inl (fun _ => 0))), (q8, .inl (cI, 16385, .inl (fun _ => 0))), (q9, .inl (cI, 16385, .inl (fun _ => 0)))] H := hP
  have hD : va_D A [(h0, .inr (2, [.ref q1, .ref q2, .ref q3, .ref q4, .int 0, .ref q5, .ref q6, .ref q7, .ref q8, .ref q9, .int 0, .null, .int 0])), (q1, .inl (cI, 65537, .inl (fun _ => 0))), (q2, .inl (cI, 65537, .inl (fun _ => 0))), (q3, .inl (cI, 65537, .inl (fun _ => 0))), (q4, .inl (cI, 65537, .inl (fun _ => 0))), (q5, .inl (cI, 16385, .inl (fun _ => 0))), (q6, .inl (cI, 16385, .inl (fun _ => 0))), (q7, .inl (cI, 16385, .inl (fun _ => 0))), (q8, .inl (cI, 16385, .inl (fun _ => 0))), (q9, .inl (cI, 16385, .inl (fun _ => 0)))] := hD
  refine lv_aload_n hx hb d_Cd_init_81 rfl (lv_at hl 0 rfl) ?_
  refine lv_ldc (v := 32769) hx hb hown (hG _ ct_Cd_40) d_Cd_init_82 ?_
  refine ra_new (atype := .int) (D := D) hx hb (hG _ ac_int) rfl (fun _ h => by cases h) hK hP hD hS hA 0 rfl (32769, .inl (fun _ => 0)) (fun _ => rfl) (by decide +kernel) (by decide +kernel) (Nat.le_of_ble_eq_true rfl) (Nat.le_of_ble_eq_true rfl) (Nat.le_of_ble_eq_true rfl) d_Cd_init_84 (fun q10 H hP hD hS => ?_)
  have hP : va_P D kl [(h0, .inr (2, [.ref q1, .ref q2, .ref q3, .ref q4, .int 0, .ref q5, .ref q6, .ref q7, .ref q8, .ref q9, .int 0, .null, .int 0])), (q1, .inl (cI, 65537, .inl (fun _ => 0))), (q2, .inl (cI, 65537, .inl (fun _ => 0))), (q3, .inl (cI, 65537, .inl (fun _ => 0))), (q4, .inl (cI, 65537, .inl (fun _ => 0))), (q5, .inl (cI, 16385, .inl (fun _ => 0))), (q6, .inl (cI, 16385, .inl (fun _ => 0))), (q7, .inl (cI, 16385, .inl (fun _ => 0))), (q8, .inl (cI, 16385, .inl (fun _ => 0))), (q9, .inl (cI, 16385, .inl (fun _ => 0))), (q10, .inl (cI, 32769, .inl (fun _ => 0)))] H := hP
  have hD : va_D A [(h0, .inr (2, [.ref q1, .ref q2, .ref q3, .ref q4, .int 0, .ref q5, .ref q6, .ref q7, .ref q8, .ref q9, .int 0, .null, .int 0])), (q1, .inl (cI, 65537, .inl (fun _ => 0))), (q2, .inl (cI, 65537, .inl (fun _ => 0))), (q3, .inl (cI, 65537, .inl (fun _ => 0))), (q4, .inl (cI, 65537, .inl (fun _ => 0))), (q5, .inl (cI, 16385, .inl (fun _ => 0))), (q6, .inl (cI, 16385, .inl (fun _ => 0))), (q7, .inl (cI, 16385, .inl (fun _ => 0))), (q8, .inl (cI, 16385, .inl (fun _ => 0))), (q9, .inl (cI, 16385, .inl (fun _ => 0))), (q10, .inl (cI, 32769, .inl (fun _ => 0)))] := hD
  refine W.widen (k := 10) (n := 376842) (Nat.le_of_ble_eq_true rfl) (Nat.le_of_ble_eq_true rfl) ?_
  refine va_putF (D := D) (ci := 2) (v := .ref q10) (ty := .array .int) (C := R_Cd) (T := T_Cd) (N := 13) hx hb hG gi_Cd ty_Cd to_Cd nm_Cd hown hK hP hD hS 0 rfl rfl 11 (by decide) (hG _ fl_Cd_41) (fun _ h9 => h9) rfl hin rfl (by decide +kernel) rfl rfl (Nat.le_of_ble_eq_true rfl) d_Cd_init_86 (fun H locs hP hD hS => ?_)
  have hP : va_P D kl [(h0, .inr (2, [.ref q1, .ref q2, .ref q3, .ref q4, .int 0, .ref q5, .ref q6, .ref q7, .ref q8, .ref q9, .int 0, .ref q10, .int 0])), (q1, .inl (cI, 65537, .inl (fun _ => 0))), (q2, .inl (cI, 65537, .inl (fun _ => 0))), (q3, .inl (cI, 65537, .inl (fun _ => 0))), (q4, .inl (cI, 65537, .inl (fun _ => 0))), (q5, .inl (cI, 16385, .inl (fun _ => 0))), (q6, .inl (cI, 16385, .inl (fun _ => 0))), (q7, .inl (cI, 16385, .inl (fun _ => 0))), (q8, .inl (cI, 16385, .inl (fun _ => 0))), (q9, .inl (cI, 16385, .inl (fun _ => 0))), (q10, .inl (cI, 32769, .inl (fun _ => 0)))] H := hP
  have hD : va_D A [(h0, .inr (2, [.ref q1, .ref q2, .ref q3, .ref q4, .int 0, .ref q5, .ref q6, .ref q7, .ref q8, .ref q9, .int 0, .ref q10, .int 0])), (q1, .inl (cI, 65537, .inl (fun _ => 0))), (q2, .inl (cI, 65537, .inl (fun _ => 0))), (q3, .inl (cI, 65537, .inl (fun _ => 0))), (q4, .inl (cI, 65537, .inl (fun _ => 0))), (q5, .inl (cI, 16385, .inl (fun _ => 0))), (q6, .inl (cI, 16385, .inl (fun _ => 0))), (q7, .inl (cI, 16385, .inl (fun _ => 0))), (q8, .inl (cI, 16385, .inl (fun _ => 0))), (q9, .inl (cI, 16385, .inl (fun _ => 0))), (q10, .inl (cI, 32769, .inl (fun _ => 0)))] := hD
  exact W.vret hx hb hr (fun t ht hW => ⟨⟨(), rfl, trivial, q1, q2, q3, q4, q5, q6, q7, q8, q9, q10, by rw [ht]; exact hP, hD⟩, hS.F ht⟩) hS.2.2 d_Cd_init_89

