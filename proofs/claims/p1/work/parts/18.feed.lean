/-! feed and fault of the class -/
/-- byte j of v, the highest first -/
def fb (v : Int32) (j : Nat) : Int32 := match j with
  | 0 => (v >>> (24 &&& 31)).toInt8.toInt32
  | 1 => (v >>> (16 &&& 31)).toInt8.toInt32
  | 2 => (v >>> (8 &&& 31)).toInt8.toInt32
  | _ => v.toInt8.toInt32
/-- four bytes of v from place n on -/
def ap4 (f : Nat → Int32) (n : Nat) (v : Int32) : Nat → Int32 := fun q => if n ≤ q ∧ q < n + 4 then fb v (q - n) else f q
theorem d_S_append_0 : decode b_S_append 0 = .ok (.aload_n 0, 1) := by decide +kernel
theorem d_S_append_1 : decode b_S_append 1 = .ok (.getfield 22, 3) := by decide +kernel
theorem d_S_append_4 : decode b_S_append 4 = .ok (.aload_n 0, 1) := by decide +kernel
theorem d_S_append_5 : decode b_S_append 5 = .ok (.getfield 100, 3) := by decide +kernel
theorem d_S_append_8 : decode b_S_append 8 = .ok (.iload_n 1, 1) := by decide +kernel
theorem d_S_append_9 : decode b_S_append 9 = .ok (.bipush 24, 2) := by decide +kernel
theorem d_S_append_11 : decode b_S_append 11 = .ok (.ishr, 1) := by decide +kernel
theorem d_S_append_12 : decode b_S_append 12 = .ok (.i2b, 1) := by decide +kernel
theorem d_S_append_13 : decode b_S_append 13 = .ok (.bastore, 1) := by decide +kernel
theorem d_S_append_14 : decode b_S_append 14 = .ok (.aload_n 0, 1) := by decide +kernel
theorem d_S_append_15 : decode b_S_append 15 = .ok (.getfield 22, 3) := by decide +kernel
theorem d_S_append_18 : decode b_S_append 18 = .ok (.aload_n 0, 1) := by decide +kernel
theorem d_S_append_19 : decode b_S_append 19 = .ok (.getfield 100, 3) := by decide +kernel
theorem d_S_append_22 : decode b_S_append 22 = .ok (.iconst 1, 1) := by decide +kernel
theorem d_S_append_23 : decode b_S_append 23 = .ok (.iadd, 1) := by decide +kernel
theorem d_S_append_24 : decode b_S_append 24 = .ok (.iload_n 1, 1) := by decide +kernel
theorem d_S_append_25 : decode b_S_append 25 = .ok (.bipush 16, 2) := by decide +kernel
theorem d_S_append_27 : decode b_S_append 27 = .ok (.ishr, 1) := by decide +kernel
theorem d_S_append_28 : decode b_S_append 28 = .ok (.i2b, 1) := by decide +kernel
theorem d_S_append_29 : decode b_S_append 29 = .ok (.bastore, 1) := by decide +kernel
theorem d_S_append_30 : decode b_S_append 30 = .ok (.aload_n 0, 1) := by decide +kernel
theorem d_S_append_31 : decode b_S_append 31 = .ok (.getfield 22, 3) := by decide +kernel
theorem d_S_append_34 : decode b_S_append 34 = .ok (.aload_n 0, 1) := by decide +kernel
theorem d_S_append_35 : decode b_S_append 35 = .ok (.getfield 100, 3) := by decide +kernel
theorem d_S_append_38 : decode b_S_append 38 = .ok (.iconst 2, 1) := by decide +kernel
theorem d_S_append_39 : decode b_S_append 39 = .ok (.iadd, 1) := by decide +kernel
theorem d_S_append_40 : decode b_S_append 40 = .ok (.iload_n 1, 1) := by decide +kernel
theorem d_S_append_41 : decode b_S_append 41 = .ok (.bipush 8, 2) := by decide +kernel
theorem d_S_append_43 : decode b_S_append 43 = .ok (.ishr, 1) := by decide +kernel
theorem d_S_append_44 : decode b_S_append 44 = .ok (.i2b, 1) := by decide +kernel
theorem d_S_append_45 : decode b_S_append 45 = .ok (.bastore, 1) := by decide +kernel
theorem d_S_append_46 : decode b_S_append 46 = .ok (.aload_n 0, 1) := by decide +kernel
theorem d_S_append_47 : decode b_S_append 47 = .ok (.getfield 22, 3) := by decide +kernel
theorem d_S_append_50 : decode b_S_append 50 = .ok (.aload_n 0, 1) := by decide +kernel
theorem d_S_append_51 : decode b_S_append 51 = .ok (.getfield 100, 3) := by decide +kernel
theorem d_S_append_54 : decode b_S_append 54 = .ok (.iconst 3, 1) := by decide +kernel
theorem d_S_append_55 : decode b_S_append 55 = .ok (.iadd, 1) := by decide +kernel
theorem d_S_append_56 : decode b_S_append 56 = .ok (.iload_n 1, 1) := by decide +kernel
theorem d_S_append_57 : decode b_S_append 57 = .ok (.i2b, 1) := by decide +kernel
theorem d_S_append_58 : decode b_S_append 58 = .ok (.bastore, 1) := by decide +kernel
theorem d_S_append_59 : decode b_S_append 59 = .ok (.aload_n 0, 1) := by decide +kernel
theorem d_S_append_60 : decode b_S_append 60 = .ok (.dup, 1) := by decide +kernel
theorem d_S_append_61 : decode b_S_append 61 = .ok (.getfield 100, 3) := by decide +kernel
theorem d_S_append_64 : decode b_S_append 64 = .ok (.iconst 4, 1) := by decide +kernel
theorem d_S_append_65 : decode b_S_append 65 = .ok (.iadd, 1) := by decide +kernel
theorem d_S_append_66 : decode b_S_append 66 = .ok (.putfield 100, 3) := by decide +kernel
theorem d_S_append_69 : decode b_S_append 69 = .ok (.return_, 1) := by decide +kernel
theorem d_S_feed_0 : decode b_S_feed 0 = .ok (.aload_n 0, 1) := by decide +kernel
theorem d_S_feed_1 : decode b_S_feed 1 = .ok (.getfield 100, 3) := by decide +kernel
theorem d_S_feed_4 : decode b_S_feed 4 = .ok (.bipush 20, 2) := by decide +kernel
theorem d_S_feed_6 : decode b_S_feed 6 = .ok (.iadd, 1) := by decide +kernel
theorem d_S_feed_7 : decode b_S_feed 7 = .ok (.ldc 13, 2) := by decide +kernel
theorem d_S_feed_9 : decode b_S_feed 9 = .ok (.if_icmp .le 11, 3) := by decide +kernel
theorem d_S_feed_12 : decode b_S_feed 12 = .ok (.new 103, 3) := by decide +kernel
theorem d_S_feed_15 : decode b_S_feed 15 = .ok (.dup, 1) := by decide +kernel
theorem d_S_feed_16 : decode b_S_feed 16 = .ok (.invokespecial 105, 3) := by decide +kernel
theorem d_S_feed_19 : decode b_S_feed 19 = .ok (.athrow, 1) := by decide +kernel
theorem d_S_feed_20 : decode b_S_feed 20 = .ok (.aload_n 0, 1) := by decide +kernel
theorem d_S_feed_21 : decode b_S_feed 21 = .ok (.iload_n 1, 1) := by decide +kernel
theorem d_S_feed_22 : decode b_S_feed 22 = .ok (.invokevirtual 106, 3) := by decide +kernel
theorem d_S_feed_25 : decode b_S_feed 25 = .ok (.aload_n 0, 1) := by decide +kernel
theorem d_S_feed_26 : decode b_S_feed 26 = .ok (.iload_n 2, 1) := by decide +kernel
theorem d_S_feed_27 : decode b_S_feed 27 = .ok (.invokevirtual 106, 3) := by decide +kernel
theorem d_S_feed_30 : decode b_S_feed 30 = .ok (.aload_n 0, 1) := by decide +kernel
theorem d_S_feed_31 : decode b_S_feed 31 = .ok (.iload_n 3, 1) := by decide +kernel
theorem d_S_feed_32 : decode b_S_feed 32 = .ok (.invokevirtual 106, 3) := by decide +kernel
theorem d_S_feed_35 : decode b_S_feed 35 = .ok (.aload_n 0, 1) := by decide +kernel
theorem d_S_feed_36 : decode b_S_feed 36 = .ok (.iload 4, 2) := by decide +kernel
theorem d_S_feed_38 : decode b_S_feed 38 = .ok (.invokevirtual 106, 3) := by decide +kernel
theorem d_S_feed_41 : decode b_S_feed 41 = .ok (.aload_n 0, 1) := by decide +kernel
theorem d_S_feed_42 : decode b_S_feed 42 = .ok (.iload 5, 2) := by decide +kernel
theorem d_S_feed_44 : decode b_S_feed 44 = .ok (.invokevirtual 106, 3) := by decide +kernel
theorem d_S_feed_47 : decode b_S_feed 47 = .ok (.aload_n 0, 1) := by decide +kernel
theorem d_S_feed_48 : decode b_S_feed 48 = .ok (.getfield 100, 3) := by decide +kernel
theorem d_S_feed_51 : decode b_S_feed 51 = .ok (.ireturn, 1) := by decide +kernel
theorem d_S_fault_0 : decode b_S_fault 0 = .ok (.iload_n 1, 1) := by decide +kernel
theorem d_S_fault_1 : decode b_S_fault 1 = .ok (.lookupswitch 43 #[(0, 27), (1, 35)], 27) := by decide +kernel
theorem d_S_fault_28 : decode b_S_fault 28 = .ok (.aload_n 0, 1) := by decide +kernel
theorem d_S_fault_29 : decode b_S_fault 29 = .ok (.getfield 39, 3) := by decide +kernel
theorem d_S_fault_32 : decode b_S_fault 32 = .ok (.getfield 136, 3) := by decide +kernel
theorem d_S_fault_35 : decode b_S_fault 35 = .ok (.ireturn, 1) := by decide +kernel
theorem d_S_fault_36 : decode b_S_fault 36 = .ok (.aload_n 0, 1) := by decide +kernel
theorem d_S_fault_37 : decode b_S_fault 37 = .ok (.getfield 39, 3) := by decide +kernel
theorem d_S_fault_40 : decode b_S_fault 40 = .ok (.getfield 167, 3) := by decide +kernel
theorem d_S_fault_43 : decode b_S_fault 43 = .ok (.ireturn, 1) := by decide +kernel
theorem d_S_fault_44 : decode b_S_fault 44 = .ok (.iconst (-1), 1) := by decide +kernel
theorem d_S_fault_45 : decode b_S_fault 45 = .ok (.ireturn, 1) := by decide +kernel
theorem ap4_eq {f : Nat → Int32} {n : Nat} {v : Int32} (hn : n + 4 ≤ 65536) : (upd (upd (upd (upd f (nI n).toNatClampNeg (vp_nar .byte ((v >>> (24 &&& 31)).toInt8.toInt32))) ((nI n) + 1).toNatClampNeg (vp_nar .byte ((v >>> (16 &&& 31)).toInt8.toInt32))) ((nI n) + 2).toNatClampNeg (vp_nar .byte ((v >>> (8 &&& 31)).toInt8.toInt32))) ((nI n) + 3).toNatClampNeg (vp_nar .byte (v.toInt8.toInt32))) = ap4 f n v := by
  have e1 : nI n + 1 = nI (n + 1) := (nI_succ n).symm
  have e2 : nI n + 2 = nI (n + 2) := by rw [← nI_add]; rfl
  have e3 : nI n + 3 = nI (n + 3) := by rw [← nI_add]; rfl
  rw [e1, e2, e3, nI_clamp (by omega), nI_clamp (by omega), nI_clamp (by omega), nI_clamp (by omega), pk_vb, pk_vb, pk_vb, pk_vb]
  funext q
  unfold ap4
  by_cases h3 : q = n + 3
  · subst h3
    rw [pk_us, if_pos (by omega), show n + 3 - n = 3 by omega]
    rfl
  rw [pk_un h3]
  by_cases h2 : q = n + 2
  · subst h2
    rw [pk_us, if_pos (by omega), show n + 2 - n = 2 by omega]
    rfl
  rw [pk_un h2]
  by_cases h1 : q = n + 1
  · subst h1
    rw [pk_us, if_pos (by omega), show n + 1 - n = 1 by omega]
    rfl
  rw [pk_un h1]
  by_cases h0 : q = n
  · subst h0
    rw [pk_us, if_pos (by omega), show q - q = 0 by omega]
    rfl
  rw [pk_un h0, if_neg (by omega)]
set_option maxHeartbeats 4000000 in
set_option maxRecDepth 100000 in
theorem c_S_append (l : Launch) (D : va_G) (cI cB cJ cZ : ClassId) (sz : Nat) (h0 tk nd cd rd sl lk od pg gv tp : Nat) (n : Nat) (ap mn it kp : Int32) (v : Int32) (f : Nat → Int32) (hn : n + 4 ≤ 65536) : Met l y_S_append (Cond.code y_S_append b_S_append 2 none :: gG) { frames := 0, cells := 0, slots := 0, locals := 0 } (va_Pc [.ref h0, .int v] (ct_P D (tyL cI cB cJ cZ) [(h0, .inr (0, [.ref tk, .ref nd, .ref cd, .ref rd, .ref sl, .ref lk, .ref od, .ref pg, .ref gv, .ref tp, .int (nI n), .int ap, .int mn, .int it, .int kp])), (tp, .inl (cB, 65638, .inl f))] sz)) (va_Qv (fun _ : Unit => True) (fun _ t => va_P D kl [(h0, .inr (0, [.ref tk, .ref nd, .ref cd, .ref rd, .ref sl, .ref lk, .ref od, .ref pg, .ref gv, .ref tp, .int (nI (n + 4)), .int ap, .int mn, .int it, .int kp])), (tp, .inl (cB, 65638, .inl (ap4 f n v)))] t.heap ∧ va_D (va_A [(h0, .inr (0, [.ref tk, .ref nd, .ref cd, .ref rd, .ref sl, .ref lk, .ref od, .ref pg, .ref gv, .ref tp, .int (nI n), .int ap, .int mn, .int it, .int kp])), (tp, .inl (cB, 65638, .inl f))] sz) [(h0, .inr (0, [.ref tk, .ref nd, .ref cd, .ref rd, .ref sl, .ref lk, .ref od, .ref pg, .ref gv, .ref tp, .int (nI (n + 4)), .int ap, .int mn, .int it, .int kp])), (tp, .inl (cB, 65638, .inl (ap4 f n v)))]) (va_A [(h0, .inr (0, [.ref tk, .ref nd, .ref cd, .ref rd, .ref sl, .ref lk, .ref od, .ref pg, .ref gv, .ref tp, .int (nI n), .int ap, .int mn, .int it, .int kp])), (tp, .inl (cB, 65638, .inl f))] sz)) 0 0 (va_A [(h0, .inr (0, [.ref tk, .ref nd, .ref cd, .ref rd, .ref sl, .ref lk, .ref od, .ref pg, .ref gv, .ref tp, .int (nI n), .int ap, .int mn, .int it, .int kp])), (tp, .inl (cB, 65638, .inl f))] sz) := by
  refine Met.ofW (cc := b_S_append) (maxL := 2) (ret := none) (by decide) rfl ?_
  intro p e s m args below meth c s₁ B hml hv
  obtain ⟨rfl, hsz, hP, hK, hD0⟩ := hv
  have hx := B.exec
  have hb := B.bytes
  have hr := B.returns
  have hts := atoms_spec (ws := Cond.code y_S_append b_S_append 2 none :: gG) B.pre
  have hG : ∀ w ∈ gG, w.before [.ref h0, .int v].toArray s = true := fun w h => hts w (List.mem_cons_of_mem _ h)
  have hown : s.vm.findClass R_S = some m.cls := findClass_of_methodNamed B.named
  have hlocks := B.notSynchronized
  subst hsz
  have hD := hD0.self (sz := s.heap.size)
  generalize hAe : va_A [(h0, .inr (0, [.ref tk, .ref nd, .ref cd, .ref rd, .ref sl, .ref lk, .ref od, .ref pg, .ref gv, .ref tp, .int (nI n), .int ap, .int mn, .int it, .int kp])), (tp, .inl (cB, 65638, .inl f))] s.heap.size = A at hD ⊢
  have hA : ∀ q : Nat, s.heap.size ≤ q → A q := fun q h => by rw [← hAe]; exact Or.inr h
  have hS : va_S A s.heap s.heap [] := va_S.rf
  have hl := lv_entry ([.ref h0, .int v]) (n := 2) (Nat.le_of_ble_eq_true rfl)
  rw [lg_entry_eq]
  generalize (lg_sl ([.ref h0, .int v]) ++ List.replicate (2 - (lg_sl ([.ref h0, .int v])).length) Slot.unset).toArray = ls at hl ⊢
  have hl : lv_has ls 2 [(0, .ref h0), (1, .int v)] := hl
  have e1 : nI n + 1 = nI (n + 1) := (nI_succ n).symm
  have e2 : nI n + 2 = nI (n + 2) := by rw [← nI_add]; rfl
  have e3 : nI n + 3 = nI (n + 3) := by rw [← nI_add]; rfl
  have e4 : nI n + 4 = nI (n + 4) := by rw [← nI_add]; rfl
  refine lv_aload_n hx hb d_S_append_0 rfl (lv_at hl 0 rfl) ?_
  refine va_get (D := D) (ci := 0) (v := .ref tp) (C := R_S) (T := T_S) (N := 15) hx hb hG gi_S hown hK hP 0 rfl rfl 9 (by decide) (hG _ fl_S_22) (fun _ h9 => h9) rfl d_S_append_1 ?_
  refine lv_aload_n hx hb d_S_append_4 rfl (lv_at hl 0 rfl) ?_
  refine va_get (D := D) (ci := 0) (v := .int (nI n)) (C := R_S) (T := T_S) (N := 15) hx hb hG gi_S hown hK hP 0 rfl rfl 10 (by decide) (hG _ fl_S_100) (fun _ h9 => h9) rfl d_S_append_5 ?_
  refine lv_iload_n hx hb d_S_append_8 rfl (lv_at hl 1 rfl) ?_
  refine lv_bipush (v := 24) hx hb d_S_append_9 (by decide) ?_
  refine lv_ishr hx hb d_S_append_11 ?_
  refine lv_i2b (v := (v >>> (24 &&& 31)).toInt8.toInt32) hx hb d_S_append_12 rfl ?_
  refine va_bast (D := D) hx hb hK hP hD hS 1 1 rfl rfl (vp_in_nI (by omega) (by decide)) d_S_append_13 (fun H locs hP hD hS => ?_)
  have hP : va_P D kl [(h0, .inr (0, [.ref tk, .ref nd, .ref cd, .ref rd, .ref sl, .ref lk, .ref od, .ref pg, .ref gv, .ref tp, .int (nI n), .int ap, .int mn, .int it, .int kp])), (tp, .inl (cB, 65638, .inl (upd f (nI n).toNatClampNeg (vp_nar .byte ((v >>> (24 &&& 31)).toInt8.toInt32)))))] H := hP
  have hD : va_D A [(h0, .inr (0, [.ref tk, .ref nd, .ref cd, .ref rd, .ref sl, .ref lk, .ref od, .ref pg, .ref gv, .ref tp, .int (nI n), .int ap, .int mn, .int it, .int kp])), (tp, .inl (cB, 65638, .inl (upd f (nI n).toNatClampNeg (vp_nar .byte ((v >>> (24 &&& 31)).toInt8.toInt32)))))] := hD
  refine lv_aload_n hx hb d_S_append_14 rfl (lv_at hl 0 rfl) ?_
  refine va_get (D := D) (ci := 0) (v := .ref tp) (C := R_S) (T := T_S) (N := 15) hx hb hG gi_S hown hK hP 0 rfl rfl 9 (by decide) (hG _ fl_S_22) (fun _ h9 => h9) rfl d_S_append_15 ?_
  refine lv_aload_n hx hb d_S_append_18 rfl (lv_at hl 0 rfl) ?_
  refine va_get (D := D) (ci := 0) (v := .int (nI n)) (C := R_S) (T := T_S) (N := 15) hx hb hG gi_S hown hK hP 0 rfl rfl 10 (by decide) (hG _ fl_S_100) (fun _ h9 => h9) rfl d_S_append_19 ?_
  refine lv_iconst (v := 1) hx hb d_S_append_22 (by decide) ?_
  refine lv_iadd hx hb d_S_append_23 ?_
  refine lv_iload_n hx hb d_S_append_24 rfl (lv_at hl 1 rfl) ?_
  refine lv_bipush (v := 16) hx hb d_S_append_25 (by decide) ?_
  refine lv_ishr hx hb d_S_append_27 ?_
  refine lv_i2b (v := (v >>> (16 &&& 31)).toInt8.toInt32) hx hb d_S_append_28 rfl ?_
  refine va_bast (D := D) hx hb hK hP hD hS 1 1 rfl rfl (by rw [e1]; exact vp_in_nI (by omega) (by decide)) d_S_append_29 (fun H locs hP hD hS => ?_)
  have hP : va_P D kl [(h0, .inr (0, [.ref tk, .ref nd, .ref cd, .ref rd, .ref sl, .ref lk, .ref od, .ref pg, .ref gv, .ref tp, .int (nI n), .int ap, .int mn, .int it, .int kp])), (tp, .inl (cB, 65638, .inl (upd (upd f (nI n).toNatClampNeg (vp_nar .byte ((v >>> (24 &&& 31)).toInt8.toInt32))) ((nI n) + 1).toNatClampNeg (vp_nar .byte ((v >>> (16 &&& 31)).toInt8.toInt32)))))] H := hP
  have hD : va_D A [(h0, .inr (0, [.ref tk, .ref nd, .ref cd, .ref rd, .ref sl, .ref lk, .ref od, .ref pg, .ref gv, .ref tp, .int (nI n), .int ap, .int mn, .int it, .int kp])), (tp, .inl (cB, 65638, .inl (upd (upd f (nI n).toNatClampNeg (vp_nar .byte ((v >>> (24 &&& 31)).toInt8.toInt32))) ((nI n) + 1).toNatClampNeg (vp_nar .byte ((v >>> (16 &&& 31)).toInt8.toInt32)))))] := hD
  refine lv_aload_n hx hb d_S_append_30 rfl (lv_at hl 0 rfl) ?_
  refine va_get (D := D) (ci := 0) (v := .ref tp) (C := R_S) (T := T_S) (N := 15) hx hb hG gi_S hown hK hP 0 rfl rfl 9 (by decide) (hG _ fl_S_22) (fun _ h9 => h9) rfl d_S_append_31 ?_
  refine lv_aload_n hx hb d_S_append_34 rfl (lv_at hl 0 rfl) ?_
  refine va_get (D := D) (ci := 0) (v := .int (nI n)) (C := R_S) (T := T_S) (N := 15) hx hb hG gi_S hown hK hP 0 rfl rfl 10 (by decide) (hG _ fl_S_100) (fun _ h9 => h9) rfl d_S_append_35 ?_
  refine lv_iconst (v := 2) hx hb d_S_append_38 (by decide) ?_
  refine lv_iadd hx hb d_S_append_39 ?_
  refine lv_iload_n hx hb d_S_append_40 rfl (lv_at hl 1 rfl) ?_
  refine lv_bipush (v := 8) hx hb d_S_append_41 (by decide) ?_
  refine lv_ishr hx hb d_S_append_43 ?_
  refine lv_i2b (v := (v >>> (8 &&& 31)).toInt8.toInt32) hx hb d_S_append_44 rfl ?_
  refine va_bast (D := D) hx hb hK hP hD hS 1 1 rfl rfl (by rw [e2]; exact vp_in_nI (by omega) (by decide)) d_S_append_45 (fun H locs hP hD hS => ?_)
  have hP : va_P D kl [(h0, .inr (0, [.ref tk, .ref nd, .ref cd, .ref rd, .ref sl, .ref lk, .ref od, .ref pg, .ref gv, .ref tp, .int (nI n), .int ap, .int mn, .int it, .int kp])), (tp, .inl (cB, 65638, .inl (upd (upd (upd f (nI n).toNatClampNeg (vp_nar .byte ((v >>> (24 &&& 31)).toInt8.toInt32))) ((nI n) + 1).toNatClampNeg (vp_nar .byte ((v >>> (16 &&& 31)).toInt8.toInt32))) ((nI n) + 2).toNatClampNeg (vp_nar .byte ((v >>> (8 &&& 31)).toInt8.toInt32)))))] H := hP
  have hD : va_D A [(h0, .inr (0, [.ref tk, .ref nd, .ref cd, .ref rd, .ref sl, .ref lk, .ref od, .ref pg, .ref gv, .ref tp, .int (nI n), .int ap, .int mn, .int it, .int kp])), (tp, .inl (cB, 65638, .inl (upd (upd (upd f (nI n).toNatClampNeg (vp_nar .byte ((v >>> (24 &&& 31)).toInt8.toInt32))) ((nI n) + 1).toNatClampNeg (vp_nar .byte ((v >>> (16 &&& 31)).toInt8.toInt32))) ((nI n) + 2).toNatClampNeg (vp_nar .byte ((v >>> (8 &&& 31)).toInt8.toInt32)))))] := hD
  refine lv_aload_n hx hb d_S_append_46 rfl (lv_at hl 0 rfl) ?_
  refine va_get (D := D) (ci := 0) (v := .ref tp) (C := R_S) (T := T_S) (N := 15) hx hb hG gi_S hown hK hP 0 rfl rfl 9 (by decide) (hG _ fl_S_22) (fun _ h9 => h9) rfl d_S_append_47 ?_
  refine lv_aload_n hx hb d_S_append_50 rfl (lv_at hl 0 rfl) ?_
  refine va_get (D := D) (ci := 0) (v := .int (nI n)) (C := R_S) (T := T_S) (N := 15) hx hb hG gi_S hown hK hP 0 rfl rfl 10 (by decide) (hG _ fl_S_100) (fun _ h9 => h9) rfl d_S_append_51 ?_
  refine lv_iconst (v := 3) hx hb d_S_append_54 (by decide) ?_
  refine lv_iadd hx hb d_S_append_55 ?_
  refine lv_iload_n hx hb d_S_append_56 rfl (lv_at hl 1 rfl) ?_
  refine lv_i2b (v := v.toInt8.toInt32) hx hb d_S_append_57 rfl ?_
  refine va_bast (D := D) hx hb hK hP hD hS 1 1 rfl rfl (by rw [e3]; exact vp_in_nI (by omega) (by decide)) d_S_append_58 (fun H locs hP hD hS => ?_)
  have hP : va_P D kl [(h0, .inr (0, [.ref tk, .ref nd, .ref cd, .ref rd, .ref sl, .ref lk, .ref od, .ref pg, .ref gv, .ref tp, .int (nI n), .int ap, .int mn, .int it, .int kp])), (tp, .inl (cB, 65638, .inl (upd (upd (upd (upd f (nI n).toNatClampNeg (vp_nar .byte ((v >>> (24 &&& 31)).toInt8.toInt32))) ((nI n) + 1).toNatClampNeg (vp_nar .byte ((v >>> (16 &&& 31)).toInt8.toInt32))) ((nI n) + 2).toNatClampNeg (vp_nar .byte ((v >>> (8 &&& 31)).toInt8.toInt32))) ((nI n) + 3).toNatClampNeg (vp_nar .byte (v.toInt8.toInt32)))))] H := hP
  have hD : va_D A [(h0, .inr (0, [.ref tk, .ref nd, .ref cd, .ref rd, .ref sl, .ref lk, .ref od, .ref pg, .ref gv, .ref tp, .int (nI n), .int ap, .int mn, .int it, .int kp])), (tp, .inl (cB, 65638, .inl (upd (upd (upd (upd f (nI n).toNatClampNeg (vp_nar .byte ((v >>> (24 &&& 31)).toInt8.toInt32))) ((nI n) + 1).toNatClampNeg (vp_nar .byte ((v >>> (16 &&& 31)).toInt8.toInt32))) ((nI n) + 2).toNatClampNeg (vp_nar .byte ((v >>> (8 &&& 31)).toInt8.toInt32))) ((nI n) + 3).toNatClampNeg (vp_nar .byte (v.toInt8.toInt32)))))] := hD
  refine lv_aload_n hx hb d_S_append_59 rfl (lv_at hl 0 rfl) ?_
  refine lv_dup hx hb d_S_append_60 rfl ?_
  refine va_get (D := D) (ci := 0) (v := .int (nI n)) (C := R_S) (T := T_S) (N := 15) hx hb hG gi_S hown hK hP 0 rfl rfl 10 (by decide) (hG _ fl_S_100) (fun _ h9 => h9) rfl d_S_append_61 ?_
  refine lv_iconst (v := 4) hx hb d_S_append_64 (by decide) ?_
  refine lv_iadd hx hb d_S_append_65 ?_
  refine va_put (D := D) (ci := 0) (v := .int ((nI n) + 4)) (ty := .int) (C := R_S) (T := T_S) (N := 15) hx hb hG gi_S ty_S to_S nm_S hown hK hP hD hS 0 rfl rfl 10 (by decide) (hG _ fl_S_100) (fun _ h9 => h9) rfl (by decide +kernel) rfl rfl (Nat.le_of_ble_eq_true rfl) d_S_append_66 (fun H locs hP hD hS => ?_)
  have hP : va_P D kl [(h0, .inr (0, [.ref tk, .ref nd, .ref cd, .ref rd, .ref sl, .ref lk, .ref od, .ref pg, .ref gv, .ref tp, .int ((nI n) + 4), .int ap, .int mn, .int it, .int kp])), (tp, .inl (cB, 65638, .inl (upd (upd (upd (upd f (nI n).toNatClampNeg (vp_nar .byte ((v >>> (24 &&& 31)).toInt8.toInt32))) ((nI n) + 1).toNatClampNeg (vp_nar .byte ((v >>> (16 &&& 31)).toInt8.toInt32))) ((nI n) + 2).toNatClampNeg (vp_nar .byte ((v >>> (8 &&& 31)).toInt8.toInt32))) ((nI n) + 3).toNatClampNeg (vp_nar .byte (v.toInt8.toInt32)))))] H := hP
  have hD : va_D A [(h0, .inr (0, [.ref tk, .ref nd, .ref cd, .ref rd, .ref sl, .ref lk, .ref od, .ref pg, .ref gv, .ref tp, .int ((nI n) + 4), .int ap, .int mn, .int it, .int kp])), (tp, .inl (cB, 65638, .inl (upd (upd (upd (upd f (nI n).toNatClampNeg (vp_nar .byte ((v >>> (24 &&& 31)).toInt8.toInt32))) ((nI n) + 1).toNatClampNeg (vp_nar .byte ((v >>> (16 &&& 31)).toInt8.toInt32))) ((nI n) + 2).toNatClampNeg (vp_nar .byte ((v >>> (8 &&& 31)).toInt8.toInt32))) ((nI n) + 3).toNatClampNeg (vp_nar .byte (v.toInt8.toInt32)))))] := hD
  rw [ap4_eq hn, e4] at hP hD
  exact W.vret hx hb hr (fun t ht hW => ⟨⟨(), rfl, trivial, by rw [ht]; exact hP, hD⟩, hS.F ht⟩) hS.2.2 d_S_append_69

set_option maxHeartbeats 4000000 in
set_option maxRecDepth 100000 in
theorem c_S_feed (l : Launch) (D : va_G) (cI cB cJ cZ : ClassId) (sz : Nat) (h0 tk nd cd rd sl lk od pg gv tp : Nat) (n : Nat) (ap mn it kp : Int32) (va vb vc vd ve : Int32) (f : Nat → Int32) (hn : n + 20 ≤ 65536) : Met l y_S_feed (Cond.code y_S_feed b_S_feed 6 (some .int) :: gG) { frames := 1, cells := 0, slots := 0, locals := 30 } (va_Pc [.ref h0, .int va, .int vb, .int vc, .int vd, .int ve] (ct_P D (tyL cI cB cJ cZ) [(h0, .inr (0, [.ref tk, .ref nd, .ref cd, .ref rd, .ref sl, .ref lk, .ref od, .ref pg, .ref gv, .ref tp, .int (nI n), .int ap, .int mn, .int it, .int kp])), (tp, .inl (cB, 65638, .inl f))] sz)) (va_Qi (fun (r : Int32) (_ : Unit) => r = nI (n + 20)) (fun _ t => va_P D kl [(h0, .inr (0, [.ref tk, .ref nd, .ref cd, .ref rd, .ref sl, .ref lk, .ref od, .ref pg, .ref gv, .ref tp, .int (nI (n + 20)), .int ap, .int mn, .int it, .int kp])), (tp, .inl (cB, 65638, .inl (ap4 (ap4 (ap4 (ap4 (ap4 f n va) (n + 4) vb) (n + 8) vc) (n + 12) vd) (n + 16) ve)))] t.heap ∧ va_D (va_A [(h0, .inr (0, [.ref tk, .ref nd, .ref cd, .ref rd, .ref sl, .ref lk, .ref od, .ref pg, .ref gv, .ref tp, .int (nI n), .int ap, .int mn, .int it, .int kp])), (tp, .inl (cB, 65638, .inl f))] sz) [(h0, .inr (0, [.ref tk, .ref nd, .ref cd, .ref rd, .ref sl, .ref lk, .ref od, .ref pg, .ref gv, .ref tp, .int (nI (n + 20)), .int ap, .int mn, .int it, .int kp])), (tp, .inl (cB, 65638, .inl (ap4 (ap4 (ap4 (ap4 (ap4 f n va) (n + 4) vb) (n + 8) vc) (n + 12) vd) (n + 16) ve)))]) (va_A [(h0, .inr (0, [.ref tk, .ref nd, .ref cd, .ref rd, .ref sl, .ref lk, .ref od, .ref pg, .ref gv, .ref tp, .int (nI n), .int ap, .int mn, .int it, .int kp])), (tp, .inl (cB, 65638, .inl f))] sz)) 0 0 (va_A [(h0, .inr (0, [.ref tk, .ref nd, .ref cd, .ref rd, .ref sl, .ref lk, .ref od, .ref pg, .ref gv, .ref tp, .int (nI n), .int ap, .int mn, .int it, .int kp])), (tp, .inl (cB, 65638, .inl f))] sz) := by
  refine Met.ofW (cc := b_S_feed) (maxL := 6) (ret := (some .int)) (by decide) rfl ?_
  intro p e s m args below meth c s₁ B hml hv
  obtain ⟨rfl, hsz, hP, hK, hD0⟩ := hv
  have hx := B.exec
  have hb := B.bytes
  have hr := B.returns
  have hts := atoms_spec (ws := Cond.code y_S_feed b_S_feed 6 (some .int) :: gG) B.pre
  have hG : ∀ w ∈ gG, w.before [.ref h0, .int va, .int vb, .int vc, .int vd, .int ve].toArray s = true := fun w h => hts w (List.mem_cons_of_mem _ h)
  have hown : s.vm.findClass R_S = some m.cls := findClass_of_methodNamed B.named
  have hlocks := B.notSynchronized
  subst hsz
  have hD := hD0.self (sz := s.heap.size)
  generalize hAe : va_A [(h0, .inr (0, [.ref tk, .ref nd, .ref cd, .ref rd, .ref sl, .ref lk, .ref od, .ref pg, .ref gv, .ref tp, .int (nI n), .int ap, .int mn, .int it, .int kp])), (tp, .inl (cB, 65638, .inl f))] s.heap.size = A at hD ⊢
  have hA : ∀ q : Nat, s.heap.size ≤ q → A q := fun q h => by rw [← hAe]; exact Or.inr h
  have hS : va_S A s.heap s.heap [] := va_S.rf
  have hl := lv_entry ([.ref h0, .int va, .int vb, .int vc, .int vd, .int ve]) (n := 6) (Nat.le_of_ble_eq_true rfl)
  rw [lg_entry_eq]
  generalize (lg_sl ([.ref h0, .int va, .int vb, .int vc, .int vd, .int ve]) ++ List.replicate (6 - (lg_sl ([.ref h0, .int va, .int vb, .int vc, .int vd, .int ve])).length) Slot.unset).toArray = ls at hl ⊢
  have hl : lv_has ls 6 [(0, .ref h0), (1, .int va), (2, .int vb), (3, .int vc), (4, .int vd), (5, .int ve)] := hl
  refine lv_aload_n hx hb d_S_feed_0 rfl (lv_at hl 0 rfl) ?_
  refine va_get (D := D) (ci := 0) (v := .int (nI n)) (C := R_S) (T := T_S) (N := 15) hx hb hG gi_S hown hK hP 0 rfl rfl 10 (by decide) (hG _ fl_S_100) (fun _ h9 => h9) rfl d_S_feed_1 ?_
  refine lv_bipush (v := 20) hx hb d_S_feed_4 (by decide) ?_
  refine lv_iadd hx hb d_S_feed_6 ?_
  refine lv_ldc (v := 65536) hx hb hown (hG _ ct_S_13) d_S_feed_7 ?_
  refine lv_icmp_le (tgt := 20) hx hb d_S_feed_9 (by decide) (fun _ => ?_) (fun zz1 => absurd (by rw [show nI n + 20 = nI (n + 20) by rw [← nI_add]; rfl]; exact nI_le hn (by decide)) zz1)
  refine lv_aload_n hx hb d_S_feed_20 rfl (lv_at hl 0 rfl) ?_
  refine lv_iload_n hx hb d_S_feed_21 rfl (lv_at hl 1 rfl) ?_
  have hPc := hP.sub (ws' := [(h0, .inr (0, [.ref tk, .ref nd, .ref cd, .ref rd, .ref sl, .ref lk, .ref od, .ref pg, .ref gv, .ref tp, .int (nI n), .int ap, .int mn, .int it, .int kp])), (tp, .inl (cB, 65638, .inl f))]) [0, 1] rfl
  have hDc := hD.sub (ws' := [(h0, .inr (0, [.ref tk, .ref nd, .ref cd, .ref rd, .ref sl, .ref lk, .ref od, .ref pg, .ref gv, .ref tp, .int (nI n), .int ap, .int mn, .int it, .int kp])), (tp, .inl (cB, 65638, .inl f))]) [0, 1] (by decide) rfl
  have hFc := va_free (wc := [(h0, .inr (0, [.ref tk, .ref nd, .ref cd, .ref rd, .ref sl, .ref lk, .ref od, .ref pg, .ref gv, .ref tp, .int (nI n), .int ap, .int mn, .int it, .int kp])), (tp, .inl (cB, 65638, .inl f))]) hD hS hA [0, 1] rfl
  refine va_callv (va_runV (As := [.int va]) (rest := []) ⟨hx, hb, hml, hown, hG⟩ (c_S_append l D cI cB cJ cZ s.heap.size h0 tk nd cd rd sl lk od pg gv tp n ap mn it kp va f (by omega)) (gcV 1 gG_good hG ml_S_106 im_S_append se_S_append in_S co_S_append rfl rfl (by decide +kernel) ⟨(Nat.le_of_ble_eq_true rfl), (Nat.le_of_ble_eq_true rfl)⟩) (ct_preV hPc hK hDc (ci := 0) (q0 := 0) rfl rfl) rfl rfl hl.1 rfl (lv_room (Nat.le_of_ble_eq_true rfl)) d_S_feed_22 ⟨(Nat.le_of_ble_eq_true rfl), (Nat.le_of_ble_eq_true rfl)⟩) hS (fun q _ h => hFc q h) hFc (fun _ t H1 locs ht hvm hw hB hz1 hk1 hS => ?_)
  obtain ⟨hP1, hD1⟩ := hB
  rw [ht] at hP1
  obtain ⟨hP, hD⟩ := va_join (wr := []) (w1 := [(h0, .inr (0, [.ref tk, .ref nd, .ref cd, .ref rd, .ref sl, .ref lk, .ref od, .ref pg, .ref gv, .ref tp, .int (nI (n + 4)), .int ap, .int mn, .int it, .int kp])), (tp, .inl (cB, 65638, .inl (ap4 f n va)))]) hP hD [0, 1] [] rfl rfl (by decide) (by decide) hk1 hFc hP1 hD1
  generalize H1 = H at hP hS ⊢
  have hP : va_P D kl [(h0, .inr (0, [.ref tk, .ref nd, .ref cd, .ref rd, .ref sl, .ref lk, .ref od, .ref pg, .ref gv, .ref tp, .int (nI (n + 4)), .int ap, .int mn, .int it, .int kp])), (tp, .inl (cB, 65638, .inl (ap4 f n va)))] H := hP
  have hD : va_D A [(h0, .inr (0, [.ref tk, .ref nd, .ref cd, .ref rd, .ref sl, .ref lk, .ref od, .ref pg, .ref gv, .ref tp, .int (nI (n + 4)), .int ap, .int mn, .int it, .int kp])), (tp, .inl (cB, 65638, .inl (ap4 f n va)))] := hD
  refine lv_aload_n hx hb d_S_feed_25 rfl (lv_at hl 0 rfl) ?_
  refine lv_iload_n hx hb d_S_feed_26 rfl (lv_at hl 2 rfl) ?_
  have hPc := hP.sub (ws' := [(h0, .inr (0, [.ref tk, .ref nd, .ref cd, .ref rd, .ref sl, .ref lk, .ref od, .ref pg, .ref gv, .ref tp, .int (nI (n + 4)), .int ap, .int mn, .int it, .int kp])), (tp, .inl (cB, 65638, .inl (ap4 f n va)))]) [0, 1] rfl
  have hDc := hD.sub (ws' := [(h0, .inr (0, [.ref tk, .ref nd, .ref cd, .ref rd, .ref sl, .ref lk, .ref od, .ref pg, .ref gv, .ref tp, .int (nI (n + 4)), .int ap, .int mn, .int it, .int kp])), (tp, .inl (cB, 65638, .inl (ap4 f n va)))]) [0, 1] (by decide) rfl
  have hFc := va_free (wc := [(h0, .inr (0, [.ref tk, .ref nd, .ref cd, .ref rd, .ref sl, .ref lk, .ref od, .ref pg, .ref gv, .ref tp, .int (nI (n + 4)), .int ap, .int mn, .int it, .int kp])), (tp, .inl (cB, 65638, .inl (ap4 f n va)))]) hD hS hA [0, 1] rfl
  refine va_callv (va_runV (As := [.int vb]) (rest := []) ⟨hx, hb, hml, hown, hG⟩ (c_S_append l D cI cB cJ cZ H.size h0 tk nd cd rd sl lk od pg gv tp (n + 4) ap mn it kp vb (ap4 f n va) (by omega)) (gcV 1 gG_good hG ml_S_106 im_S_append se_S_append in_S co_S_append rfl rfl (by decide +kernel) ⟨(Nat.le_of_ble_eq_true rfl), (Nat.le_of_ble_eq_true rfl)⟩) (ct_preV hPc hK hDc (ci := 0) (q0 := 0) rfl rfl) rfl rfl hl.1 rfl (lv_room (Nat.le_of_ble_eq_true rfl)) d_S_feed_27 ⟨(Nat.le_of_ble_eq_true rfl), (Nat.le_of_ble_eq_true rfl)⟩) hS (fun q _ h => hFc q h) hFc (fun _ t H1 locs ht hvm hw hB hz1 hk1 hS => ?_)
  obtain ⟨hP1, hD1⟩ := hB
  rw [ht] at hP1
  obtain ⟨hP, hD⟩ := va_join (wr := []) (w1 := [(h0, .inr (0, [.ref tk, .ref nd, .ref cd, .ref rd, .ref sl, .ref lk, .ref od, .ref pg, .ref gv, .ref tp, .int (nI (n + 8)), .int ap, .int mn, .int it, .int kp])), (tp, .inl (cB, 65638, .inl (ap4 (ap4 f n va) (n + 4) vb)))]) hP hD [0, 1] [] rfl rfl (by decide) (by decide) hk1 hFc hP1 hD1
  generalize H1 = H at hP hS ⊢
  have hP : va_P D kl [(h0, .inr (0, [.ref tk, .ref nd, .ref cd, .ref rd, .ref sl, .ref lk, .ref od, .ref pg, .ref gv, .ref tp, .int (nI (n + 8)), .int ap, .int mn, .int it, .int kp])), (tp, .inl (cB, 65638, .inl (ap4 (ap4 f n va) (n + 4) vb)))] H := hP
  have hD : va_D A [(h0, .inr (0, [.ref tk, .ref nd, .ref cd, .ref rd, .ref sl, .ref lk, .ref od, .ref pg, .ref gv, .ref tp, .int (nI (n + 8)), .int ap, .int mn, .int it, .int kp])), (tp, .inl (cB, 65638, .inl (ap4 (ap4 f n va) (n + 4) vb)))] := hD
  refine lv_aload_n hx hb d_S_feed_30 rfl (lv_at hl 0 rfl) ?_
  refine lv_iload_n hx hb d_S_feed_31 rfl (lv_at hl 3 rfl) ?_
  have hPc := hP.sub (ws' := [(h0, .inr (0, [.ref tk, .ref nd, .ref cd, .ref rd, .ref sl, .ref lk, .ref od, .ref pg, .ref gv, .ref tp, .int (nI (n + 8)), .int ap, .int mn, .int it, .int kp])), (tp, .inl (cB, 65638, .inl (ap4 (ap4 f n va) (n + 4) vb)))]) [0, 1] rfl
  have hDc := hD.sub (ws' := [(h0, .inr (0, [.ref tk, .ref nd, .ref cd, .ref rd, .ref sl, .ref lk, .ref od, .ref pg, .ref gv, .ref tp, .int (nI (n + 8)), .int ap, .int mn, .int it, .int kp])), (tp, .inl (cB, 65638, .inl (ap4 (ap4 f n va) (n + 4) vb)))]) [0, 1] (by decide) rfl
  have hFc := va_free (wc := [(h0, .inr (0, [.ref tk, .ref nd, .ref cd, .ref rd, .ref sl, .ref lk, .ref od, .ref pg, .ref gv, .ref tp, .int (nI (n + 8)), .int ap, .int mn, .int it, .int kp])), (tp, .inl (cB, 65638, .inl (ap4 (ap4 f n va) (n + 4) vb)))]) hD hS hA [0, 1] rfl
  refine va_callv (va_runV (As := [.int vc]) (rest := []) ⟨hx, hb, hml, hown, hG⟩ (c_S_append l D cI cB cJ cZ H.size h0 tk nd cd rd sl lk od pg gv tp (n + 8) ap mn it kp vc (ap4 (ap4 f n va) (n + 4) vb) (by omega)) (gcV 1 gG_good hG ml_S_106 im_S_append se_S_append in_S co_S_append rfl rfl (by decide +kernel) ⟨(Nat.le_of_ble_eq_true rfl), (Nat.le_of_ble_eq_true rfl)⟩) (ct_preV hPc hK hDc (ci := 0) (q0 := 0) rfl rfl) rfl rfl hl.1 rfl (lv_room (Nat.le_of_ble_eq_true rfl)) d_S_feed_32 ⟨(Nat.le_of_ble_eq_true rfl), (Nat.le_of_ble_eq_true rfl)⟩) hS (fun q _ h => hFc q h) hFc (fun _ t H1 locs ht hvm hw hB hz1 hk1 hS => ?_)
  obtain ⟨hP1, hD1⟩ := hB
  rw [ht] at hP1
  obtain ⟨hP, hD⟩ := va_join (wr := []) (w1 := [(h0, .inr (0, [.ref tk, .ref nd, .ref cd, .ref rd, .ref sl, .ref lk, .ref od, .ref pg, .ref gv, .ref tp, .int (nI (n + 12)), .int ap, .int mn, .int it, .int kp])), (tp, .inl (cB, 65638, .inl (ap4 (ap4 (ap4 f n va) (n + 4) vb) (n + 8) vc)))]) hP hD [0, 1] [] rfl rfl (by decide) (by decide) hk1 hFc hP1 hD1
  generalize H1 = H at hP hS ⊢
  have hP : va_P D kl [(h0, .inr (0, [.ref tk, .ref nd, .ref cd, .ref rd, .ref sl, .ref lk, .ref od, .ref pg, .ref gv, .ref tp, .int (nI (n + 12)), .int ap, .int mn, .int it, .int kp])), (tp, .inl (cB, 65638, .inl (ap4 (ap4 (ap4 f n va) (n + 4) vb) (n + 8) vc)))] H := hP
  have hD : va_D A [(h0, .inr (0, [.ref tk, .ref nd, .ref cd, .ref rd, .ref sl, .ref lk, .ref od, .ref pg, .ref gv, .ref tp, .int (nI (n + 12)), .int ap, .int mn, .int it, .int kp])), (tp, .inl (cB, 65638, .inl (ap4 (ap4 (ap4 f n va) (n + 4) vb) (n + 8) vc)))] := hD
  refine lv_aload_n hx hb d_S_feed_35 rfl (lv_at hl 0 rfl) ?_
  refine lv_iload hx hb d_S_feed_36 (lv_at hl 4 rfl) ?_
  have hPc := hP.sub (ws' := [(h0, .inr (0, [.ref tk, .ref nd, .ref cd, .ref rd, .ref sl, .ref lk, .ref od, .ref pg, .ref gv, .ref tp, .int (nI (n + 12)), .int ap, .int mn, .int it, .int kp])), (tp, .inl (cB, 65638, .inl (ap4 (ap4 (ap4 f n va) (n + 4) vb) (n + 8) vc)))]) [0, 1] rfl
  have hDc := hD.sub (ws' := [(h0, .inr (0, [.ref tk, .ref nd, .ref cd, .ref rd, .ref sl, .ref lk, .ref od, .ref pg, .ref gv, .ref tp, .int (nI (n + 12)), .int ap, .int mn, .int it, .int kp])), (tp, .inl (cB, 65638, .inl (ap4 (ap4 (ap4 f n va) (n + 4) vb) (n + 8) vc)))]) [0, 1] (by decide) rfl
  have hFc := va_free (wc := [(h0, .inr (0, [.ref tk, .ref nd, .ref cd, .ref rd, .ref sl, .ref lk, .ref od, .ref pg, .ref gv, .ref tp, .int (nI (n + 12)), .int ap, .int mn, .int it, .int kp])), (tp, .inl (cB, 65638, .inl (ap4 (ap4 (ap4 f n va) (n + 4) vb) (n + 8) vc)))]) hD hS hA [0, 1] rfl
  refine va_callv (va_runV (As := [.int vd]) (rest := []) ⟨hx, hb, hml, hown, hG⟩ (c_S_append l D cI cB cJ cZ H.size h0 tk nd cd rd sl lk od pg gv tp (n + 12) ap mn it kp vd (ap4 (ap4 (ap4 f n va) (n + 4) vb) (n + 8) vc) (by omega)) (gcV 1 gG_good hG ml_S_106 im_S_append se_S_append in_S co_S_append rfl rfl (by decide +kernel) ⟨(Nat.le_of_ble_eq_true rfl), (Nat.le_of_ble_eq_true rfl)⟩) (ct_preV hPc hK hDc (ci := 0) (q0 := 0) rfl rfl) rfl rfl hl.1 rfl (lv_room (Nat.le_of_ble_eq_true rfl)) d_S_feed_38 ⟨(Nat.le_of_ble_eq_true rfl), (Nat.le_of_ble_eq_true rfl)⟩) hS (fun q _ h => hFc q h) hFc (fun _ t H1 locs ht hvm hw hB hz1 hk1 hS => ?_)
  obtain ⟨hP1, hD1⟩ := hB
  rw [ht] at hP1
  obtain ⟨hP, hD⟩ := va_join (wr := []) (w1 := [(h0, .inr (0, [.ref tk, .ref nd, .ref cd, .ref rd, .ref sl, .ref lk, .ref od, .ref pg, .ref gv, .ref tp, .int (nI (n + 16)), .int ap, .int mn, .int it, .int kp])), (tp, .inl (cB, 65638, .inl (ap4 (ap4 (ap4 (ap4 f n va) (n + 4) vb) (n + 8) vc) (n + 12) vd)))]) hP hD [0, 1] [] rfl rfl (by decide) (by decide) hk1 hFc hP1 hD1
  generalize H1 = H at hP hS ⊢
  have hP : va_P D kl [(h0, .inr (0, [.ref tk, .ref nd, .ref cd, .ref rd, .ref sl, .ref lk, .ref od, .ref pg, .ref gv, .ref tp, .int (nI (n + 16)), .int ap, .int mn, .int it, .int kp])), (tp, .inl (cB, 65638, .inl (ap4 (ap4 (ap4 (ap4 f n va) (n + 4) vb) (n + 8) vc) (n + 12) vd)))] H := hP
  have hD : va_D A [(h0, .inr (0, [.ref tk, .ref nd, .ref cd, .ref rd, .ref sl, .ref lk, .ref od, .ref pg, .ref gv, .ref tp, .int (nI (n + 16)), .int ap, .int mn, .int it, .int kp])), (tp, .inl (cB, 65638, .inl (ap4 (ap4 (ap4 (ap4 f n va) (n + 4) vb) (n + 8) vc) (n + 12) vd)))] := hD
  refine lv_aload_n hx hb d_S_feed_41 rfl (lv_at hl 0 rfl) ?_
  refine lv_iload hx hb d_S_feed_42 (lv_at hl 5 rfl) ?_
  have hPc := hP.sub (ws' := [(h0, .inr (0, [.ref tk, .ref nd, .ref cd, .ref rd, .ref sl, .ref lk, .ref od, .ref pg, .ref gv, .ref tp, .int (nI (n + 16)), .int ap, .int mn, .int it, .int kp])), (tp, .inl (cB, 65638, .inl (ap4 (ap4 (ap4 (ap4 f n va) (n + 4) vb) (n + 8) vc) (n + 12) vd)))]) [0, 1] rfl
  have hDc := hD.sub (ws' := [(h0, .inr (0, [.ref tk, .ref nd, .ref cd, .ref rd, .ref sl, .ref lk, .ref od, .ref pg, .ref gv, .ref tp, .int (nI (n + 16)), .int ap, .int mn, .int it, .int kp])), (tp, .inl (cB, 65638, .inl (ap4 (ap4 (ap4 (ap4 f n va) (n + 4) vb) (n + 8) vc) (n + 12) vd)))]) [0, 1] (by decide) rfl
  have hFc := va_free (wc := [(h0, .inr (0, [.ref tk, .ref nd, .ref cd, .ref rd, .ref sl, .ref lk, .ref od, .ref pg, .ref gv, .ref tp, .int (nI (n + 16)), .int ap, .int mn, .int it, .int kp])), (tp, .inl (cB, 65638, .inl (ap4 (ap4 (ap4 (ap4 f n va) (n + 4) vb) (n + 8) vc) (n + 12) vd)))]) hD hS hA [0, 1] rfl
  refine va_callv (va_runV (As := [.int ve]) (rest := []) ⟨hx, hb, hml, hown, hG⟩ (c_S_append l D cI cB cJ cZ H.size h0 tk nd cd rd sl lk od pg gv tp (n + 16) ap mn it kp ve (ap4 (ap4 (ap4 (ap4 f n va) (n + 4) vb) (n + 8) vc) (n + 12) vd) (by omega)) (gcV 1 gG_good hG ml_S_106 im_S_append se_S_append in_S co_S_append rfl rfl (by decide +kernel) ⟨(Nat.le_of_ble_eq_true rfl), (Nat.le_of_ble_eq_true rfl)⟩) (ct_preV hPc hK hDc (ci := 0) (q0 := 0) rfl rfl) rfl rfl hl.1 rfl (lv_room (Nat.le_of_ble_eq_true rfl)) d_S_feed_44 ⟨(Nat.le_of_ble_eq_true rfl), (Nat.le_of_ble_eq_true rfl)⟩) hS (fun q _ h => hFc q h) hFc (fun _ t H1 locs ht hvm hw hB hz1 hk1 hS => ?_)
  obtain ⟨hP1, hD1⟩ := hB
  rw [ht] at hP1
  obtain ⟨hP, hD⟩ := va_join (wr := []) (w1 := [(h0, .inr (0, [.ref tk, .ref nd, .ref cd, .ref rd, .ref sl, .ref lk, .ref od, .ref pg, .ref gv, .ref tp, .int (nI (n + 20)), .int ap, .int mn, .int it, .int kp])), (tp, .inl (cB, 65638, .inl (ap4 (ap4 (ap4 (ap4 (ap4 f n va) (n + 4) vb) (n + 8) vc) (n + 12) vd) (n + 16) ve)))]) hP hD [0, 1] [] rfl rfl (by decide) (by decide) hk1 hFc hP1 hD1
  generalize H1 = H at hP hS ⊢
  have hP : va_P D kl [(h0, .inr (0, [.ref tk, .ref nd, .ref cd, .ref rd, .ref sl, .ref lk, .ref od, .ref pg, .ref gv, .ref tp, .int (nI (n + 20)), .int ap, .int mn, .int it, .int kp])), (tp, .inl (cB, 65638, .inl (ap4 (ap4 (ap4 (ap4 (ap4 f n va) (n + 4) vb) (n + 8) vc) (n + 12) vd) (n + 16) ve)))] H := hP
  have hD : va_D A [(h0, .inr (0, [.ref tk, .ref nd, .ref cd, .ref rd, .ref sl, .ref lk, .ref od, .ref pg, .ref gv, .ref tp, .int (nI (n + 20)), .int ap, .int mn, .int it, .int kp])), (tp, .inl (cB, 65638, .inl (ap4 (ap4 (ap4 (ap4 (ap4 f n va) (n + 4) vb) (n + 8) vc) (n + 12) vd) (n + 16) ve)))] := hD
  refine lv_aload_n hx hb d_S_feed_47 rfl (lv_at hl 0 rfl) ?_
  refine va_get (D := D) (ci := 0) (v := .int (nI (n + 20))) (C := R_S) (T := T_S) (N := 15) hx hb hG gi_S hown hK hP 0 rfl rfl 10 (by decide) (hG _ fl_S_100) (fun _ h9 => h9) rfl d_S_feed_48 ?_
  exact W.iret (v := (nI (n + 20))) hx hb hr (fun t ht hW => ⟨⟨(nI (n + 20)), (), rfl, rfl, by rw [ht]; exact hP, hD⟩, hS.F ht⟩) hS.2.2 d_S_feed_51

set_option maxHeartbeats 4000000 in
set_option maxRecDepth 100000 in
theorem c_L_feed (l : Launch) (hno : l.stackTraces = false) (D : va_G) (cI cB cJ cZ : ClassId) (sz : Nat) (h0 tk nd cd rd sl lk od pg gv tp : Nat) (n : Nat) (ap mn it kp : Int32) (o : Nat) (fo : Nat → Int64) (va vb vc vd ve : Int32) (f : Nat → Int32) (hn : n + 20 ≤ 65536) : Met l y_L_feed (Cond.codeWith y_L_feed b_L_feed 8 (some .int) [(0, 16, 19, 13)] :: gG) { frames := 3, cells := 0, slots := 0, locals := 80 } (va_Pc [.ref h0, .int va, .int vb, .int vc, .int vd, .int ve, .ref o] (ch_P D (tyL cI cB cJ cZ) [(h0, .inr (0, [.ref tk, .ref nd, .ref cd, .ref rd, .ref sl, .ref lk, .ref od, .ref pg, .ref gv, .ref tp, .int (nI n), .int ap, .int mn, .int it, .int kp])), (tp, .inl (cB, 65638, .inl f)), (o, .inl (cJ, 1, .inr (.inl fo)))] sz)) (va_Qi (fun (r : Int32) (_ : Unit) => r = 0) (fun _ t => va_P D kl [(o, .inl (cJ, 1, .inr (.inl (vp_updL fo (0 : Int32).toNatClampNeg (nI (n + 20)).toInt64)))), (h0, .inr (0, [.ref tk, .ref nd, .ref cd, .ref rd, .ref sl, .ref lk, .ref od, .ref pg, .ref gv, .ref tp, .int (nI (n + 20)), .int ap, .int mn, .int it, .int kp])), (tp, .inl (cB, 65638, .inl (ap4 (ap4 (ap4 (ap4 (ap4 f n va) (n + 4) vb) (n + 8) vc) (n + 12) vd) (n + 16) ve)))] t.heap ∧ va_D (va_A [(h0, .inr (0, [.ref tk, .ref nd, .ref cd, .ref rd, .ref sl, .ref lk, .ref od, .ref pg, .ref gv, .ref tp, .int (nI n), .int ap, .int mn, .int it, .int kp])), (tp, .inl (cB, 65638, .inl f)), (o, .inl (cJ, 1, .inr (.inl fo)))] sz) [(o, .inl (cJ, 1, .inr (.inl (vp_updL fo (0 : Int32).toNatClampNeg (nI (n + 20)).toInt64)))), (h0, .inr (0, [.ref tk, .ref nd, .ref cd, .ref rd, .ref sl, .ref lk, .ref od, .ref pg, .ref gv, .ref tp, .int (nI (n + 20)), .int ap, .int mn, .int it, .int kp])), (tp, .inl (cB, 65638, .inl (ap4 (ap4 (ap4 (ap4 (ap4 f n va) (n + 4) vb) (n + 8) vc) (n + 12) vd) (n + 16) ve)))]) (va_A [(h0, .inr (0, [.ref tk, .ref nd, .ref cd, .ref rd, .ref sl, .ref lk, .ref od, .ref pg, .ref gv, .ref tp, .int (nI n), .int ap, .int mn, .int it, .int kp])), (tp, .inl (cB, 65638, .inl f)), (o, .inl (cJ, 1, .inr (.inl fo)))] sz)) 0 0 (va_A [(h0, .inr (0, [.ref tk, .ref nd, .ref cd, .ref rd, .ref sl, .ref lk, .ref od, .ref pg, .ref gv, .ref tp, .int (nI n), .int ap, .int mn, .int it, .int kp])), (tp, .inl (cB, 65638, .inl f)), (o, .inl (cJ, 1, .inr (.inl fo)))] sz) := by
  refine mx_ofW (cc := b_L_feed) (maxL := 8) (ret := (some .int)) (hh := [(0, 16, 19, 13)]) (by decide) rfl ?_
  intro p e s m args below meth c s₁ B hml htab hv
  obtain ⟨rfl, ⟨hsz, hP, hK, hD0⟩, hX, hN⟩ := hv
  have hx := B.exec
  have hb := B.bytes
  have hr := B.returns
  have hts := atoms_spec (ws := Cond.codeWith y_L_feed b_L_feed 8 (some .int) [(0, 16, 19, 13)] :: gG) B.pre
  have hG : ∀ w ∈ gG, w.before [.ref h0, .int va, .int vb, .int vc, .int vd, .int ve, .ref o].toArray s = true := fun w h => hts w (List.mem_cons_of_mem _ h)
  have hown : s.vm.findClass R_L = some m.cls := findClass_of_methodNamed B.named
  have hlocks := B.notSynchronized
  subst hsz
  have hD := hD0.self (sz := s.heap.size)
  generalize hAe : va_A [(h0, .inr (0, [.ref tk, .ref nd, .ref cd, .ref rd, .ref sl, .ref lk, .ref od, .ref pg, .ref gv, .ref tp, .int (nI n), .int ap, .int mn, .int it, .int kp])), (tp, .inl (cB, 65638, .inl f)), (o, .inl (cJ, 1, .inr (.inl fo)))] s.heap.size = A at hD hX ⊢
  have hA : ∀ q : Nat, s.heap.size ≤ q → A q := fun q h => by rw [← hAe]; exact Or.inr h
  have hS : va_S A s.heap s.heap [] := va_S.rf
  have hl := lv_entry ([.ref h0, .int va, .int vb, .int vc, .int vd, .int ve, .ref o]) (n := 8) (Nat.le_of_ble_eq_true rfl)
  rw [lg_entry_eq]
  generalize (lg_sl ([.ref h0, .int va, .int vb, .int vc, .int vd, .int ve, .ref o]) ++ List.replicate (8 - (lg_sl ([.ref h0, .int va, .int vb, .int vc, .int vd, .int ve, .ref o])).length) Slot.unset).toArray = ls at hl ⊢
  have hl : lv_has ls 8 [(0, .ref h0), (1, .int va), (2, .int vb), (3, .int vc), (4, .int vd), (5, .int ve), (6, .ref o)] := hl
  refine lv_aload hx hb d_L_feed_0 (lv_at hl 6 rfl) ?_
  refine lv_iconst (v := 0) hx hb d_L_feed_2 (by decide) ?_
  refine lv_aload_n hx hb d_L_feed_3 rfl (lv_at hl 0 rfl) ?_
  refine lv_iload_n hx hb d_L_feed_4 rfl (lv_at hl 1 rfl) ?_
  refine lv_iload_n hx hb d_L_feed_5 rfl (lv_at hl 2 rfl) ?_
  refine lv_iload_n hx hb d_L_feed_6 rfl (lv_at hl 3 rfl) ?_
  refine lv_iload hx hb d_L_feed_7 (lv_at hl 4 rfl) ?_
  refine lv_iload hx hb d_L_feed_9 (lv_at hl 5 rfl) ?_
  have hPc := hP.sub (ws' := [(h0, .inr (0, [.ref tk, .ref nd, .ref cd, .ref rd, .ref sl, .ref lk, .ref od, .ref pg, .ref gv, .ref tp, .int (nI n), .int ap, .int mn, .int it, .int kp])), (tp, .inl (cB, 65638, .inl f))]) [0, 1] rfl
  have hDc := hD.sub (ws' := [(h0, .inr (0, [.ref tk, .ref nd, .ref cd, .ref rd, .ref sl, .ref lk, .ref od, .ref pg, .ref gv, .ref tp, .int (nI n), .int ap, .int mn, .int it, .int kp])), (tp, .inl (cB, 65638, .inl f))]) [0, 1] (by decide) rfl
  have hFc := va_free (wc := [(h0, .inr (0, [.ref tk, .ref nd, .ref cd, .ref rd, .ref sl, .ref lk, .ref od, .ref pg, .ref gv, .ref tp, .int (nI n), .int ap, .int mn, .int it, .int kp])), (tp, .inl (cB, 65638, .inl f))]) hD hS hA [0, 1] rfl
  refine va_calli (va_runV (As := [.int va, .int vb, .int vc, .int vd, .int ve]) (rest := [.int 0, .ref o]) ⟨hx, hb, hml, hown, hG⟩ (c_S_feed l D cI cB cJ cZ s.heap.size h0 tk nd cd rd sl lk od pg gv tp n ap mn it kp va vb vc vd ve f hn) (gcV 5 gG_good hG ml_L_7 im_S_feed se_S_feed in_S co_S_feed rfl rfl (by decide +kernel) ⟨(Nat.le_of_ble_eq_true rfl), (Nat.le_of_ble_eq_true rfl)⟩) (ct_preV hPc hK hDc (ci := 0) (q0 := 0) rfl rfl) rfl rfl hl.1 rfl (lv_room (Nat.le_of_ble_eq_true rfl)) d_L_feed_11 ⟨(Nat.le_of_ble_eq_true rfl), (Nat.le_of_ble_eq_true rfl)⟩) hS (fun q _ h => hFc q h) hFc (fun rr _ t H1 locs ht hvm hw hB hz1 hk1 hS => ?_)
  obtain ⟨hP1, hD1⟩ := hB
  rw [ht] at hP1
  obtain ⟨hP, hD⟩ := va_join (wr := [(o, .inl (cJ, 1, .inr (.inl fo)))]) (w1 := [(h0, .inr (0, [.ref tk, .ref nd, .ref cd, .ref rd, .ref sl, .ref lk, .ref od, .ref pg, .ref gv, .ref tp, .int (nI (n + 20)), .int ap, .int mn, .int it, .int kp])), (tp, .inl (cB, 65638, .inl (ap4 (ap4 (ap4 (ap4 (ap4 f n va) (n + 4) vb) (n + 8) vc) (n + 12) vd) (n + 16) ve)))]) hP hD [0, 1] [2] rfl rfl (by decide) (by decide) hk1 hFc hP1 hD1
  generalize H1 = H at hP hS ⊢
  have hP : va_P D kl [(o, .inl (cJ, 1, .inr (.inl fo))), (h0, .inr (0, [.ref tk, .ref nd, .ref cd, .ref rd, .ref sl, .ref lk, .ref od, .ref pg, .ref gv, .ref tp, .int (nI (n + 20)), .int ap, .int mn, .int it, .int kp])), (tp, .inl (cB, 65638, .inl (ap4 (ap4 (ap4 (ap4 (ap4 f n va) (n + 4) vb) (n + 8) vc) (n + 12) vd) (n + 16) ve)))] H := hP
  have hD : va_D A [(o, .inl (cJ, 1, .inr (.inl fo))), (h0, .inr (0, [.ref tk, .ref nd, .ref cd, .ref rd, .ref sl, .ref lk, .ref od, .ref pg, .ref gv, .ref tp, .int (nI (n + 20)), .int ap, .int mn, .int it, .int kp])), (tp, .inl (cB, 65638, .inl (ap4 (ap4 (ap4 (ap4 (ap4 f n va) (n + 4) vb) (n + 8) vc) (n + 12) vd) (n + 16) ve)))] := hD
  rw [hw]
  refine lv_i2l (v := (nI (n + 20)).toInt64) hx hb d_L_feed_14 rfl ?_
  refine va_last (D := D) hx hb hK hP hD hS 0 2 rfl rfl (vp_in_nI (n := 0) (N := 1) (by decide) (by decide)) d_L_feed_15 (fun H locs hP hD hS => ?_)
  have hP : va_P D kl [(o, .inl (cJ, 1, .inr (.inl (vp_updL fo (0 : Int32).toNatClampNeg ((nI (n + 20)).toInt64))))), (h0, .inr (0, [.ref tk, .ref nd, .ref cd, .ref rd, .ref sl, .ref lk, .ref od, .ref pg, .ref gv, .ref tp, .int (nI (n + 20)), .int ap, .int mn, .int it, .int kp])), (tp, .inl (cB, 65638, .inl (ap4 (ap4 (ap4 (ap4 (ap4 f n va) (n + 4) vb) (n + 8) vc) (n + 12) vd) (n + 16) ve)))] H := hP
  have hD : va_D A [(o, .inl (cJ, 1, .inr (.inl (vp_updL fo (0 : Int32).toNatClampNeg ((nI (n + 20)).toInt64))))), (h0, .inr (0, [.ref tk, .ref nd, .ref cd, .ref rd, .ref sl, .ref lk, .ref od, .ref pg, .ref gv, .ref tp, .int (nI (n + 20)), .int ap, .int mn, .int it, .int kp])), (tp, .inl (cB, 65638, .inl (ap4 (ap4 (ap4 (ap4 (ap4 f n va) (n + 4) vb) (n + 8) vc) (n + 12) vd) (n + 16) ve)))] := hD
  refine lv_goto (tgt := 23) hx hb d_L_feed_16 (by decide) ?_
  refine lv_iconst (v := 0) hx hb d_L_feed_23 (by decide) ?_
  exact W.iret (v := 0) hx hb hr (fun t ht hW => ⟨⟨0, (), rfl, rfl, by rw [ht]; exact hP, hD⟩, hS.F ht⟩) hS.2.2 d_L_feed_24

set_option maxHeartbeats 4000000 in
set_option maxRecDepth 100000 in
theorem c_S_fault (l : Launch) (D : va_G) (cI cB cJ cZ : ClassId) (sz : Nat) (h0 tk nd cd rd sl lk od pg gv tp : Nat) (tl ap mn it kp : Int32) (k1 k2 k3 k4 k5 : Nat) (y1 y2 y3 y4 : Int32) (q : Int32) : Met l y_S_fault (Cond.code y_S_fault b_S_fault 2 (some .int) :: gG) { frames := 0, cells := 0, slots := 0, locals := 0 } (va_Pc [.ref h0, .int q] (ct_P D (tyL cI cB cJ cZ) [(h0, .inr (0, [.ref tk, .ref nd, .ref cd, .ref rd, .ref sl, .ref lk, .ref od, .ref pg, .ref gv, .ref tp, .int tl, .int ap, .int mn, .int it, .int kp])), (tk, .inr (10, [.ref k1, .ref k2, .ref k3, .ref k4, .ref k5, .int y1, .int y2, .int y3, .int y4]))] sz)) (QcRead (if q = 0 then y3 else if q = 1 then y4 else -1)) 0 0 (fun _ => False) := by
  refine Met.ofW (cc := b_S_fault) (maxL := 2) (ret := (some .int)) (by decide) rfl ?_
  intro p e s m args below meth c s₁ B hml hv
  obtain ⟨rfl, hsz, hP, hK, hD0⟩ := hv
  have hx := B.exec
  have hb := B.bytes
  have hr := B.returns
  have hts := atoms_spec (ws := Cond.code y_S_fault b_S_fault 2 (some .int) :: gG) B.pre
  have hG : ∀ w ∈ gG, w.before [.ref h0, .int q].toArray s = true := fun w h => hts w (List.mem_cons_of_mem _ h)
  have hown : s.vm.findClass R_S = some m.cls := findClass_of_methodNamed B.named
  have hlocks := B.notSynchronized
  subst hsz
  have hD := hD0.self (sz := s.heap.size)
  generalize hAe : va_A [(h0, .inr (0, [.ref tk, .ref nd, .ref cd, .ref rd, .ref sl, .ref lk, .ref od, .ref pg, .ref gv, .ref tp, .int tl, .int ap, .int mn, .int it, .int kp])), (tk, .inr (10, [.ref k1, .ref k2, .ref k3, .ref k4, .ref k5, .int y1, .int y2, .int y3, .int y4]))] s.heap.size = A at hD
  have hA : ∀ q : Nat, s.heap.size ≤ q → A q := fun q h => by rw [← hAe]; exact Or.inr h
  have hS : va_S A s.heap s.heap [] := va_S.rf
  have hl := lv_entry ([.ref h0, .int q]) (n := 2) (Nat.le_of_ble_eq_true rfl)
  rw [lg_entry_eq]
  generalize (lg_sl ([.ref h0, .int q]) ++ List.replicate (2 - (lg_sl ([.ref h0, .int q])).length) Slot.unset).toArray = ls at hl ⊢
  have hl : lv_has ls 2 [(0, .ref h0), (1, .int q)] := hl
  refine lv_iload_n hx hb d_S_fault_0 rfl (lv_at hl 1 rfl) ?_
  by_cases z0 : q = 0
  · subst z0
    refine lv_lookup (off := 27) (tgt := 28) hx hb d_S_fault_1 (by decide) (by decide) (by decide) ?_
    refine lv_aload_n hx hb d_S_fault_28 rfl (lv_at hl 0 rfl) ?_
    refine va_get (D := D) (ci := 0) (v := .ref tk) (C := R_S) (T := T_S) (N := 15) hx hb hG gi_S hown hK hP 0 rfl rfl 0 (by decide) (hG _ fl_S_39) (fun _ h9 => h9) rfl d_S_fault_29 ?_
    refine va_get (D := D) (ci := 10) (v := .int y3) (C := R_Tk) (T := T_Tk) (N := 9) hx hb hG gi_Tk hown hK hP 1 rfl rfl 7 (by decide) (hG _ fl_S_136) (fun _ h9 => h9) rfl d_S_fault_32 ?_
    exact W.iret (v := y3) hx hb hr (fun t ht hW => ⟨rfl, ht⟩) (fun q h => by cases h) d_S_fault_35
  by_cases z1 : q = 1
  · subst z1
    refine lv_lookup (off := 35) (tgt := 36) hx hb d_S_fault_1 (by decide) (by decide) (by decide) ?_
    refine lv_aload_n hx hb d_S_fault_36 rfl (lv_at hl 0 rfl) ?_
    refine va_get (D := D) (ci := 0) (v := .ref tk) (C := R_S) (T := T_S) (N := 15) hx hb hG gi_S hown hK hP 0 rfl rfl 0 (by decide) (hG _ fl_S_39) (fun _ h9 => h9) rfl d_S_fault_37 ?_
    refine va_get (D := D) (ci := 10) (v := .int y4) (C := R_Tk) (T := T_Tk) (N := 9) hx hb hG gi_Tk hown hK hP 1 rfl rfl 8 (by decide) (hG _ fl_S_167) (fun _ h9 => h9) rfl d_S_fault_40 ?_
    exact W.iret (v := y4) hx hb hr (fun t ht hW => ⟨rfl, ht⟩) (fun q h => by cases h) d_S_fault_43
  refine lv_lookup (off := 43) (tgt := 44) hx hb d_S_fault_1 (by decide) ((lv_osw z0 (by decide)).trans (lv_osw z1 (by decide))) (by decide) ?_
  refine lv_iconst (v := (-1)) hx hb d_S_fault_44 (by decide) ?_
  exact W.iret (v := (-1)) hx hb hr (fun t ht hW => ⟨by rw [if_neg z0, if_neg z1], ht⟩) (fun q h => by cases h) d_S_fault_45

