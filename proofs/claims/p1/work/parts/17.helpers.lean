/-! the law's helpers: a call of the class, its answer or what it throws -/
/-- exceptions that aren't each other's -/
def xn_P (U : State) : Prop := va_Nc "java/lang/IllegalStateException" "java/lang/IllegalArgumentException" U ∧ va_Nc "java/lang/IllegalStateException" "java/util/NoSuchElementException" U ∧ va_Nc "java/lang/IllegalArgumentException" "java/util/NoSuchElementException" U
def ch_P (D : va_G) (tys : List (ClassId × FieldType)) (ws : va_W) (sz : Nat) (U : State) : Prop := ct_P D tys ws sz U ∧ xs_P (va_A ws sz) U U.heap ∧ xn_P U
theorem ch_blind {av : List Value} {D : va_G} {tys : List (ClassId × FieldType)} {ws : va_W} {sz : Nat} : FrameBlind (va_Pc av (ch_P D tys ws sz)) := fun a U g mk q => ⟨q.1, (ct_blind (av := av) a U g mk ⟨q.1, q.2.1⟩).2, q.2.2.1.call, q.2.2.2⟩
theorem ch_pre {s : State} {H : Heap} {av : List Value} {D : va_G} {tys : List (ClassId × FieldType)} {ws : va_W} {A B : Nat → Prop} {locs : List Loc} (hP : va_P D kl ws H) (hK : va_K D kl tys s) (hD : va_D A ws) (hX : xs_P B s s.heap) (hN : xn_P s) (hS : va_S B s.heap H locs) (hF : ∀ q, va_A ws H.size q → B q) : PreS s H (va_Pc av (ch_P D tys ws H.size)) av :=
  ⟨ch_blind, fun U hU hW => ⟨rfl, ((ct_pre (av := av) hP hK hD).2 U hU hW).2, by rw [hU]; exact ((hX.kept hS.2.1).narrow hF).moved hW, hN.1.moved hW.alike, hN.2.1.moved hW.alike, hN.2.2.moved hW.alike⟩⟩
theorem xt_L {L : List Loc} (h : ∀ z ∈ L, (fun _ : Nat => False) z.base) : L = [] := by
  cases L with
  | nil => rfl
  | cons a t => exact (h a List.mem_cons_self).elim
theorem xt_keepP {D : va_G} {cl : List vw_C} {ws : va_W} {H H1 : Heap} (hP : va_P D cl ws H) (h : ∀ q : Nat, q < H.size → H1[q]? = H[q]?) : va_P D cl ws H1 := hP.kept (fun k q hk => h q.1 ((hP k q hk).lt))
theorem xt_keepS {A : Nat → Prop} {H0 H H1 : Heap} {locs : List Loc} (hS : va_S A H0 H locs) (hz : H.size ≤ H1.size) (h : ∀ q : Nat, q < H.size → H1[q]? = H[q]?) : va_S A H0 H1 locs := ⟨Nat.le_trans hS.1 hz, fun q h1 h2 => (h q (Nat.lt_of_lt_of_le h1 hS.1)).trans (hS.2.1 q h1 h2), hS.2.2⟩
theorem d_L_feed_0 : decode b_L_feed 0 = .ok (.aload 6, 2) := by decide +kernel
theorem d_L_feed_2 : decode b_L_feed 2 = .ok (.iconst 0, 1) := by decide +kernel
theorem d_L_feed_3 : decode b_L_feed 3 = .ok (.aload_n 0, 1) := by decide +kernel
theorem d_L_feed_4 : decode b_L_feed 4 = .ok (.iload_n 1, 1) := by decide +kernel
theorem d_L_feed_5 : decode b_L_feed 5 = .ok (.iload_n 2, 1) := by decide +kernel
theorem d_L_feed_6 : decode b_L_feed 6 = .ok (.iload_n 3, 1) := by decide +kernel
theorem d_L_feed_7 : decode b_L_feed 7 = .ok (.iload 4, 2) := by decide +kernel
theorem d_L_feed_9 : decode b_L_feed 9 = .ok (.iload 5, 2) := by decide +kernel
theorem d_L_feed_11 : decode b_L_feed 11 = .ok (.invokevirtual 7, 3) := by decide +kernel
theorem d_L_feed_14 : decode b_L_feed 14 = .ok (.i2l, 1) := by decide +kernel
theorem d_L_feed_15 : decode b_L_feed 15 = .ok (.lastore, 1) := by decide +kernel
theorem d_L_feed_16 : decode b_L_feed 16 = .ok (.goto 7, 3) := by decide +kernel
theorem d_L_feed_19 : decode b_L_feed 19 = .ok (.astore 7, 2) := by decide +kernel
theorem d_L_feed_21 : decode b_L_feed 21 = .ok (.iconst 1, 1) := by decide +kernel
theorem d_L_feed_22 : decode b_L_feed 22 = .ok (.ireturn, 1) := by decide +kernel
theorem d_L_feed_23 : decode b_L_feed 23 = .ok (.iconst 0, 1) := by decide +kernel
theorem d_L_feed_24 : decode b_L_feed 24 = .ok (.ireturn, 1) := by decide +kernel
theorem d_L_end_0 : decode b_L_end 0 = .ok (.aload_n 2, 1) := by decide +kernel
theorem d_L_end_1 : decode b_L_end 1 = .ok (.iconst 0, 1) := by decide +kernel
theorem d_L_end_2 : decode b_L_end 2 = .ok (.aload_n 0, 1) := by decide +kernel
theorem d_L_end_3 : decode b_L_end 3 = .ok (.iload_n 1, 1) := by decide +kernel
theorem d_L_end_4 : decode b_L_end 4 = .ok (.invokevirtual 15, 3) := by decide +kernel
theorem d_L_end_7 : decode b_L_end 7 = .ok (.i2l, 1) := by decide +kernel
theorem d_L_end_8 : decode b_L_end 8 = .ok (.lastore, 1) := by decide +kernel
theorem d_L_end_9 : decode b_L_end 9 = .ok (.goto 6, 3) := by decide +kernel
theorem d_L_end_12 : decode b_L_end 12 = .ok (.astore_n 3, 1) := by decide +kernel
theorem d_L_end_13 : decode b_L_end 13 = .ok (.iconst 1, 1) := by decide +kernel
theorem d_L_end_14 : decode b_L_end 14 = .ok (.ireturn, 1) := by decide +kernel
theorem d_L_end_15 : decode b_L_end 15 = .ok (.iconst 0, 1) := by decide +kernel
theorem d_L_end_16 : decode b_L_end 16 = .ok (.ireturn, 1) := by decide +kernel
theorem d_L_input_0 : decode b_L_input 0 = .ok (.aload_n 3, 1) := by decide +kernel
theorem d_L_input_1 : decode b_L_input 1 = .ok (.iconst 0, 1) := by decide +kernel
theorem d_L_input_2 : decode b_L_input 2 = .ok (.aload_n 0, 1) := by decide +kernel
theorem d_L_input_3 : decode b_L_input 3 = .ok (.iload_n 1, 1) := by decide +kernel
theorem d_L_input_4 : decode b_L_input 4 = .ok (.iload_n 2, 1) := by decide +kernel
theorem d_L_input_5 : decode b_L_input 5 = .ok (.invokevirtual 21, 3) := by decide +kernel
theorem d_L_input_8 : decode b_L_input 8 = .ok (.i2l, 1) := by decide +kernel
theorem d_L_input_9 : decode b_L_input 9 = .ok (.lastore, 1) := by decide +kernel
theorem d_L_input_10 : decode b_L_input 10 = .ok (.goto 11, 3) := by decide +kernel
theorem d_L_input_13 : decode b_L_input 13 = .ok (.astore 4, 2) := by decide +kernel
theorem d_L_input_15 : decode b_L_input 15 = .ok (.iconst 1, 1) := by decide +kernel
theorem d_L_input_16 : decode b_L_input 16 = .ok (.ireturn, 1) := by decide +kernel
theorem d_L_input_17 : decode b_L_input 17 = .ok (.astore 4, 2) := by decide +kernel
theorem d_L_input_19 : decode b_L_input 19 = .ok (.iconst 2, 1) := by decide +kernel
theorem d_L_input_20 : decode b_L_input 20 = .ok (.ireturn, 1) := by decide +kernel
theorem d_L_input_21 : decode b_L_input 21 = .ok (.iconst 0, 1) := by decide +kernel
theorem d_L_input_22 : decode b_L_input 22 = .ok (.ireturn, 1) := by decide +kernel
theorem d_L_tick_0 : decode b_L_tick 0 = .ok (.aload_n 2, 1) := by decide +kernel
theorem d_L_tick_1 : decode b_L_tick 1 = .ok (.iconst 0, 1) := by decide +kernel
theorem d_L_tick_2 : decode b_L_tick 2 = .ok (.aload_n 0, 1) := by decide +kernel
theorem d_L_tick_3 : decode b_L_tick 3 = .ok (.iload_n 1, 1) := by decide +kernel
theorem d_L_tick_4 : decode b_L_tick 4 = .ok (.invokevirtual 27, 3) := by decide +kernel
theorem d_L_tick_7 : decode b_L_tick 7 = .ok (.i2l, 1) := by decide +kernel
theorem d_L_tick_8 : decode b_L_tick 8 = .ok (.lastore, 1) := by decide +kernel
theorem d_L_tick_9 : decode b_L_tick 9 = .ok (.goto 9, 3) := by decide +kernel
theorem d_L_tick_12 : decode b_L_tick 12 = .ok (.astore_n 3, 1) := by decide +kernel
theorem d_L_tick_13 : decode b_L_tick 13 = .ok (.iconst 1, 1) := by decide +kernel
theorem d_L_tick_14 : decode b_L_tick 14 = .ok (.ireturn, 1) := by decide +kernel
theorem d_L_tick_15 : decode b_L_tick 15 = .ok (.astore_n 3, 1) := by decide +kernel
theorem d_L_tick_16 : decode b_L_tick 16 = .ok (.iconst 2, 1) := by decide +kernel
theorem d_L_tick_17 : decode b_L_tick 17 = .ok (.ireturn, 1) := by decide +kernel
theorem d_L_tick_18 : decode b_L_tick 18 = .ok (.iconst 0, 1) := by decide +kernel
theorem d_L_tick_19 : decode b_L_tick 19 = .ok (.ireturn, 1) := by decide +kernel
theorem d_L_value_0 : decode b_L_value 0 = .ok (.aload_n 2, 1) := by decide +kernel
theorem d_L_value_1 : decode b_L_value 1 = .ok (.iconst 0, 1) := by decide +kernel
theorem d_L_value_2 : decode b_L_value 2 = .ok (.aload_n 0, 1) := by decide +kernel
theorem d_L_value_3 : decode b_L_value 3 = .ok (.iload_n 1, 1) := by decide +kernel
theorem d_L_value_4 : decode b_L_value 4 = .ok (.invokevirtual 30, 3) := by decide +kernel
theorem d_L_value_7 : decode b_L_value 7 = .ok (.lastore, 1) := by decide +kernel
theorem d_L_value_8 : decode b_L_value 8 = .ok (.goto 9, 3) := by decide +kernel
theorem d_L_value_11 : decode b_L_value 11 = .ok (.astore_n 3, 1) := by decide +kernel
theorem d_L_value_12 : decode b_L_value 12 = .ok (.iconst 1, 1) := by decide +kernel
theorem d_L_value_13 : decode b_L_value 13 = .ok (.ireturn, 1) := by decide +kernel
theorem d_L_value_14 : decode b_L_value 14 = .ok (.astore_n 3, 1) := by decide +kernel
theorem d_L_value_15 : decode b_L_value 15 = .ok (.iconst 2, 1) := by decide +kernel
theorem d_L_value_16 : decode b_L_value 16 = .ok (.ireturn, 1) := by decide +kernel
theorem d_L_value_17 : decode b_L_value 17 = .ok (.iconst 0, 1) := by decide +kernel
theorem d_L_value_18 : decode b_L_value 18 = .ok (.ireturn, 1) := by decide +kernel
theorem d_L_about_0 : decode b_L_about 0 = .ok (.aload_n 3, 1) := by decide +kernel
theorem d_L_about_1 : decode b_L_about 1 = .ok (.iconst 0, 1) := by decide +kernel
theorem d_L_about_2 : decode b_L_about 2 = .ok (.aload_n 0, 1) := by decide +kernel
theorem d_L_about_3 : decode b_L_about 3 = .ok (.iload_n 1, 1) := by decide +kernel
theorem d_L_about_4 : decode b_L_about 4 = .ok (.iload_n 2, 1) := by decide +kernel
theorem d_L_about_5 : decode b_L_about 5 = .ok (.invokevirtual 34, 3) := by decide +kernel
theorem d_L_about_8 : decode b_L_about 8 = .ok (.i2l, 1) := by decide +kernel
theorem d_L_about_9 : decode b_L_about 9 = .ok (.lastore, 1) := by decide +kernel
theorem d_L_about_10 : decode b_L_about 10 = .ok (.goto 11, 3) := by decide +kernel
theorem d_L_about_13 : decode b_L_about 13 = .ok (.astore 4, 2) := by decide +kernel
theorem d_L_about_15 : decode b_L_about 15 = .ok (.iconst 1, 1) := by decide +kernel
theorem d_L_about_16 : decode b_L_about 16 = .ok (.ireturn, 1) := by decide +kernel
theorem d_L_about_17 : decode b_L_about 17 = .ok (.astore 4, 2) := by decide +kernel
theorem d_L_about_19 : decode b_L_about 19 = .ok (.iconst 2, 1) := by decide +kernel
theorem d_L_about_20 : decode b_L_about 20 = .ok (.ireturn, 1) := by decide +kernel
theorem d_L_about_21 : decode b_L_about 21 = .ok (.iconst 0, 1) := by decide +kernel
theorem d_L_about_22 : decode b_L_about 22 = .ok (.ireturn, 1) := by decide +kernel
theorem d_L_causes_0 : decode b_L_causes 0 = .ok (.aload_n 3, 1) := by decide +kernel
theorem d_L_causes_1 : decode b_L_causes 1 = .ok (.iconst 0, 1) := by decide +kernel
theorem d_L_causes_2 : decode b_L_causes 2 = .ok (.aload_n 0, 1) := by decide +kernel
theorem d_L_causes_3 : decode b_L_causes 3 = .ok (.iload_n 1, 1) := by decide +kernel
theorem d_L_causes_4 : decode b_L_causes 4 = .ok (.iload_n 2, 1) := by decide +kernel
theorem d_L_causes_5 : decode b_L_causes 5 = .ok (.invokevirtual 37, 3) := by decide +kernel
theorem d_L_causes_8 : decode b_L_causes 8 = .ok (.ifCond .eq 7, 3) := by decide +kernel
theorem d_L_causes_11 : decode b_L_causes 11 = .ok (.lconst 1, 1) := by decide +kernel
theorem d_L_causes_12 : decode b_L_causes 12 = .ok (.goto 4, 3) := by decide +kernel
theorem d_L_causes_15 : decode b_L_causes 15 = .ok (.lconst 0, 1) := by decide +kernel
theorem d_L_causes_16 : decode b_L_causes 16 = .ok (.lastore, 1) := by decide +kernel
theorem d_L_causes_17 : decode b_L_causes 17 = .ok (.goto 7, 3) := by decide +kernel
theorem d_L_causes_20 : decode b_L_causes 20 = .ok (.astore 4, 2) := by decide +kernel
theorem d_L_causes_22 : decode b_L_causes 22 = .ok (.iconst 1, 1) := by decide +kernel
theorem d_L_causes_23 : decode b_L_causes 23 = .ok (.ireturn, 1) := by decide +kernel
theorem d_L_causes_24 : decode b_L_causes 24 = .ok (.iconst 0, 1) := by decide +kernel
theorem d_L_causes_25 : decode b_L_causes 25 = .ok (.ireturn, 1) := by decide +kernel
theorem d_L_restart_0 : decode b_L_restart 0 = .ok (.aload_n 1, 1) := by decide +kernel
theorem d_L_restart_1 : decode b_L_restart 1 = .ok (.iconst 0, 1) := by decide +kernel
theorem d_L_restart_2 : decode b_L_restart 2 = .ok (.aload_n 0, 1) := by decide +kernel
theorem d_L_restart_3 : decode b_L_restart 3 = .ok (.invokevirtual 41, 3) := by decide +kernel
theorem d_L_restart_6 : decode b_L_restart 6 = .ok (.i2l, 1) := by decide +kernel
theorem d_L_restart_7 : decode b_L_restart 7 = .ok (.lastore, 1) := by decide +kernel
theorem d_L_restart_8 : decode b_L_restart 8 = .ok (.goto 6, 3) := by decide +kernel
theorem d_L_restart_11 : decode b_L_restart 11 = .ok (.astore_n 2, 1) := by decide +kernel
theorem d_L_restart_12 : decode b_L_restart 12 = .ok (.iconst 1, 1) := by decide +kernel
theorem d_L_restart_13 : decode b_L_restart 13 = .ok (.ireturn, 1) := by decide +kernel
theorem d_L_restart_14 : decode b_L_restart 14 = .ok (.iconst 0, 1) := by decide +kernel
theorem d_L_restart_15 : decode b_L_restart 15 = .ok (.ireturn, 1) := by decide +kernel
theorem d_L_keep_0 : decode b_L_keep 0 = .ok (.aload_n 0, 1) := by decide +kernel
theorem d_L_keep_1 : decode b_L_keep 1 = .ok (.invokevirtual 45, 3) := by decide +kernel
theorem d_L_keep_4 : decode b_L_keep 4 = .ok (.goto 6, 3) := by decide +kernel
theorem d_L_keep_7 : decode b_L_keep 7 = .ok (.astore_n 1, 1) := by decide +kernel
theorem d_L_keep_8 : decode b_L_keep 8 = .ok (.iconst 1, 1) := by decide +kernel
theorem d_L_keep_9 : decode b_L_keep 9 = .ok (.ireturn, 1) := by decide +kernel
theorem d_L_keep_10 : decode b_L_keep 10 = .ok (.iconst 0, 1) := by decide +kernel
theorem d_L_keep_11 : decode b_L_keep 11 = .ok (.ireturn, 1) := by decide +kernel
theorem d_L_back_0 : decode b_L_back 0 = .ok (.aload_n 1, 1) := by decide +kernel
theorem d_L_back_1 : decode b_L_back 1 = .ok (.iconst 0, 1) := by decide +kernel
theorem d_L_back_2 : decode b_L_back 2 = .ok (.aload_n 0, 1) := by decide +kernel
theorem d_L_back_3 : decode b_L_back 3 = .ok (.invokevirtual 48, 3) := by decide +kernel
theorem d_L_back_6 : decode b_L_back 6 = .ok (.i2l, 1) := by decide +kernel
theorem d_L_back_7 : decode b_L_back 7 = .ok (.lastore, 1) := by decide +kernel
theorem d_L_back_8 : decode b_L_back 8 = .ok (.goto 6, 3) := by decide +kernel
theorem d_L_back_11 : decode b_L_back 11 = .ok (.astore_n 2, 1) := by decide +kernel
theorem d_L_back_12 : decode b_L_back 12 = .ok (.iconst 1, 1) := by decide +kernel
theorem d_L_back_13 : decode b_L_back 13 = .ok (.ireturn, 1) := by decide +kernel
theorem d_L_back_14 : decode b_L_back 14 = .ok (.iconst 0, 1) := by decide +kernel
theorem d_L_back_15 : decode b_L_back 15 = .ok (.ireturn, 1) := by decide +kernel
set_option maxHeartbeats 4000000 in
set_option maxRecDepth 100000 in
theorem x_L_end (l : Launch) (hno : l.stackTraces = false) (D : va_G) (cI cB cJ cZ : ClassId) (sz : Nat) (h0 tk nd cd rd sl lk od pg gv tp : Nat) (tl ap mn it kp : Int32) (o : Nat) (fo : Nat → Int64) (n : Int32) (h1 : n < 0 ∨ ¬ n ≤ tl) : Met l y_L_end (Cond.codeWith y_L_end b_L_end 4 (some .int) [(0, 9, 12, 19)] :: gG) { frames := 7, cells := 1, slots := 6, locals := 150 } (va_Pc [.ref h0, .int n, .ref o] (ch_P D (tyL cI cB cJ cZ) [(h0, .inr (0, [.ref tk, .ref nd, .ref cd, .ref rd, .ref sl, .ref lk, .ref od, .ref pg, .ref gv, .ref tp, .int tl, .int ap, .int mn, .int it, .int kp])), (o, .inl (cJ, 1, .inr (.inl fo)))] sz)) (va_Qi (fun (r : Int32) (_ : Unit) => r = 1) (fun _ t => va_P D kl [(h0, .inr (0, [.ref tk, .ref nd, .ref cd, .ref rd, .ref sl, .ref lk, .ref od, .ref pg, .ref gv, .ref tp, .int tl, .int ap, .int mn, .int it, .int kp])), (o, .inl (cJ, 1, .inr (.inl fo)))] t.heap ∧ va_D (va_A [(h0, .inr (0, [.ref tk, .ref nd, .ref cd, .ref rd, .ref sl, .ref lk, .ref od, .ref pg, .ref gv, .ref tp, .int tl, .int ap, .int mn, .int it, .int kp])), (o, .inl (cJ, 1, .inr (.inl fo)))] sz) [(h0, .inr (0, [.ref tk, .ref nd, .ref cd, .ref rd, .ref sl, .ref lk, .ref od, .ref pg, .ref gv, .ref tp, .int tl, .int ap, .int mn, .int it, .int kp])), (o, .inl (cJ, 1, .inr (.inl fo)))]) (va_A [(h0, .inr (0, [.ref tk, .ref nd, .ref cd, .ref rd, .ref sl, .ref lk, .ref od, .ref pg, .ref gv, .ref tp, .int tl, .int ap, .int mn, .int it, .int kp])), (o, .inl (cJ, 1, .inr (.inl fo)))] sz)) 1 6 (va_A [(h0, .inr (0, [.ref tk, .ref nd, .ref cd, .ref rd, .ref sl, .ref lk, .ref od, .ref pg, .ref gv, .ref tp, .int tl, .int ap, .int mn, .int it, .int kp])), (o, .inl (cJ, 1, .inr (.inl fo)))] sz) := by
  refine mx_ofW (cc := b_L_end) (maxL := 4) (ret := (some .int)) (hh := [(0, 9, 12, 19)]) (by decide) rfl ?_
  intro p e s m args below meth c s₁ B hml htab hv
  obtain ⟨rfl, ⟨hsz, hP, hK, hD0⟩, hX, hN⟩ := hv
  have hx := B.exec
  have hb := B.bytes
  have hr := B.returns
  have hts := atoms_spec (ws := Cond.codeWith y_L_end b_L_end 4 (some .int) [(0, 9, 12, 19)] :: gG) B.pre
  have hG : ∀ w9 ∈ gG, w9.before [.ref h0, .int n, .ref o].toArray s = true := fun w9 h => hts w9 (List.mem_cons_of_mem _ h)
  have hown : s.vm.findClass R_L = some m.cls := findClass_of_methodNamed B.named
  have hlocks := B.notSynchronized
  subst hsz
  have hD := hD0.self (sz := s.heap.size)
  generalize hAe : va_A [(h0, .inr (0, [.ref tk, .ref nd, .ref cd, .ref rd, .ref sl, .ref lk, .ref od, .ref pg, .ref gv, .ref tp, .int tl, .int ap, .int mn, .int it, .int kp])), (o, .inl (cJ, 1, .inr (.inl fo)))] s.heap.size = A at hD hX ⊢
  have hA : ∀ q : Nat, s.heap.size ≤ q → A q := fun q h => by rw [← hAe]; exact Or.inr h
  have hS : va_S A s.heap s.heap [] := va_S.rf
  have hl := lv_entry ([.ref h0, .int n, .ref o]) (n := 4) (Nat.le_of_ble_eq_true rfl)
  rw [lg_entry_eq]
  generalize (lg_sl ([.ref h0, .int n, .ref o]) ++ List.replicate (4 - (lg_sl ([.ref h0, .int n, .ref o])).length) Slot.unset).toArray = ls at hl ⊢
  have hl : lv_has ls 4 [(0, .ref h0), (1, .int n), (2, .ref o)] := hl
  refine lv_aload_n hx hb d_L_end_0 rfl (lv_at hl 2 rfl) ?_
  refine lv_iconst (v := 0) hx hb d_L_end_1 (by decide) ?_
  refine lv_aload_n hx hb d_L_end_2 rfl (lv_at hl 0 rfl) ?_
  refine lv_iload_n hx hb d_L_end_3 rfl (lv_at hl 1 rfl) ?_
  have hPc := hP.sub (ws' := [(h0, .inr (0, [.ref tk, .ref nd, .ref cd, .ref rd, .ref sl, .ref lk, .ref od, .ref pg, .ref gv, .ref tp, .int tl, .int ap, .int mn, .int it, .int kp]))]) [0] rfl
  have hDc := hD.sub (ws' := [(h0, .inr (0, [.ref tk, .ref nd, .ref cd, .ref rd, .ref sl, .ref lk, .ref od, .ref pg, .ref gv, .ref tp, .int tl, .int ap, .int mn, .int it, .int kp]))]) [0] (by decide) rfl
  refine xt_callV (As := [.int n]) (rest := [.int 0, .ref o]) (C := R_S) ⟨hx, hb, hml, hown, hG⟩ (x_S_end l hno D cI cB cJ cZ s.heap.size h0 tk nd cd rd sl lk od pg gv tp tl ap mn it kp n h1) (gcV 1 gG_good hG ml_L_15 im_S_end se_S_end in_S co_S_end rfl rfl (by decide +kernel) ⟨(Nat.le_of_ble_eq_true rfl), (Nat.le_of_ble_eq_true rfl)⟩) (cx_preV hPc hK hDc (ci := 0) (q0 := 0) rfl rfl hX hS) rfl rfl hl.1 rfl (lv_room (Nat.le_of_ble_eq_true rfl)) d_L_end_4 ⟨(Nat.le_of_ble_eq_true rfl), (Nat.le_of_ble_eq_true rfl)⟩ (fun a ce st₀ t H L hst ht hvm hQ hL haz hce hcv hcl => ?_)
  obtain rfl := xt_L hL
  obtain ⟨hQ1, hQ2⟩ := hQ
  rw [hst, ht] at hQ1 hQ2
  have hP := xt_keepP hP hQ2
  have hS := xt_keepS hS hQ1 hQ2
  refine xt_N1 (own := R_L) (E := "java/lang/IllegalArgumentException") (pc := 4) (ls := ls) (st := [.int 0, .ref o]) hown hce hcv hcl htab (by decide) (by decide) (by decide) (hG _ cl_L_19) ?_
  refine lv_astore_n (lv' := [(3, .ref a), (0, .ref h0), (1, .int n), (2, .ref o)]) hx hb d_L_end_12 rfl hl (by decide) rfl (fun ls hl => ?_)
  refine lv_iconst (v := 1) hx hb d_L_end_13 (by decide) ?_
  refine W.widen (k := 1) (n := 6) (Nat.le_of_ble_eq_true rfl) (Nat.le_of_ble_eq_true rfl) ?_
  exact W.iret (v := 1) hx hb hr (fun t ht hW => ⟨⟨1, (), rfl, rfl, by rw [ht]; exact hP, hD⟩, hS.F ht⟩) hS.2.2 d_L_end_14

set_option maxHeartbeats 4000000 in
set_option maxRecDepth 100000 in
theorem x_L_input (l : Launch) (hno : l.stackTraces = false) (D : va_G) (cI cB cJ cZ : ClassId) (sz : Nat) (h0 tk nd cd rd sl lk od pg gv tp : Nat) (tl ap mn it kp : Int32) (o : Nat) (fo : Nat → Int64) (i v : Int32) (h1 : mn < 0) : Met l y_L_input (Cond.codeWith y_L_input b_L_input 5 (some .int) [(0, 10, 13, 25), (0, 10, 17, 19)] :: gG) { frames := 7, cells := 1, slots := 6, locals := 150 } (va_Pc [.ref h0, .int i, .int v, .ref o] (ch_P D (tyL cI cB cJ cZ) [(h0, .inr (0, [.ref tk, .ref nd, .ref cd, .ref rd, .ref sl, .ref lk, .ref od, .ref pg, .ref gv, .ref tp, .int tl, .int ap, .int mn, .int it, .int kp])), (o, .inl (cJ, 1, .inr (.inl fo)))] sz)) (va_Qi (fun (r : Int32) (_ : Unit) => r = 1) (fun _ t => va_P D kl [(h0, .inr (0, [.ref tk, .ref nd, .ref cd, .ref rd, .ref sl, .ref lk, .ref od, .ref pg, .ref gv, .ref tp, .int tl, .int ap, .int mn, .int it, .int kp])), (o, .inl (cJ, 1, .inr (.inl fo)))] t.heap ∧ va_D (va_A [(h0, .inr (0, [.ref tk, .ref nd, .ref cd, .ref rd, .ref sl, .ref lk, .ref od, .ref pg, .ref gv, .ref tp, .int tl, .int ap, .int mn, .int it, .int kp])), (o, .inl (cJ, 1, .inr (.inl fo)))] sz) [(h0, .inr (0, [.ref tk, .ref nd, .ref cd, .ref rd, .ref sl, .ref lk, .ref od, .ref pg, .ref gv, .ref tp, .int tl, .int ap, .int mn, .int it, .int kp])), (o, .inl (cJ, 1, .inr (.inl fo)))]) (va_A [(h0, .inr (0, [.ref tk, .ref nd, .ref cd, .ref rd, .ref sl, .ref lk, .ref od, .ref pg, .ref gv, .ref tp, .int tl, .int ap, .int mn, .int it, .int kp])), (o, .inl (cJ, 1, .inr (.inl fo)))] sz)) 1 6 (va_A [(h0, .inr (0, [.ref tk, .ref nd, .ref cd, .ref rd, .ref sl, .ref lk, .ref od, .ref pg, .ref gv, .ref tp, .int tl, .int ap, .int mn, .int it, .int kp])), (o, .inl (cJ, 1, .inr (.inl fo)))] sz) := by
  refine mx_ofW (cc := b_L_input) (maxL := 5) (ret := (some .int)) (hh := [(0, 10, 13, 25), (0, 10, 17, 19)]) (by decide) rfl ?_
  intro p e s m args below meth c s₁ B hml htab hv
  obtain ⟨rfl, ⟨hsz, hP, hK, hD0⟩, hX, hN⟩ := hv
  have hx := B.exec
  have hb := B.bytes
  have hr := B.returns
  have hts := atoms_spec (ws := Cond.codeWith y_L_input b_L_input 5 (some .int) [(0, 10, 13, 25), (0, 10, 17, 19)] :: gG) B.pre
  have hG : ∀ w9 ∈ gG, w9.before [.ref h0, .int i, .int v, .ref o].toArray s = true := fun w9 h => hts w9 (List.mem_cons_of_mem _ h)
  have hown : s.vm.findClass R_L = some m.cls := findClass_of_methodNamed B.named
  have hlocks := B.notSynchronized
  subst hsz
  have hD := hD0.self (sz := s.heap.size)
  generalize hAe : va_A [(h0, .inr (0, [.ref tk, .ref nd, .ref cd, .ref rd, .ref sl, .ref lk, .ref od, .ref pg, .ref gv, .ref tp, .int tl, .int ap, .int mn, .int it, .int kp])), (o, .inl (cJ, 1, .inr (.inl fo)))] s.heap.size = A at hD hX ⊢
  have hA : ∀ q : Nat, s.heap.size ≤ q → A q := fun q h => by rw [← hAe]; exact Or.inr h
  have hS : va_S A s.heap s.heap [] := va_S.rf
  have hl := lv_entry ([.ref h0, .int i, .int v, .ref o]) (n := 5) (Nat.le_of_ble_eq_true rfl)
  rw [lg_entry_eq]
  generalize (lg_sl ([.ref h0, .int i, .int v, .ref o]) ++ List.replicate (5 - (lg_sl ([.ref h0, .int i, .int v, .ref o])).length) Slot.unset).toArray = ls at hl ⊢
  have hl : lv_has ls 5 [(0, .ref h0), (1, .int i), (2, .int v), (3, .ref o)] := hl
  refine lv_aload_n hx hb d_L_input_0 rfl (lv_at hl 3 rfl) ?_
  refine lv_iconst (v := 0) hx hb d_L_input_1 (by decide) ?_
  refine lv_aload_n hx hb d_L_input_2 rfl (lv_at hl 0 rfl) ?_
  refine lv_iload_n hx hb d_L_input_3 rfl (lv_at hl 1 rfl) ?_
  refine lv_iload_n hx hb d_L_input_4 rfl (lv_at hl 2 rfl) ?_
  have hPc := hP.sub (ws' := [(h0, .inr (0, [.ref tk, .ref nd, .ref cd, .ref rd, .ref sl, .ref lk, .ref od, .ref pg, .ref gv, .ref tp, .int tl, .int ap, .int mn, .int it, .int kp]))]) [0] rfl
  have hDc := hD.sub (ws' := [(h0, .inr (0, [.ref tk, .ref nd, .ref cd, .ref rd, .ref sl, .ref lk, .ref od, .ref pg, .ref gv, .ref tp, .int tl, .int ap, .int mn, .int it, .int kp]))]) [0] (by decide) rfl
  refine xt_callV (As := [.int i, .int v]) (rest := [.int 0, .ref o]) (C := R_S) ⟨hx, hb, hml, hown, hG⟩ (x_S_input l hno D cI cB cJ cZ s.heap.size h0 tk nd cd rd sl lk od pg gv tp tl ap mn it kp i v h1) (gcV 2 gG_good hG ml_L_21 im_S_input se_S_input in_S co_S_input rfl rfl (by decide +kernel) ⟨(Nat.le_of_ble_eq_true rfl), (Nat.le_of_ble_eq_true rfl)⟩) (cx_preV hPc hK hDc (ci := 0) (q0 := 0) rfl rfl hX hS) rfl rfl hl.1 rfl (lv_room (Nat.le_of_ble_eq_true rfl)) d_L_input_5 ⟨(Nat.le_of_ble_eq_true rfl), (Nat.le_of_ble_eq_true rfl)⟩ (fun a ce st₀ t H L hst ht hvm hQ hL haz hce hcv hcl => ?_)
  obtain rfl := xt_L hL
  obtain ⟨hQ1, hQ2⟩ := hQ
  rw [hst, ht] at hQ1 hQ2
  have hP := xt_keepP hP hQ2
  have hS := xt_keepS hS hQ1 hQ2
  refine xt_N1 (own := R_L) (E := "java/util/NoSuchElementException") (pc := 5) (ls := ls) (st := [.int 0, .ref o]) hown hce hcv hcl htab (by decide) (by decide) (by decide) (hG _ cl_L_25) ?_
  refine lv_astore (lv' := [(4, .ref a), (0, .ref h0), (1, .int i), (2, .int v), (3, .ref o)]) hx hb d_L_input_13 hl (by decide) rfl (fun ls hl => ?_)
  refine lv_iconst (v := 1) hx hb d_L_input_15 (by decide) ?_
  refine W.widen (k := 1) (n := 6) (Nat.le_of_ble_eq_true rfl) (Nat.le_of_ble_eq_true rfl) ?_
  exact W.iret (v := 1) hx hb hr (fun t ht hW => ⟨⟨1, (), rfl, rfl, by rw [ht]; exact hP, hD⟩, hS.F ht⟩) hS.2.2 d_L_input_16

set_option maxHeartbeats 4000000 in
set_option maxRecDepth 100000 in
theorem x_L_tick1 (l : Launch) (hno : l.stackTraces = false) (D : va_G) (cI cB cJ cZ : ClassId) (sz : Nat) (h0 tk nd cd rd sl lk od pg gv tp : Nat) (tl ap mn it kp : Int32) (o : Nat) (fo : Nat → Int64) (n : Int32) (h1 : n < 1 ∨ 1000 < n) : Met l y_L_tick (Cond.codeWith y_L_tick b_L_tick 4 (some .int) [(0, 9, 12, 19), (0, 9, 15, 13)] :: gG) { frames := 7, cells := 1, slots := 6, locals := 150 } (va_Pc [.ref h0, .int n, .ref o] (ch_P D (tyL cI cB cJ cZ) [(h0, .inr (0, [.ref tk, .ref nd, .ref cd, .ref rd, .ref sl, .ref lk, .ref od, .ref pg, .ref gv, .ref tp, .int tl, .int ap, .int mn, .int it, .int kp])), (o, .inl (cJ, 1, .inr (.inl fo)))] sz)) (va_Qi (fun (r : Int32) (_ : Unit) => r = 1) (fun _ t => va_P D kl [(h0, .inr (0, [.ref tk, .ref nd, .ref cd, .ref rd, .ref sl, .ref lk, .ref od, .ref pg, .ref gv, .ref tp, .int tl, .int ap, .int mn, .int it, .int kp])), (o, .inl (cJ, 1, .inr (.inl fo)))] t.heap ∧ va_D (va_A [(h0, .inr (0, [.ref tk, .ref nd, .ref cd, .ref rd, .ref sl, .ref lk, .ref od, .ref pg, .ref gv, .ref tp, .int tl, .int ap, .int mn, .int it, .int kp])), (o, .inl (cJ, 1, .inr (.inl fo)))] sz) [(h0, .inr (0, [.ref tk, .ref nd, .ref cd, .ref rd, .ref sl, .ref lk, .ref od, .ref pg, .ref gv, .ref tp, .int tl, .int ap, .int mn, .int it, .int kp])), (o, .inl (cJ, 1, .inr (.inl fo)))]) (va_A [(h0, .inr (0, [.ref tk, .ref nd, .ref cd, .ref rd, .ref sl, .ref lk, .ref od, .ref pg, .ref gv, .ref tp, .int tl, .int ap, .int mn, .int it, .int kp])), (o, .inl (cJ, 1, .inr (.inl fo)))] sz)) 1 6 (va_A [(h0, .inr (0, [.ref tk, .ref nd, .ref cd, .ref rd, .ref sl, .ref lk, .ref od, .ref pg, .ref gv, .ref tp, .int tl, .int ap, .int mn, .int it, .int kp])), (o, .inl (cJ, 1, .inr (.inl fo)))] sz) := by
  refine mx_ofW (cc := b_L_tick) (maxL := 4) (ret := (some .int)) (hh := [(0, 9, 12, 19), (0, 9, 15, 13)]) (by decide) rfl ?_
  intro p e s m args below meth c s₁ B hml htab hv
  obtain ⟨rfl, ⟨hsz, hP, hK, hD0⟩, hX, hN⟩ := hv
  have hx := B.exec
  have hb := B.bytes
  have hr := B.returns
  have hts := atoms_spec (ws := Cond.codeWith y_L_tick b_L_tick 4 (some .int) [(0, 9, 12, 19), (0, 9, 15, 13)] :: gG) B.pre
  have hG : ∀ w9 ∈ gG, w9.before [.ref h0, .int n, .ref o].toArray s = true := fun w9 h => hts w9 (List.mem_cons_of_mem _ h)
  have hown : s.vm.findClass R_L = some m.cls := findClass_of_methodNamed B.named
  have hlocks := B.notSynchronized
  subst hsz
  have hD := hD0.self (sz := s.heap.size)
  generalize hAe : va_A [(h0, .inr (0, [.ref tk, .ref nd, .ref cd, .ref rd, .ref sl, .ref lk, .ref od, .ref pg, .ref gv, .ref tp, .int tl, .int ap, .int mn, .int it, .int kp])), (o, .inl (cJ, 1, .inr (.inl fo)))] s.heap.size = A at hD hX ⊢
  have hA : ∀ q : Nat, s.heap.size ≤ q → A q := fun q h => by rw [← hAe]; exact Or.inr h
  have hS : va_S A s.heap s.heap [] := va_S.rf
  have hl := lv_entry ([.ref h0, .int n, .ref o]) (n := 4) (Nat.le_of_ble_eq_true rfl)
  rw [lg_entry_eq]
  generalize (lg_sl ([.ref h0, .int n, .ref o]) ++ List.replicate (4 - (lg_sl ([.ref h0, .int n, .ref o])).length) Slot.unset).toArray = ls at hl ⊢
  have hl : lv_has ls 4 [(0, .ref h0), (1, .int n), (2, .ref o)] := hl
  refine lv_aload_n hx hb d_L_tick_0 rfl (lv_at hl 2 rfl) ?_
  refine lv_iconst (v := 0) hx hb d_L_tick_1 (by decide) ?_
  refine lv_aload_n hx hb d_L_tick_2 rfl (lv_at hl 0 rfl) ?_
  refine lv_iload_n hx hb d_L_tick_3 rfl (lv_at hl 1 rfl) ?_
  have hPc := hP.sub (ws' := [(h0, .inr (0, [.ref tk, .ref nd, .ref cd, .ref rd, .ref sl, .ref lk, .ref od, .ref pg, .ref gv, .ref tp, .int tl, .int ap, .int mn, .int it, .int kp]))]) [0] rfl
  have hDc := hD.sub (ws' := [(h0, .inr (0, [.ref tk, .ref nd, .ref cd, .ref rd, .ref sl, .ref lk, .ref od, .ref pg, .ref gv, .ref tp, .int tl, .int ap, .int mn, .int it, .int kp]))]) [0] (by decide) rfl
  refine xt_callV (As := [.int n]) (rest := [.int 0, .ref o]) (C := R_S) ⟨hx, hb, hml, hown, hG⟩ (x_S_tick1 l hno D cI cB cJ cZ s.heap.size h0 tk nd cd rd sl lk od pg gv tp tl ap mn it kp n h1) (gcV 1 gG_good hG ml_L_27 im_S_tick se_S_tick in_S co_S_tick rfl rfl (by decide +kernel) ⟨(Nat.le_of_ble_eq_true rfl), (Nat.le_of_ble_eq_true rfl)⟩) (cx_preV hPc hK hDc (ci := 0) (q0 := 0) rfl rfl hX hS) rfl rfl hl.1 rfl (lv_room (Nat.le_of_ble_eq_true rfl)) d_L_tick_4 ⟨(Nat.le_of_ble_eq_true rfl), (Nat.le_of_ble_eq_true rfl)⟩ (fun a ce st₀ t H L hst ht hvm hQ hL haz hce hcv hcl => ?_)
  obtain rfl := xt_L hL
  obtain ⟨hQ1, hQ2⟩ := hQ
  rw [hst, ht] at hQ1 hQ2
  have hP := xt_keepP hP hQ2
  have hS := xt_keepS hS hQ1 hQ2
  refine xt_N1 (own := R_L) (E := "java/lang/IllegalArgumentException") (pc := 4) (ls := ls) (st := [.int 0, .ref o]) hown hce hcv hcl htab (by decide) (by decide) (by decide) (hG _ cl_L_19) ?_
  refine lv_astore_n (lv' := [(3, .ref a), (0, .ref h0), (1, .int n), (2, .ref o)]) hx hb d_L_tick_12 rfl hl (by decide) rfl (fun ls hl => ?_)
  refine lv_iconst (v := 1) hx hb d_L_tick_13 (by decide) ?_
  refine W.widen (k := 1) (n := 6) (Nat.le_of_ble_eq_true rfl) (Nat.le_of_ble_eq_true rfl) ?_
  exact W.iret (v := 1) hx hb hr (fun t ht hW => ⟨⟨1, (), rfl, rfl, by rw [ht]; exact hP, hD⟩, hS.F ht⟩) hS.2.2 d_L_tick_14

set_option maxHeartbeats 4000000 in
set_option maxRecDepth 100000 in
theorem x_L_tick2 (l : Launch) (hno : l.stackTraces = false) (D : va_G) (cI cB cJ cZ : ClassId) (sz : Nat) (h0 tk nd cd rd sl lk od pg gv tp : Nat) (tl ap mn it kp : Int32) (o : Nat) (fo : Nat → Int64) (n : Int32) (h1 : ¬ n < 1) (h2 : n ≤ 1000) (h3 : mn < 0) : Met l y_L_tick (Cond.codeWith y_L_tick b_L_tick 4 (some .int) [(0, 9, 12, 19), (0, 9, 15, 13)] :: gG) { frames := 7, cells := 1, slots := 6, locals := 150 } (va_Pc [.ref h0, .int n, .ref o] (ch_P D (tyL cI cB cJ cZ) [(h0, .inr (0, [.ref tk, .ref nd, .ref cd, .ref rd, .ref sl, .ref lk, .ref od, .ref pg, .ref gv, .ref tp, .int tl, .int ap, .int mn, .int it, .int kp])), (o, .inl (cJ, 1, .inr (.inl fo)))] sz)) (va_Qi (fun (r : Int32) (_ : Unit) => r = 2) (fun _ t => va_P D kl [(h0, .inr (0, [.ref tk, .ref nd, .ref cd, .ref rd, .ref sl, .ref lk, .ref od, .ref pg, .ref gv, .ref tp, .int tl, .int ap, .int mn, .int it, .int kp])), (o, .inl (cJ, 1, .inr (.inl fo)))] t.heap ∧ va_D (va_A [(h0, .inr (0, [.ref tk, .ref nd, .ref cd, .ref rd, .ref sl, .ref lk, .ref od, .ref pg, .ref gv, .ref tp, .int tl, .int ap, .int mn, .int it, .int kp])), (o, .inl (cJ, 1, .inr (.inl fo)))] sz) [(h0, .inr (0, [.ref tk, .ref nd, .ref cd, .ref rd, .ref sl, .ref lk, .ref od, .ref pg, .ref gv, .ref tp, .int tl, .int ap, .int mn, .int it, .int kp])), (o, .inl (cJ, 1, .inr (.inl fo)))]) (va_A [(h0, .inr (0, [.ref tk, .ref nd, .ref cd, .ref rd, .ref sl, .ref lk, .ref od, .ref pg, .ref gv, .ref tp, .int tl, .int ap, .int mn, .int it, .int kp])), (o, .inl (cJ, 1, .inr (.inl fo)))] sz)) 1 6 (va_A [(h0, .inr (0, [.ref tk, .ref nd, .ref cd, .ref rd, .ref sl, .ref lk, .ref od, .ref pg, .ref gv, .ref tp, .int tl, .int ap, .int mn, .int it, .int kp])), (o, .inl (cJ, 1, .inr (.inl fo)))] sz) := by
  refine mx_ofW (cc := b_L_tick) (maxL := 4) (ret := (some .int)) (hh := [(0, 9, 12, 19), (0, 9, 15, 13)]) (by decide) rfl ?_
  intro p e s m args below meth c s₁ B hml htab hv
  obtain ⟨rfl, ⟨hsz, hP, hK, hD0⟩, hX, hN⟩ := hv
  have hx := B.exec
  have hb := B.bytes
  have hr := B.returns
  have hts := atoms_spec (ws := Cond.codeWith y_L_tick b_L_tick 4 (some .int) [(0, 9, 12, 19), (0, 9, 15, 13)] :: gG) B.pre
  have hG : ∀ w9 ∈ gG, w9.before [.ref h0, .int n, .ref o].toArray s = true := fun w9 h => hts w9 (List.mem_cons_of_mem _ h)
  have hown : s.vm.findClass R_L = some m.cls := findClass_of_methodNamed B.named
  have hlocks := B.notSynchronized
  subst hsz
  have hD := hD0.self (sz := s.heap.size)
  generalize hAe : va_A [(h0, .inr (0, [.ref tk, .ref nd, .ref cd, .ref rd, .ref sl, .ref lk, .ref od, .ref pg, .ref gv, .ref tp, .int tl, .int ap, .int mn, .int it, .int kp])), (o, .inl (cJ, 1, .inr (.inl fo)))] s.heap.size = A at hD hX ⊢
  have hA : ∀ q : Nat, s.heap.size ≤ q → A q := fun q h => by rw [← hAe]; exact Or.inr h
  have hS : va_S A s.heap s.heap [] := va_S.rf
  have hl := lv_entry ([.ref h0, .int n, .ref o]) (n := 4) (Nat.le_of_ble_eq_true rfl)
  rw [lg_entry_eq]
  generalize (lg_sl ([.ref h0, .int n, .ref o]) ++ List.replicate (4 - (lg_sl ([.ref h0, .int n, .ref o])).length) Slot.unset).toArray = ls at hl ⊢
  have hl : lv_has ls 4 [(0, .ref h0), (1, .int n), (2, .ref o)] := hl
  refine lv_aload_n hx hb d_L_tick_0 rfl (lv_at hl 2 rfl) ?_
  refine lv_iconst (v := 0) hx hb d_L_tick_1 (by decide) ?_
  refine lv_aload_n hx hb d_L_tick_2 rfl (lv_at hl 0 rfl) ?_
  refine lv_iload_n hx hb d_L_tick_3 rfl (lv_at hl 1 rfl) ?_
  have hPc := hP.sub (ws' := [(h0, .inr (0, [.ref tk, .ref nd, .ref cd, .ref rd, .ref sl, .ref lk, .ref od, .ref pg, .ref gv, .ref tp, .int tl, .int ap, .int mn, .int it, .int kp]))]) [0] rfl
  have hDc := hD.sub (ws' := [(h0, .inr (0, [.ref tk, .ref nd, .ref cd, .ref rd, .ref sl, .ref lk, .ref od, .ref pg, .ref gv, .ref tp, .int tl, .int ap, .int mn, .int it, .int kp]))]) [0] (by decide) rfl
  refine xt_callV (As := [.int n]) (rest := [.int 0, .ref o]) (C := R_S) ⟨hx, hb, hml, hown, hG⟩ (x_S_tick2 l hno D cI cB cJ cZ s.heap.size h0 tk nd cd rd sl lk od pg gv tp tl ap mn it kp n h1 h2 h3) (gcV 1 gG_good hG ml_L_27 im_S_tick se_S_tick in_S co_S_tick rfl rfl (by decide +kernel) ⟨(Nat.le_of_ble_eq_true rfl), (Nat.le_of_ble_eq_true rfl)⟩) (cx_preV hPc hK hDc (ci := 0) (q0 := 0) rfl rfl hX hS) rfl rfl hl.1 rfl (lv_room (Nat.le_of_ble_eq_true rfl)) d_L_tick_4 ⟨(Nat.le_of_ble_eq_true rfl), (Nat.le_of_ble_eq_true rfl)⟩ (fun a ce st₀ t H L hst ht hvm hQ hL haz hce hcv hcl => ?_)
  obtain rfl := xt_L hL
  obtain ⟨hQ1, hQ2⟩ := hQ
  rw [hst, ht] at hQ1 hQ2
  have hP := xt_keepP hP hQ2
  have hS := xt_keepS hS hQ1 hQ2
  refine xt_N2 (own := R_L) (E := "java/lang/IllegalStateException") (E1 := "java/lang/IllegalArgumentException") (pc := 4) (ls := ls) (st := [.int 0, .ref o]) hown hce hcv hcl htab (by decide) (by decide) (by decide) (by decide) (by decide) (by decide) (hG _ cl_L_19) hN.1 (hG _ cl_L_13) ?_
  refine lv_astore_n (lv' := [(3, .ref a), (0, .ref h0), (1, .int n), (2, .ref o)]) hx hb d_L_tick_15 rfl hl (by decide) rfl (fun ls hl => ?_)
  refine lv_iconst (v := 2) hx hb d_L_tick_16 (by decide) ?_
  refine W.widen (k := 1) (n := 6) (Nat.le_of_ble_eq_true rfl) (Nat.le_of_ble_eq_true rfl) ?_
  exact W.iret (v := 2) hx hb hr (fun t ht hW => ⟨⟨2, (), rfl, rfl, by rw [ht]; exact hP, hD⟩, hS.F ht⟩) hS.2.2 d_L_tick_17

set_option maxHeartbeats 4000000 in
set_option maxRecDepth 100000 in
theorem x_L_value (l : Launch) (hno : l.stackTraces = false) (D : va_G) (cI cB cJ cZ : ClassId) (sz : Nat) (h0 tk nd cd rd sl lk od pg gv tp : Nat) (tl ap mn it kp : Int32) (o : Nat) (fo : Nat → Int64) (k : Int32) (h1 : mn < 0) : Met l y_L_value (Cond.codeWith y_L_value b_L_value 4 (some .int) [(0, 8, 11, 25), (0, 8, 14, 13)] :: gG) { frames := 7, cells := 1, slots := 6, locals := 150 } (va_Pc [.ref h0, .int k, .ref o] (ch_P D (tyL cI cB cJ cZ) [(h0, .inr (0, [.ref tk, .ref nd, .ref cd, .ref rd, .ref sl, .ref lk, .ref od, .ref pg, .ref gv, .ref tp, .int tl, .int ap, .int mn, .int it, .int kp])), (o, .inl (cJ, 1, .inr (.inl fo)))] sz)) (va_Qi (fun (r : Int32) (_ : Unit) => r = 1) (fun _ t => va_P D kl [(h0, .inr (0, [.ref tk, .ref nd, .ref cd, .ref rd, .ref sl, .ref lk, .ref od, .ref pg, .ref gv, .ref tp, .int tl, .int ap, .int mn, .int it, .int kp])), (o, .inl (cJ, 1, .inr (.inl fo)))] t.heap ∧ va_D (va_A [(h0, .inr (0, [.ref tk, .ref nd, .ref cd, .ref rd, .ref sl, .ref lk, .ref od, .ref pg, .ref gv, .ref tp, .int tl, .int ap, .int mn, .int it, .int kp])), (o, .inl (cJ, 1, .inr (.inl fo)))] sz) [(h0, .inr (0, [.ref tk, .ref nd, .ref cd, .ref rd, .ref sl, .ref lk, .ref od, .ref pg, .ref gv, .ref tp, .int tl, .int ap, .int mn, .int it, .int kp])), (o, .inl (cJ, 1, .inr (.inl fo)))]) (va_A [(h0, .inr (0, [.ref tk, .ref nd, .ref cd, .ref rd, .ref sl, .ref lk, .ref od, .ref pg, .ref gv, .ref tp, .int tl, .int ap, .int mn, .int it, .int kp])), (o, .inl (cJ, 1, .inr (.inl fo)))] sz)) 1 6 (va_A [(h0, .inr (0, [.ref tk, .ref nd, .ref cd, .ref rd, .ref sl, .ref lk, .ref od, .ref pg, .ref gv, .ref tp, .int tl, .int ap, .int mn, .int it, .int kp])), (o, .inl (cJ, 1, .inr (.inl fo)))] sz) := by
  refine mx_ofW (cc := b_L_value) (maxL := 4) (ret := (some .int)) (hh := [(0, 8, 11, 25), (0, 8, 14, 13)]) (by decide) rfl ?_
  intro p e s m args below meth c s₁ B hml htab hv
  obtain ⟨rfl, ⟨hsz, hP, hK, hD0⟩, hX, hN⟩ := hv
  have hx := B.exec
  have hb := B.bytes
  have hr := B.returns
  have hts := atoms_spec (ws := Cond.codeWith y_L_value b_L_value 4 (some .int) [(0, 8, 11, 25), (0, 8, 14, 13)] :: gG) B.pre
  have hG : ∀ w9 ∈ gG, w9.before [.ref h0, .int k, .ref o].toArray s = true := fun w9 h => hts w9 (List.mem_cons_of_mem _ h)
  have hown : s.vm.findClass R_L = some m.cls := findClass_of_methodNamed B.named
  have hlocks := B.notSynchronized
  subst hsz
  have hD := hD0.self (sz := s.heap.size)
  generalize hAe : va_A [(h0, .inr (0, [.ref tk, .ref nd, .ref cd, .ref rd, .ref sl, .ref lk, .ref od, .ref pg, .ref gv, .ref tp, .int tl, .int ap, .int mn, .int it, .int kp])), (o, .inl (cJ, 1, .inr (.inl fo)))] s.heap.size = A at hD hX ⊢
  have hA : ∀ q : Nat, s.heap.size ≤ q → A q := fun q h => by rw [← hAe]; exact Or.inr h
  have hS : va_S A s.heap s.heap [] := va_S.rf
  have hl := lv_entry ([.ref h0, .int k, .ref o]) (n := 4) (Nat.le_of_ble_eq_true rfl)
  rw [lg_entry_eq]
  generalize (lg_sl ([.ref h0, .int k, .ref o]) ++ List.replicate (4 - (lg_sl ([.ref h0, .int k, .ref o])).length) Slot.unset).toArray = ls at hl ⊢
  have hl : lv_has ls 4 [(0, .ref h0), (1, .int k), (2, .ref o)] := hl
  refine lv_aload_n hx hb d_L_value_0 rfl (lv_at hl 2 rfl) ?_
  refine lv_iconst (v := 0) hx hb d_L_value_1 (by decide) ?_
  refine lv_aload_n hx hb d_L_value_2 rfl (lv_at hl 0 rfl) ?_
  refine lv_iload_n hx hb d_L_value_3 rfl (lv_at hl 1 rfl) ?_
  have hPc := hP.sub (ws' := [(h0, .inr (0, [.ref tk, .ref nd, .ref cd, .ref rd, .ref sl, .ref lk, .ref od, .ref pg, .ref gv, .ref tp, .int tl, .int ap, .int mn, .int it, .int kp]))]) [0] rfl
  have hDc := hD.sub (ws' := [(h0, .inr (0, [.ref tk, .ref nd, .ref cd, .ref rd, .ref sl, .ref lk, .ref od, .ref pg, .ref gv, .ref tp, .int tl, .int ap, .int mn, .int it, .int kp]))]) [0] (by decide) rfl
  refine xt_callV (As := [.int k]) (rest := [.int 0, .ref o]) (C := R_S) ⟨hx, hb, hml, hown, hG⟩ (x_S_value l hno D cI cB cJ cZ s.heap.size h0 tk nd cd rd sl lk od pg gv tp tl ap mn it kp k h1) (gcV 1 gG_good hG ml_L_30 im_S_value se_S_value in_S co_S_value rfl rfl (by decide +kernel) ⟨(Nat.le_of_ble_eq_true rfl), (Nat.le_of_ble_eq_true rfl)⟩) (cx_preV hPc hK hDc (ci := 0) (q0 := 0) rfl rfl hX hS) rfl rfl hl.1 rfl (lv_room (Nat.le_of_ble_eq_true rfl)) d_L_value_4 ⟨(Nat.le_of_ble_eq_true rfl), (Nat.le_of_ble_eq_true rfl)⟩ (fun a ce st₀ t H L hst ht hvm hQ hL haz hce hcv hcl => ?_)
  obtain rfl := xt_L hL
  obtain ⟨hQ1, hQ2⟩ := hQ
  rw [hst, ht] at hQ1 hQ2
  have hP := xt_keepP hP hQ2
  have hS := xt_keepS hS hQ1 hQ2
  refine xt_N1 (own := R_L) (E := "java/util/NoSuchElementException") (pc := 4) (ls := ls) (st := [.int 0, .ref o]) hown hce hcv hcl htab (by decide) (by decide) (by decide) (hG _ cl_L_25) ?_
  refine lv_astore_n (lv' := [(3, .ref a), (0, .ref h0), (1, .int k), (2, .ref o)]) hx hb d_L_value_11 rfl hl (by decide) rfl (fun ls hl => ?_)
  refine lv_iconst (v := 1) hx hb d_L_value_12 (by decide) ?_
  refine W.widen (k := 1) (n := 6) (Nat.le_of_ble_eq_true rfl) (Nat.le_of_ble_eq_true rfl) ?_
  exact W.iret (v := 1) hx hb hr (fun t ht hW => ⟨⟨1, (), rfl, rfl, by rw [ht]; exact hP, hD⟩, hS.F ht⟩) hS.2.2 d_L_value_13

set_option maxHeartbeats 4000000 in
set_option maxRecDepth 100000 in
theorem x_L_about (l : Launch) (hno : l.stackTraces = false) (D : va_G) (cI cB cJ cZ : ClassId) (sz : Nat) (h0 tk nd cd rd sl lk od pg gv tp : Nat) (tl ap mn it kp : Int32) (o : Nat) (fo : Nat → Int64) (k q : Int32) (h1 : mn < 0) : Met l y_L_about (Cond.codeWith y_L_about b_L_about 5 (some .int) [(0, 10, 13, 25), (0, 10, 17, 19)] :: gG) { frames := 7, cells := 1, slots := 6, locals := 150 } (va_Pc [.ref h0, .int k, .int q, .ref o] (ch_P D (tyL cI cB cJ cZ) [(h0, .inr (0, [.ref tk, .ref nd, .ref cd, .ref rd, .ref sl, .ref lk, .ref od, .ref pg, .ref gv, .ref tp, .int tl, .int ap, .int mn, .int it, .int kp])), (o, .inl (cJ, 1, .inr (.inl fo)))] sz)) (va_Qi (fun (r : Int32) (_ : Unit) => r = 1) (fun _ t => va_P D kl [(h0, .inr (0, [.ref tk, .ref nd, .ref cd, .ref rd, .ref sl, .ref lk, .ref od, .ref pg, .ref gv, .ref tp, .int tl, .int ap, .int mn, .int it, .int kp])), (o, .inl (cJ, 1, .inr (.inl fo)))] t.heap ∧ va_D (va_A [(h0, .inr (0, [.ref tk, .ref nd, .ref cd, .ref rd, .ref sl, .ref lk, .ref od, .ref pg, .ref gv, .ref tp, .int tl, .int ap, .int mn, .int it, .int kp])), (o, .inl (cJ, 1, .inr (.inl fo)))] sz) [(h0, .inr (0, [.ref tk, .ref nd, .ref cd, .ref rd, .ref sl, .ref lk, .ref od, .ref pg, .ref gv, .ref tp, .int tl, .int ap, .int mn, .int it, .int kp])), (o, .inl (cJ, 1, .inr (.inl fo)))]) (va_A [(h0, .inr (0, [.ref tk, .ref nd, .ref cd, .ref rd, .ref sl, .ref lk, .ref od, .ref pg, .ref gv, .ref tp, .int tl, .int ap, .int mn, .int it, .int kp])), (o, .inl (cJ, 1, .inr (.inl fo)))] sz)) 1 6 (va_A [(h0, .inr (0, [.ref tk, .ref nd, .ref cd, .ref rd, .ref sl, .ref lk, .ref od, .ref pg, .ref gv, .ref tp, .int tl, .int ap, .int mn, .int it, .int kp])), (o, .inl (cJ, 1, .inr (.inl fo)))] sz) := by
  refine mx_ofW (cc := b_L_about) (maxL := 5) (ret := (some .int)) (hh := [(0, 10, 13, 25), (0, 10, 17, 19)]) (by decide) rfl ?_
  intro p e s m args below meth c s₁ B hml htab hv
  obtain ⟨rfl, ⟨hsz, hP, hK, hD0⟩, hX, hN⟩ := hv
  have hx := B.exec
  have hb := B.bytes
  have hr := B.returns
  have hts := atoms_spec (ws := Cond.codeWith y_L_about b_L_about 5 (some .int) [(0, 10, 13, 25), (0, 10, 17, 19)] :: gG) B.pre
  have hG : ∀ w9 ∈ gG, w9.before [.ref h0, .int k, .int q, .ref o].toArray s = true := fun w9 h => hts w9 (List.mem_cons_of_mem _ h)
  have hown : s.vm.findClass R_L = some m.cls := findClass_of_methodNamed B.named
  have hlocks := B.notSynchronized
  subst hsz
  have hD := hD0.self (sz := s.heap.size)
  generalize hAe : va_A [(h0, .inr (0, [.ref tk, .ref nd, .ref cd, .ref rd, .ref sl, .ref lk, .ref od, .ref pg, .ref gv, .ref tp, .int tl, .int ap, .int mn, .int it, .int kp])), (o, .inl (cJ, 1, .inr (.inl fo)))] s.heap.size = A at hD hX ⊢
  have hA : ∀ q : Nat, s.heap.size ≤ q → A q := fun q h => by rw [← hAe]; exact Or.inr h
  have hS : va_S A s.heap s.heap [] := va_S.rf
  have hl := lv_entry ([.ref h0, .int k, .int q, .ref o]) (n := 5) (Nat.le_of_ble_eq_true rfl)
  rw [lg_entry_eq]
  generalize (lg_sl ([.ref h0, .int k, .int q, .ref o]) ++ List.replicate (5 - (lg_sl ([.ref h0, .int k, .int q, .ref o])).length) Slot.unset).toArray = ls at hl ⊢
  have hl : lv_has ls 5 [(0, .ref h0), (1, .int k), (2, .int q), (3, .ref o)] := hl
  refine lv_aload_n hx hb d_L_about_0 rfl (lv_at hl 3 rfl) ?_
  refine lv_iconst (v := 0) hx hb d_L_about_1 (by decide) ?_
  refine lv_aload_n hx hb d_L_about_2 rfl (lv_at hl 0 rfl) ?_
  refine lv_iload_n hx hb d_L_about_3 rfl (lv_at hl 1 rfl) ?_
  refine lv_iload_n hx hb d_L_about_4 rfl (lv_at hl 2 rfl) ?_
  have hPc := hP.sub (ws' := [(h0, .inr (0, [.ref tk, .ref nd, .ref cd, .ref rd, .ref sl, .ref lk, .ref od, .ref pg, .ref gv, .ref tp, .int tl, .int ap, .int mn, .int it, .int kp]))]) [0] rfl
  have hDc := hD.sub (ws' := [(h0, .inr (0, [.ref tk, .ref nd, .ref cd, .ref rd, .ref sl, .ref lk, .ref od, .ref pg, .ref gv, .ref tp, .int tl, .int ap, .int mn, .int it, .int kp]))]) [0] (by decide) rfl
  refine xt_callV (As := [.int k, .int q]) (rest := [.int 0, .ref o]) (C := R_S) ⟨hx, hb, hml, hown, hG⟩ (x_S_about l hno D cI cB cJ cZ s.heap.size h0 tk nd cd rd sl lk od pg gv tp tl ap mn it kp k q h1) (gcV 2 gG_good hG ml_L_34 im_S_about se_S_about in_S co_S_about rfl rfl (by decide +kernel) ⟨(Nat.le_of_ble_eq_true rfl), (Nat.le_of_ble_eq_true rfl)⟩) (cx_preV hPc hK hDc (ci := 0) (q0 := 0) rfl rfl hX hS) rfl rfl hl.1 rfl (lv_room (Nat.le_of_ble_eq_true rfl)) d_L_about_5 ⟨(Nat.le_of_ble_eq_true rfl), (Nat.le_of_ble_eq_true rfl)⟩ (fun a ce st₀ t H L hst ht hvm hQ hL haz hce hcv hcl => ?_)
  obtain rfl := xt_L hL
  obtain ⟨hQ1, hQ2⟩ := hQ
  rw [hst, ht] at hQ1 hQ2
  have hP := xt_keepP hP hQ2
  have hS := xt_keepS hS hQ1 hQ2
  refine xt_N1 (own := R_L) (E := "java/util/NoSuchElementException") (pc := 5) (ls := ls) (st := [.int 0, .ref o]) hown hce hcv hcl htab (by decide) (by decide) (by decide) (hG _ cl_L_25) ?_
  refine lv_astore (lv' := [(4, .ref a), (0, .ref h0), (1, .int k), (2, .int q), (3, .ref o)]) hx hb d_L_about_13 hl (by decide) rfl (fun ls hl => ?_)
  refine lv_iconst (v := 1) hx hb d_L_about_15 (by decide) ?_
  refine W.widen (k := 1) (n := 6) (Nat.le_of_ble_eq_true rfl) (Nat.le_of_ble_eq_true rfl) ?_
  exact W.iret (v := 1) hx hb hr (fun t ht hW => ⟨⟨1, (), rfl, rfl, by rw [ht]; exact hP, hD⟩, hS.F ht⟩) hS.2.2 d_L_about_16

set_option maxHeartbeats 4000000 in
set_option maxRecDepth 100000 in
theorem x_L_causes (l : Launch) (hno : l.stackTraces = false) (D : va_G) (cI cB cJ cZ : ClassId) (sz : Nat) (h0 tk nd cd rd sl lk od pg gv tp : Nat) (tl ap mn it kp : Int32) (o : Nat) (fo : Nat → Int64) (k q : Int32) (h1 : mn < 0) : Met l y_L_causes (Cond.codeWith y_L_causes b_L_causes 5 (some .int) [(0, 17, 20, 25)] :: gG) { frames := 7, cells := 1, slots := 6, locals := 150 } (va_Pc [.ref h0, .int k, .int q, .ref o] (ch_P D (tyL cI cB cJ cZ) [(h0, .inr (0, [.ref tk, .ref nd, .ref cd, .ref rd, .ref sl, .ref lk, .ref od, .ref pg, .ref gv, .ref tp, .int tl, .int ap, .int mn, .int it, .int kp])), (o, .inl (cJ, 1, .inr (.inl fo)))] sz)) (va_Qi (fun (r : Int32) (_ : Unit) => r = 1) (fun _ t => va_P D kl [(h0, .inr (0, [.ref tk, .ref nd, .ref cd, .ref rd, .ref sl, .ref lk, .ref od, .ref pg, .ref gv, .ref tp, .int tl, .int ap, .int mn, .int it, .int kp])), (o, .inl (cJ, 1, .inr (.inl fo)))] t.heap ∧ va_D (va_A [(h0, .inr (0, [.ref tk, .ref nd, .ref cd, .ref rd, .ref sl, .ref lk, .ref od, .ref pg, .ref gv, .ref tp, .int tl, .int ap, .int mn, .int it, .int kp])), (o, .inl (cJ, 1, .inr (.inl fo)))] sz) [(h0, .inr (0, [.ref tk, .ref nd, .ref cd, .ref rd, .ref sl, .ref lk, .ref od, .ref pg, .ref gv, .ref tp, .int tl, .int ap, .int mn, .int it, .int kp])), (o, .inl (cJ, 1, .inr (.inl fo)))]) (va_A [(h0, .inr (0, [.ref tk, .ref nd, .ref cd, .ref rd, .ref sl, .ref lk, .ref od, .ref pg, .ref gv, .ref tp, .int tl, .int ap, .int mn, .int it, .int kp])), (o, .inl (cJ, 1, .inr (.inl fo)))] sz)) 1 6 (va_A [(h0, .inr (0, [.ref tk, .ref nd, .ref cd, .ref rd, .ref sl, .ref lk, .ref od, .ref pg, .ref gv, .ref tp, .int tl, .int ap, .int mn, .int it, .int kp])), (o, .inl (cJ, 1, .inr (.inl fo)))] sz) := by
  refine mx_ofW (cc := b_L_causes) (maxL := 5) (ret := (some .int)) (hh := [(0, 17, 20, 25)]) (by decide) rfl ?_
  intro p e s m args below meth c s₁ B hml htab hv
  obtain ⟨rfl, ⟨hsz, hP, hK, hD0⟩, hX, hN⟩ := hv
  have hx := B.exec
  have hb := B.bytes
  have hr := B.returns
  have hts := atoms_spec (ws := Cond.codeWith y_L_causes b_L_causes 5 (some .int) [(0, 17, 20, 25)] :: gG) B.pre
  have hG : ∀ w9 ∈ gG, w9.before [.ref h0, .int k, .int q, .ref o].toArray s = true := fun w9 h => hts w9 (List.mem_cons_of_mem _ h)
  have hown : s.vm.findClass R_L = some m.cls := findClass_of_methodNamed B.named
  have hlocks := B.notSynchronized
  subst hsz
  have hD := hD0.self (sz := s.heap.size)
  generalize hAe : va_A [(h0, .inr (0, [.ref tk, .ref nd, .ref cd, .ref rd, .ref sl, .ref lk, .ref od, .ref pg, .ref gv, .ref tp, .int tl, .int ap, .int mn, .int it, .int kp])), (o, .inl (cJ, 1, .inr (.inl fo)))] s.heap.size = A at hD hX ⊢
  have hA : ∀ q : Nat, s.heap.size ≤ q → A q := fun q h => by rw [← hAe]; exact Or.inr h
  have hS : va_S A s.heap s.heap [] := va_S.rf
  have hl := lv_entry ([.ref h0, .int k, .int q, .ref o]) (n := 5) (Nat.le_of_ble_eq_true rfl)
  rw [lg_entry_eq]
  generalize (lg_sl ([.ref h0, .int k, .int q, .ref o]) ++ List.replicate (5 - (lg_sl ([.ref h0, .int k, .int q, .ref o])).length) Slot.unset).toArray = ls at hl ⊢
  have hl : lv_has ls 5 [(0, .ref h0), (1, .int k), (2, .int q), (3, .ref o)] := hl
  refine lv_aload_n hx hb d_L_causes_0 rfl (lv_at hl 3 rfl) ?_
  refine lv_iconst (v := 0) hx hb d_L_causes_1 (by decide) ?_
  refine lv_aload_n hx hb d_L_causes_2 rfl (lv_at hl 0 rfl) ?_
  refine lv_iload_n hx hb d_L_causes_3 rfl (lv_at hl 1 rfl) ?_
  refine lv_iload_n hx hb d_L_causes_4 rfl (lv_at hl 2 rfl) ?_
  have hPc := hP.sub (ws' := [(h0, .inr (0, [.ref tk, .ref nd, .ref cd, .ref rd, .ref sl, .ref lk, .ref od, .ref pg, .ref gv, .ref tp, .int tl, .int ap, .int mn, .int it, .int kp]))]) [0] rfl
  have hDc := hD.sub (ws' := [(h0, .inr (0, [.ref tk, .ref nd, .ref cd, .ref rd, .ref sl, .ref lk, .ref od, .ref pg, .ref gv, .ref tp, .int tl, .int ap, .int mn, .int it, .int kp]))]) [0] (by decide) rfl
  refine xt_callV (As := [.int k, .int q]) (rest := [.int 0, .ref o]) (C := R_S) ⟨hx, hb, hml, hown, hG⟩ (x_S_causes l hno D cI cB cJ cZ s.heap.size h0 tk nd cd rd sl lk od pg gv tp tl ap mn it kp k q h1) (gcV 2 gG_good hG ml_L_37 im_S_causes se_S_causes in_S co_S_causes rfl rfl (by decide +kernel) ⟨(Nat.le_of_ble_eq_true rfl), (Nat.le_of_ble_eq_true rfl)⟩) (cx_preV hPc hK hDc (ci := 0) (q0 := 0) rfl rfl hX hS) rfl rfl hl.1 rfl (lv_room (Nat.le_of_ble_eq_true rfl)) d_L_causes_5 ⟨(Nat.le_of_ble_eq_true rfl), (Nat.le_of_ble_eq_true rfl)⟩ (fun a ce st₀ t H L hst ht hvm hQ hL haz hce hcv hcl => ?_)
  obtain rfl := xt_L hL
  obtain ⟨hQ1, hQ2⟩ := hQ
  rw [hst, ht] at hQ1 hQ2
  have hP := xt_keepP hP hQ2
  have hS := xt_keepS hS hQ1 hQ2
  refine xt_N1 (own := R_L) (E := "java/util/NoSuchElementException") (pc := 5) (ls := ls) (st := [.int 0, .ref o]) hown hce hcv hcl htab (by decide) (by decide) (by decide) (hG _ cl_L_25) ?_
  refine lv_astore (lv' := [(4, .ref a), (0, .ref h0), (1, .int k), (2, .int q), (3, .ref o)]) hx hb d_L_causes_20 hl (by decide) rfl (fun ls hl => ?_)
  refine lv_iconst (v := 1) hx hb d_L_causes_22 (by decide) ?_
  refine W.widen (k := 1) (n := 6) (Nat.le_of_ble_eq_true rfl) (Nat.le_of_ble_eq_true rfl) ?_
  exact W.iret (v := 1) hx hb hr (fun t ht hW => ⟨⟨1, (), rfl, rfl, by rw [ht]; exact hP, hD⟩, hS.F ht⟩) hS.2.2 d_L_causes_23

set_option maxHeartbeats 4000000 in
set_option maxRecDepth 100000 in
theorem x_L_restart (l : Launch) (hno : l.stackTraces = false) (D : va_G) (cI cB cJ cZ : ClassId) (sz : Nat) (h0 tk nd cd rd sl lk od pg gv tp : Nat) (tl ap mn it kp : Int32) (o : Nat) (fo : Nat → Int64) (h1 : mn < 0) : Met l y_L_restart (Cond.codeWith y_L_restart b_L_restart 3 (some .int) [(0, 8, 11, 13)] :: gG) { frames := 7, cells := 1, slots := 6, locals := 150 } (va_Pc [.ref h0, .ref o] (ch_P D (tyL cI cB cJ cZ) [(h0, .inr (0, [.ref tk, .ref nd, .ref cd, .ref rd, .ref sl, .ref lk, .ref od, .ref pg, .ref gv, .ref tp, .int tl, .int ap, .int mn, .int it, .int kp])), (o, .inl (cJ, 1, .inr (.inl fo)))] sz)) (va_Qi (fun (r : Int32) (_ : Unit) => r = 1) (fun _ t => va_P D kl [(h0, .inr (0, [.ref tk, .ref nd, .ref cd, .ref rd, .ref sl, .ref lk, .ref od, .ref pg, .ref gv, .ref tp, .int tl, .int ap, .int mn, .int it, .int kp])), (o, .inl (cJ, 1, .inr (.inl fo)))] t.heap ∧ va_D (va_A [(h0, .inr (0, [.ref tk, .ref nd, .ref cd, .ref rd, .ref sl, .ref lk, .ref od, .ref pg, .ref gv, .ref tp, .int tl, .int ap, .int mn, .int it, .int kp])), (o, .inl (cJ, 1, .inr (.inl fo)))] sz) [(h0, .inr (0, [.ref tk, .ref nd, .ref cd, .ref rd, .ref sl, .ref lk, .ref od, .ref pg, .ref gv, .ref tp, .int tl, .int ap, .int mn, .int it, .int kp])), (o, .inl (cJ, 1, .inr (.inl fo)))]) (va_A [(h0, .inr (0, [.ref tk, .ref nd, .ref cd, .ref rd, .ref sl, .ref lk, .ref od, .ref pg, .ref gv, .ref tp, .int tl, .int ap, .int mn, .int it, .int kp])), (o, .inl (cJ, 1, .inr (.inl fo)))] sz)) 1 6 (va_A [(h0, .inr (0, [.ref tk, .ref nd, .ref cd, .ref rd, .ref sl, .ref lk, .ref od, .ref pg, .ref gv, .ref tp, .int tl, .int ap, .int mn, .int it, .int kp])), (o, .inl (cJ, 1, .inr (.inl fo)))] sz) := by
  refine mx_ofW (cc := b_L_restart) (maxL := 3) (ret := (some .int)) (hh := [(0, 8, 11, 13)]) (by decide) rfl ?_
  intro p e s m args below meth c s₁ B hml htab hv
  obtain ⟨rfl, ⟨hsz, hP, hK, hD0⟩, hX, hN⟩ := hv
  have hx := B.exec
  have hb := B.bytes
  have hr := B.returns
  have hts := atoms_spec (ws := Cond.codeWith y_L_restart b_L_restart 3 (some .int) [(0, 8, 11, 13)] :: gG) B.pre
  have hG : ∀ w9 ∈ gG, w9.before [.ref h0, .ref o].toArray s = true := fun w9 h => hts w9 (List.mem_cons_of_mem _ h)
  have hown : s.vm.findClass R_L = some m.cls := findClass_of_methodNamed B.named
  have hlocks := B.notSynchronized
  subst hsz
  have hD := hD0.self (sz := s.heap.size)
  generalize hAe : va_A [(h0, .inr (0, [.ref tk, .ref nd, .ref cd, .ref rd, .ref sl, .ref lk, .ref od, .ref pg, .ref gv, .ref tp, .int tl, .int ap, .int mn, .int it, .int kp])), (o, .inl (cJ, 1, .inr (.inl fo)))] s.heap.size = A at hD hX ⊢
  have hA : ∀ q : Nat, s.heap.size ≤ q → A q := fun q h => by rw [← hAe]; exact Or.inr h
  have hS : va_S A s.heap s.heap [] := va_S.rf
  have hl := lv_entry ([.ref h0, .ref o]) (n := 3) (Nat.le_of_ble_eq_true rfl)
  rw [lg_entry_eq]
  generalize (lg_sl ([.ref h0, .ref o]) ++ List.replicate (3 - (lg_sl ([.ref h0, .ref o])).length) Slot.unset).toArray = ls at hl ⊢
  have hl : lv_has ls 3 [(0, .ref h0), (1, .ref o)] := hl
  refine lv_aload_n hx hb d_L_restart_0 rfl (lv_at hl 1 rfl) ?_
  refine lv_iconst (v := 0) hx hb d_L_restart_1 (by decide) ?_
  refine lv_aload_n hx hb d_L_restart_2 rfl (lv_at hl 0 rfl) ?_
  have hPc := hP.sub (ws' := [(h0, .inr (0, [.ref tk, .ref nd, .ref cd, .ref rd, .ref sl, .ref lk, .ref od, .ref pg, .ref gv, .ref tp, .int tl, .int ap, .int mn, .int it, .int kp]))]) [0] rfl
  have hDc := hD.sub (ws' := [(h0, .inr (0, [.ref tk, .ref nd, .ref cd, .ref rd, .ref sl, .ref lk, .ref od, .ref pg, .ref gv, .ref tp, .int tl, .int ap, .int mn, .int it, .int kp]))]) [0] (by decide) rfl
  refine xt_callV (As := []) (rest := [.int 0, .ref o]) (C := R_S) ⟨hx, hb, hml, hown, hG⟩ (x_S_restart l hno D cI cB cJ cZ s.heap.size h0 tk nd cd rd sl lk od pg gv tp tl ap mn it kp h1) (gcV 0 gG_good hG ml_L_41 im_S_restart se_S_restart in_S co_S_restart rfl rfl (by decide +kernel) ⟨(Nat.le_of_ble_eq_true rfl), (Nat.le_of_ble_eq_true rfl)⟩) (cx_preV hPc hK hDc (ci := 0) (q0 := 0) rfl rfl hX hS) rfl rfl hl.1 rfl (lv_room (Nat.le_of_ble_eq_true rfl)) d_L_restart_3 ⟨(Nat.le_of_ble_eq_true rfl), (Nat.le_of_ble_eq_true rfl)⟩ (fun a ce st₀ t H L hst ht hvm hQ hL haz hce hcv hcl => ?_)
  obtain rfl := xt_L hL
  obtain ⟨hQ1, hQ2⟩ := hQ
  rw [hst, ht] at hQ1 hQ2
  have hP := xt_keepP hP hQ2
  have hS := xt_keepS hS hQ1 hQ2
  refine xt_N1 (own := R_L) (E := "java/lang/IllegalStateException") (pc := 3) (ls := ls) (st := [.int 0, .ref o]) hown hce hcv hcl htab (by decide) (by decide) (by decide) (hG _ cl_L_13) ?_
  refine lv_astore_n (lv' := [(2, .ref a), (0, .ref h0), (1, .ref o)]) hx hb d_L_restart_11 rfl hl (by decide) rfl (fun ls hl => ?_)
  refine lv_iconst (v := 1) hx hb d_L_restart_12 (by decide) ?_
  refine W.widen (k := 1) (n := 6) (Nat.le_of_ble_eq_true rfl) (Nat.le_of_ble_eq_true rfl) ?_
  exact W.iret (v := 1) hx hb hr (fun t ht hW => ⟨⟨1, (), rfl, rfl, by rw [ht]; exact hP, hD⟩, hS.F ht⟩) hS.2.2 d_L_restart_13

set_option maxHeartbeats 4000000 in
set_option maxRecDepth 100000 in
theorem x_L_keep (l : Launch) (hno : l.stackTraces = false) (D : va_G) (cI cB cJ cZ : ClassId) (sz : Nat) (h0 tk nd cd rd sl lk od pg gv tp : Nat) (tl ap mn it kp : Int32) (h1 : mn < 0) : Met l y_L_keep (Cond.codeWith y_L_keep b_L_keep 2 (some .int) [(0, 4, 7, 13)] :: gG) { frames := 7, cells := 1, slots := 6, locals := 150 } (va_Pc [.ref h0] (ch_P D (tyL cI cB cJ cZ) [(h0, .inr (0, [.ref tk, .ref nd, .ref cd, .ref rd, .ref sl, .ref lk, .ref od, .ref pg, .ref gv, .ref tp, .int tl, .int ap, .int mn, .int it, .int kp]))] sz)) (va_Qi (fun (r : Int32) (_ : Unit) => r = 1) (fun _ t => va_P D kl [(h0, .inr (0, [.ref tk, .ref nd, .ref cd, .ref rd, .ref sl, .ref lk, .ref od, .ref pg, .ref gv, .ref tp, .int tl, .int ap, .int mn, .int it, .int kp]))] t.heap ∧ va_D (va_A [(h0, .inr (0, [.ref tk, .ref nd, .ref cd, .ref rd, .ref sl, .ref lk, .ref od, .ref pg, .ref gv, .ref tp, .int tl, .int ap, .int mn, .int it, .int kp]))] sz) [(h0, .inr (0, [.ref tk, .ref nd, .ref cd, .ref rd, .ref sl, .ref lk, .ref od, .ref pg, .ref gv, .ref tp, .int tl, .int ap, .int mn, .int it, .int kp]))]) (va_A [(h0, .inr (0, [.ref tk, .ref nd, .ref cd, .ref rd, .ref sl, .ref lk, .ref od, .ref pg, .ref gv, .ref tp, .int tl, .int ap, .int mn, .int it, .int kp]))] sz)) 1 6 (va_A [(h0, .inr (0, [.ref tk, .ref nd, .ref cd, .ref rd, .ref sl, .ref lk, .ref od, .ref pg, .ref gv, .ref tp, .int tl, .int ap, .int mn, .int it, .int kp]))] sz) := by
  refine mx_ofW (cc := b_L_keep) (maxL := 2) (ret := (some .int)) (hh := [(0, 4, 7, 13)]) (by decide) rfl ?_
  intro p e s m args below meth c s₁ B hml htab hv
  obtain ⟨rfl, ⟨hsz, hP, hK, hD0⟩, hX, hN⟩ := hv
  have hx := B.exec
  have hb := B.bytes
  have hr := B.returns
  have hts := atoms_spec (ws := Cond.codeWith y_L_keep b_L_keep 2 (some .int) [(0, 4, 7, 13)] :: gG) B.pre
  have hG : ∀ w9 ∈ gG, w9.before [.ref h0].toArray s = true := fun w9 h => hts w9 (List.mem_cons_of_mem _ h)
  have hown : s.vm.findClass R_L = some m.cls := findClass_of_methodNamed B.named
  have hlocks := B.notSynchronized
  subst hsz
  have hD := hD0.self (sz := s.heap.size)
  generalize hAe : va_A [(h0, .inr (0, [.ref tk, .ref nd, .ref cd, .ref rd, .ref sl, .ref lk, .ref od, .ref pg, .ref gv, .ref tp, .int tl, .int ap, .int mn, .int it, .int kp]))] s.heap.size = A at hD hX ⊢
  have hA : ∀ q : Nat, s.heap.size ≤ q → A q := fun q h => by rw [← hAe]; exact Or.inr h
  have hS : va_S A s.heap s.heap [] := va_S.rf
  have hl := lv_entry ([.ref h0]) (n := 2) (Nat.le_of_ble_eq_true rfl)
  rw [lg_entry_eq]
  generalize (lg_sl ([.ref h0]) ++ List.replicate (2 - (lg_sl ([.ref h0])).length) Slot.unset).toArray = ls at hl ⊢
  have hl : lv_has ls 2 [(0, .ref h0)] := hl
  refine lv_aload_n hx hb d_L_keep_0 rfl (lv_at hl 0 rfl) ?_
  have hPc := hP.sub (ws' := [(h0, .inr (0, [.ref tk, .ref nd, .ref cd, .ref rd, .ref sl, .ref lk, .ref od, .ref pg, .ref gv, .ref tp, .int tl, .int ap, .int mn, .int it, .int kp]))]) [0] rfl
  have hDc := hD.sub (ws' := [(h0, .inr (0, [.ref tk, .ref nd, .ref cd, .ref rd, .ref sl, .ref lk, .ref od, .ref pg, .ref gv, .ref tp, .int tl, .int ap, .int mn, .int it, .int kp]))]) [0] (by decide) rfl
  refine xt_callV (As := []) (rest := []) (C := R_S) ⟨hx, hb, hml, hown, hG⟩ (x_S_keep l hno D cI cB cJ cZ s.heap.size h0 tk nd cd rd sl lk od pg gv tp tl ap mn it kp h1) (gcV 0 gG_good hG ml_L_45 im_S_keep se_S_keep in_S co_S_keep rfl rfl (by decide +kernel) ⟨(Nat.le_of_ble_eq_true rfl), (Nat.le_of_ble_eq_true rfl)⟩) (cx_preV hPc hK hDc (ci := 0) (q0 := 0) rfl rfl hX hS) rfl rfl hl.1 rfl (lv_room (Nat.le_of_ble_eq_true rfl)) d_L_keep_1 ⟨(Nat.le_of_ble_eq_true rfl), (Nat.le_of_ble_eq_true rfl)⟩ (fun a ce st₀ t H L hst ht hvm hQ hL haz hce hcv hcl => ?_)
  obtain rfl := xt_L hL
  obtain ⟨hQ1, hQ2⟩ := hQ
  rw [hst, ht] at hQ1 hQ2
  have hP := xt_keepP hP hQ2
  have hS := xt_keepS hS hQ1 hQ2
  refine xt_N1 (own := R_L) (E := "java/lang/IllegalStateException") (pc := 1) (ls := ls) (st := []) hown hce hcv hcl htab (by decide) (by decide) (by decide) (hG _ cl_L_13) ?_
  refine lv_astore_n (lv' := [(1, .ref a), (0, .ref h0)]) hx hb d_L_keep_7 rfl hl (by decide) rfl (fun ls hl => ?_)
  refine lv_iconst (v := 1) hx hb d_L_keep_8 (by decide) ?_
  refine W.widen (k := 1) (n := 6) (Nat.le_of_ble_eq_true rfl) (Nat.le_of_ble_eq_true rfl) ?_
  exact W.iret (v := 1) hx hb hr (fun t ht hW => ⟨⟨1, (), rfl, rfl, by rw [ht]; exact hP, hD⟩, hS.F ht⟩) hS.2.2 d_L_keep_9

set_option maxHeartbeats 4000000 in
set_option maxRecDepth 100000 in
theorem x_L_back (l : Launch) (hno : l.stackTraces = false) (D : va_G) (cI cB cJ cZ : ClassId) (sz : Nat) (h0 tk nd cd rd sl lk od pg gv tp : Nat) (tl ap mn it kp : Int32) (o : Nat) (fo : Nat → Int64) (h1 : kp = 0) : Met l y_L_back (Cond.codeWith y_L_back b_L_back 3 (some .int) [(0, 8, 11, 13)] :: gG) { frames := 7, cells := 1, slots := 6, locals := 150 } (va_Pc [.ref h0, .ref o] (ch_P D (tyL cI cB cJ cZ) [(h0, .inr (0, [.ref tk, .ref nd, .ref cd, .ref rd, .ref sl, .ref lk, .ref od, .ref pg, .ref gv, .ref tp, .int tl, .int ap, .int mn, .int it, .int kp])), (o, .inl (cJ, 1, .inr (.inl fo)))] sz)) (va_Qi (fun (r : Int32) (_ : Unit) => r = 1) (fun _ t => va_P D kl [(h0, .inr (0, [.ref tk, .ref nd, .ref cd, .ref rd, .ref sl, .ref lk, .ref od, .ref pg, .ref gv, .ref tp, .int tl, .int ap, .int mn, .int it, .int kp])), (o, .inl (cJ, 1, .inr (.inl fo)))] t.heap ∧ va_D (va_A [(h0, .inr (0, [.ref tk, .ref nd, .ref cd, .ref rd, .ref sl, .ref lk, .ref od, .ref pg, .ref gv, .ref tp, .int tl, .int ap, .int mn, .int it, .int kp])), (o, .inl (cJ, 1, .inr (.inl fo)))] sz) [(h0, .inr (0, [.ref tk, .ref nd, .ref cd, .ref rd, .ref sl, .ref lk, .ref od, .ref pg, .ref gv, .ref tp, .int tl, .int ap, .int mn, .int it, .int kp])), (o, .inl (cJ, 1, .inr (.inl fo)))]) (va_A [(h0, .inr (0, [.ref tk, .ref nd, .ref cd, .ref rd, .ref sl, .ref lk, .ref od, .ref pg, .ref gv, .ref tp, .int tl, .int ap, .int mn, .int it, .int kp])), (o, .inl (cJ, 1, .inr (.inl fo)))] sz)) 1 6 (va_A [(h0, .inr (0, [.ref tk, .ref nd, .ref cd, .ref rd, .ref sl, .ref lk, .ref od, .ref pg, .ref gv, .ref tp, .int tl, .int ap, .int mn, .int it, .int kp])), (o, .inl (cJ, 1, .inr (.inl fo)))] sz) := by
  refine mx_ofW (cc := b_L_back) (maxL := 3) (ret := (some .int)) (hh := [(0, 8, 11, 13)]) (by decide) rfl ?_
  intro p e s m args below meth c s₁ B hml htab hv
  obtain ⟨rfl, ⟨hsz, hP, hK, hD0⟩, hX, hN⟩ := hv
  have hx := B.exec
  have hb := B.bytes
  have hr := B.returns
  have hts := atoms_spec (ws := Cond.codeWith y_L_back b_L_back 3 (some .int) [(0, 8, 11, 13)] :: gG) B.pre
  have hG : ∀ w9 ∈ gG, w9.before [.ref h0, .ref o].toArray s = true := fun w9 h => hts w9 (List.mem_cons_of_mem _ h)
  have hown : s.vm.findClass R_L = some m.cls := findClass_of_methodNamed B.named
  have hlocks := B.notSynchronized
  subst hsz
  have hD := hD0.self (sz := s.heap.size)
  generalize hAe : va_A [(h0, .inr (0, [.ref tk, .ref nd, .ref cd, .ref rd, .ref sl, .ref lk, .ref od, .ref pg, .ref gv, .ref tp, .int tl, .int ap, .int mn, .int it, .int kp])), (o, .inl (cJ, 1, .inr (.inl fo)))] s.heap.size = A at hD hX ⊢
  have hA : ∀ q : Nat, s.heap.size ≤ q → A q := fun q h => by rw [← hAe]; exact Or.inr h
  have hS : va_S A s.heap s.heap [] := va_S.rf
  have hl := lv_entry ([.ref h0, .ref o]) (n := 3) (Nat.le_of_ble_eq_true rfl)
  rw [lg_entry_eq]
  generalize (lg_sl ([.ref h0, .ref o]) ++ List.replicate (3 - (lg_sl ([.ref h0, .ref o])).length) Slot.unset).toArray = ls at hl ⊢
  have hl : lv_has ls 3 [(0, .ref h0), (1, .ref o)] := hl
  refine lv_aload_n hx hb d_L_back_0 rfl (lv_at hl 1 rfl) ?_
  refine lv_iconst (v := 0) hx hb d_L_back_1 (by decide) ?_
  refine lv_aload_n hx hb d_L_back_2 rfl (lv_at hl 0 rfl) ?_
  have hPc := hP.sub (ws' := [(h0, .inr (0, [.ref tk, .ref nd, .ref cd, .ref rd, .ref sl, .ref lk, .ref od, .ref pg, .ref gv, .ref tp, .int tl, .int ap, .int mn, .int it, .int kp]))]) [0] rfl
  have hDc := hD.sub (ws' := [(h0, .inr (0, [.ref tk, .ref nd, .ref cd, .ref rd, .ref sl, .ref lk, .ref od, .ref pg, .ref gv, .ref tp, .int tl, .int ap, .int mn, .int it, .int kp]))]) [0] (by decide) rfl
  refine xt_callV (As := []) (rest := [.int 0, .ref o]) (C := R_S) ⟨hx, hb, hml, hown, hG⟩ (x_S_back l hno D cI cB cJ cZ s.heap.size h0 tk nd cd rd sl lk od pg gv tp tl ap mn it kp h1) (gcV 0 gG_good hG ml_L_48 im_S_back se_S_back in_S co_S_back rfl rfl (by decide +kernel) ⟨(Nat.le_of_ble_eq_true rfl), (Nat.le_of_ble_eq_true rfl)⟩) (cx_preV hPc hK hDc (ci := 0) (q0 := 0) rfl rfl hX hS) rfl rfl hl.1 rfl (lv_room (Nat.le_of_ble_eq_true rfl)) d_L_back_3 ⟨(Nat.le_of_ble_eq_true rfl), (Nat.le_of_ble_eq_true rfl)⟩ (fun a ce st₀ t H L hst ht hvm hQ hL haz hce hcv hcl => ?_)
  obtain rfl := xt_L hL
  obtain ⟨hQ1, hQ2⟩ := hQ
  rw [hst, ht] at hQ1 hQ2
  have hP := xt_keepP hP hQ2
  have hS := xt_keepS hS hQ1 hQ2
  refine xt_N1 (own := R_L) (E := "java/lang/IllegalStateException") (pc := 3) (ls := ls) (st := [.int 0, .ref o]) hown hce hcv hcl htab (by decide) (by decide) (by decide) (hG _ cl_L_13) ?_
  refine lv_astore_n (lv' := [(2, .ref a), (0, .ref h0), (1, .ref o)]) hx hb d_L_back_11 rfl hl (by decide) rfl (fun ls hl => ?_)
  refine lv_iconst (v := 1) hx hb d_L_back_12 (by decide) ?_
  refine W.widen (k := 1) (n := 6) (Nat.le_of_ble_eq_true rfl) (Nat.le_of_ble_eq_true rfl) ?_
  exact W.iret (v := 1) hx hb hr (fun t ht hW => ⟨⟨1, (), rfl, rfl, by rw [ht]; exact hP, hD⟩, hS.F ht⟩) hS.2.2 d_L_back_13

set_option maxHeartbeats 4000000 in
set_option maxRecDepth 100000 in
theorem c_L_end (l : Launch) (hno : l.stackTraces = false) (D : va_G) (cI cB cJ cZ : ClassId) (sz : Nat) (h0 tk nd cd rd sl lk od pg gv tp : Nat) (tl ap mn it kp : Int32) (o : Nat) (fo : Nat → Int64) (n : Int32) (h1 : ¬ n < 0) (h2 : n ≤ tl) : Met l y_L_end (Cond.codeWith y_L_end b_L_end 4 (some .int) [(0, 9, 12, 19)] :: gG) { frames := 2, cells := 0, slots := 0, locals := 60 } (va_Pc [.ref h0, .int n, .ref o] (ch_P D (tyL cI cB cJ cZ) [(h0, .inr (0, [.ref tk, .ref nd, .ref cd, .ref rd, .ref sl, .ref lk, .ref od, .ref pg, .ref gv, .ref tp, .int tl, .int ap, .int mn, .int it, .int kp])), (o, .inl (cJ, 1, .inr (.inl fo)))] sz)) (va_Qi (fun (r : Int32) (_ : Unit) => r = 0) (fun _ t => va_P D kl [(o, .inl (cJ, 1, .inr (.inl (vp_updL fo (0 : Int32).toNatClampNeg n.toInt64)))), (h0, .inr (0, [.ref tk, .ref nd, .ref cd, .ref rd, .ref sl, .ref lk, .ref od, .ref pg, .ref gv, .ref tp, .int n, .int ap, .int mn, .int it, .int kp]))] t.heap ∧ va_D (va_A [(h0, .inr (0, [.ref tk, .ref nd, .ref cd, .ref rd, .ref sl, .ref lk, .ref od, .ref pg, .ref gv, .ref tp, .int tl, .int ap, .int mn, .int it, .int kp])), (o, .inl (cJ, 1, .inr (.inl fo)))] sz) [(o, .inl (cJ, 1, .inr (.inl (vp_updL fo (0 : Int32).toNatClampNeg n.toInt64)))), (h0, .inr (0, [.ref tk, .ref nd, .ref cd, .ref rd, .ref sl, .ref lk, .ref od, .ref pg, .ref gv, .ref tp, .int n, .int ap, .int mn, .int it, .int kp]))]) (va_A [(h0, .inr (0, [.ref tk, .ref nd, .ref cd, .ref rd, .ref sl, .ref lk, .ref od, .ref pg, .ref gv, .ref tp, .int tl, .int ap, .int mn, .int it, .int kp])), (o, .inl (cJ, 1, .inr (.inl fo)))] sz)) 0 0 (va_A [(h0, .inr (0, [.ref tk, .ref nd, .ref cd, .ref rd, .ref sl, .ref lk, .ref od, .ref pg, .ref gv, .ref tp, .int tl, .int ap, .int mn, .int it, .int kp])), (o, .inl (cJ, 1, .inr (.inl fo)))] sz) := by
  refine mx_ofW (cc := b_L_end) (maxL := 4) (ret := (some .int)) (hh := [(0, 9, 12, 19)]) (by decide) rfl ?_
  intro p e s m args below meth c s₁ B hml htab hv
  obtain ⟨rfl, ⟨hsz, hP, hK, hD0⟩, hX, hN⟩ := hv
  have hx := B.exec
  have hb := B.bytes
  have hr := B.returns
  have hts := atoms_spec (ws := Cond.codeWith y_L_end b_L_end 4 (some .int) [(0, 9, 12, 19)] :: gG) B.pre
  have hG : ∀ w9 ∈ gG, w9.before [.ref h0, .int n, .ref o].toArray s = true := fun w9 h => hts w9 (List.mem_cons_of_mem _ h)
  have hown : s.vm.findClass R_L = some m.cls := findClass_of_methodNamed B.named
  have hlocks := B.notSynchronized
  subst hsz
  have hD := hD0.self (sz := s.heap.size)
  generalize hAe : va_A [(h0, .inr (0, [.ref tk, .ref nd, .ref cd, .ref rd, .ref sl, .ref lk, .ref od, .ref pg, .ref gv, .ref tp, .int tl, .int ap, .int mn, .int it, .int kp])), (o, .inl (cJ, 1, .inr (.inl fo)))] s.heap.size = A at hD hX ⊢
  have hA : ∀ q : Nat, s.heap.size ≤ q → A q := fun q h => by rw [← hAe]; exact Or.inr h
  have hS : va_S A s.heap s.heap [] := va_S.rf
  have hl := lv_entry ([.ref h0, .int n, .ref o]) (n := 4) (Nat.le_of_ble_eq_true rfl)
  rw [lg_entry_eq]
  generalize (lg_sl ([.ref h0, .int n, .ref o]) ++ List.replicate (4 - (lg_sl ([.ref h0, .int n, .ref o])).length) Slot.unset).toArray = ls at hl ⊢
  have hl : lv_has ls 4 [(0, .ref h0), (1, .int n), (2, .ref o)] := hl
  refine lv_aload_n hx hb d_L_end_0 rfl (lv_at hl 2 rfl) ?_
  refine lv_iconst (v := 0) hx hb d_L_end_1 (by decide) ?_
  refine lv_aload_n hx hb d_L_end_2 rfl (lv_at hl 0 rfl) ?_
  refine lv_iload_n hx hb d_L_end_3 rfl (lv_at hl 1 rfl) ?_
  have hPc := hP.sub (ws' := [(h0, .inr (0, [.ref tk, .ref nd, .ref cd, .ref rd, .ref sl, .ref lk, .ref od, .ref pg, .ref gv, .ref tp, .int tl, .int ap, .int mn, .int it, .int kp]))]) [0] rfl
  have hDc := hD.sub (ws' := [(h0, .inr (0, [.ref tk, .ref nd, .ref cd, .ref rd, .ref sl, .ref lk, .ref od, .ref pg, .ref gv, .ref tp, .int tl, .int ap, .int mn, .int it, .int kp]))]) [0] (by decide) rfl
  have hFc := va_free (wc := [(h0, .inr (0, [.ref tk, .ref nd, .ref cd, .ref rd, .ref sl, .ref lk, .ref od, .ref pg, .ref gv, .ref tp, .int tl, .int ap, .int mn, .int it, .int kp]))]) hD hS hA [0] rfl
  refine va_calli (va_runV (As := [.int n]) (rest := [.int 0, .ref o]) ⟨hx, hb, hml, hown, hG⟩ (c_S_end l D cI cB cJ cZ s.heap.size h0 tk nd cd rd sl lk od pg gv tp tl ap mn it kp n h1 h2) (gcV 1 gG_good hG ml_L_15 im_S_end se_S_end in_S co_S_end rfl rfl (by decide +kernel) ⟨(Nat.le_of_ble_eq_true rfl), (Nat.le_of_ble_eq_true rfl)⟩) (ct_preV hPc hK hDc (ci := 0) (q0 := 0) rfl rfl) rfl rfl hl.1 rfl (lv_room (Nat.le_of_ble_eq_true rfl)) d_L_end_4 ⟨(Nat.le_of_ble_eq_true rfl), (Nat.le_of_ble_eq_true rfl)⟩) hS (fun q _ h => hFc q h) hFc (fun rr _ t H1 locs ht hvm hw hB hz1 hk1 hS => ?_)
  obtain ⟨hP1, hD1⟩ := hB
  rw [ht] at hP1
  obtain ⟨hP, hD⟩ := va_join (wr := [(o, .inl (cJ, 1, .inr (.inl fo)))]) (w1 := [(h0, .inr (0, [.ref tk, .ref nd, .ref cd, .ref rd, .ref sl, .ref lk, .ref od, .ref pg, .ref gv, .ref tp, .int n, .int ap, .int mn, .int it, .int kp]))]) hP hD [0] [1] rfl rfl (by decide) (by decide) hk1 hFc hP1 hD1
  generalize H1 = H at hP hS ⊢
  have hP : va_P D kl [(o, .inl (cJ, 1, .inr (.inl fo))), (h0, .inr (0, [.ref tk, .ref nd, .ref cd, .ref rd, .ref sl, .ref lk, .ref od, .ref pg, .ref gv, .ref tp, .int n, .int ap, .int mn, .int it, .int kp]))] H := hP
  have hD : va_D A [(o, .inl (cJ, 1, .inr (.inl fo))), (h0, .inr (0, [.ref tk, .ref nd, .ref cd, .ref rd, .ref sl, .ref lk, .ref od, .ref pg, .ref gv, .ref tp, .int n, .int ap, .int mn, .int it, .int kp]))] := hD
  rw [hw]
  refine lv_i2l (v := n.toInt64) hx hb d_L_end_7 rfl ?_
  refine va_last (D := D) hx hb hK hP hD hS 0 2 rfl rfl (vp_in_nI (n := 0) (N := 1) (by decide) (by decide)) d_L_end_8 (fun H locs hP hD hS => ?_)
  have hP : va_P D kl [(o, .inl (cJ, 1, .inr (.inl (vp_updL fo (0 : Int32).toNatClampNeg (n.toInt64))))), (h0, .inr (0, [.ref tk, .ref nd, .ref cd, .ref rd, .ref sl, .ref lk, .ref od, .ref pg, .ref gv, .ref tp, .int n, .int ap, .int mn, .int it, .int kp]))] H := hP
  have hD : va_D A [(o, .inl (cJ, 1, .inr (.inl (vp_updL fo (0 : Int32).toNatClampNeg (n.toInt64))))), (h0, .inr (0, [.ref tk, .ref nd, .ref cd, .ref rd, .ref sl, .ref lk, .ref od, .ref pg, .ref gv, .ref tp, .int n, .int ap, .int mn, .int it, .int kp]))] := hD
  refine lv_goto (tgt := 15) hx hb d_L_end_9 (by decide) ?_
  refine lv_iconst (v := 0) hx hb d_L_end_15 (by decide) ?_
  exact W.iret (v := 0) hx hb hr (fun t ht hW => ⟨⟨0, (), rfl, rfl, by rw [ht]; exact hP, hD⟩, hS.F ht⟩) hS.2.2 d_L_end_16

