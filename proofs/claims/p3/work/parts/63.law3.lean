/-! the law's helpers as functions -/
theorem d_L_feed_0 : decode b_L_feed 0 = .ok (.aload 6, 2) := by decide +kernel
theorem d_L_feed_2 : decode b_L_feed 2 = .ok (.iconst 0, 1) := by decide +kernel
theorem d_L_feed_3 : decode b_L_feed 3 = .ok (.aload_n 0, 1) := by decide +kernel
theorem d_L_feed_4 : decode b_L_feed 4 = .ok (.iload_n 1, 1) := by decide +kernel
theorem d_L_feed_5 : decode b_L_feed 5 = .ok (.iload_n 2, 1) := by decide +kernel
theorem d_L_feed_6 : decode b_L_feed 6 = .ok (.iload_n 3, 1) := by decide +kernel
theorem d_L_feed_7 : decode b_L_feed 7 = .ok (.iload 4, 2) := by decide +kernel
theorem d_L_feed_9 : decode b_L_feed 9 = .ok (.iload 5, 2) := by decide +kernel
theorem d_L_feed_11 : decode b_L_feed 11 = .ok (.invokevirtual 7, 3) := by decide +kernel
theorem d_L_feed_14 : decode b_L_feed 14 = .ok (.i2l, 1) := by decide +kernel
theorem d_L_feed_15 : decode b_L_feed 15 = .ok (.lastore, 1) := by decide +kernel
theorem d_L_feed_16 : decode b_L_feed 16 = .ok (.goto 7, 3) := by decide +kernel
theorem d_L_feed_19 : decode b_L_feed 19 = .ok (.astore 7, 2) := by decide +kernel
theorem d_L_feed_21 : decode b_L_feed 21 = .ok (.iconst 1, 1) := by decide +kernel
theorem d_L_feed_22 : decode b_L_feed 22 = .ok (.ireturn, 1) := by decide +kernel
theorem d_L_feed_23 : decode b_L_feed 23 = .ok (.iconst 0, 1) := by decide +kernel
theorem d_L_feed_24 : decode b_L_feed 24 = .ok (.ireturn, 1) := by decide +kernel
abbrev mt_L_feed : MT := (R_L, b_L_feed, 8, some .int)
def f_L_feed (γ δ : St) (w a0 a1 a2 a3 a4 : Int) : Option (Int × St) := hcl (f_S_feed γ a0 a1 a2 a3 a4) (g_S_feed γ a0 a1 a2 a3 a4) (fun r γ1 => some (0, cmb γ1 δ r)) (fun x => if x = 1 then some (1, cmb γ δ w) else none)
set_option maxHeartbeats 4000000 in
theorem h_L_feed {Γ : Ctx} (hno : Γ.l.stackTraces = false) (γ δ : St) (w a0 a1 a2 a3 a4 : Int) (ha0 : i32 a0) (ha1 : i32 a1) (ha2 : i32 a2) (ha3 : i32 a3) (ha4 : i32 a4) : HC Γ y_L_feed mt_L_feed 10 9 340 [vR Γ 0, vI a0, vI a1, vI a2, vI a3, vI a4, vR Γ 147] (cmb γ δ w) (f_L_feed γ δ w a0 a1 a2 a3 a4) := by
  refine hc_of (by decide) rfl (Nat.le_of_ble_eq_true rfl) (by decide) ?_
  show SB Γ BL mt_L_feed (RmL 9 10 340) 0 0 (KL Γ 10) 0 [(0, vR Γ 0), (1, vI a0), (2, vI a1), (3, vI a2), (4, vI a3), (5, vI a4), (6, vR Γ 147)] [] (cmb γ δ w) _
  unfold f_L_feed
  refine sb_aload 6 d_L_feed_0 rfl ?_
  refine sb_iconst d_L_feed_2 ?_
  refine sb_aload_n 0 d_L_feed_3 rfl ?_
  refine sb_iload_n 1 d_L_feed_4 rfl ?_
  refine sb_iload_n 2 d_L_feed_5 rfl ?_
  refine sb_iload_n 3 d_L_feed_6 rfl ?_
  refine sb_iload 4 d_L_feed_7 rfl ?_
  refine sb_iload 5 d_L_feed_9 rfl ?_
  refine sl_A1 (st := [vI 0, vR Γ 147]) 1 vf_S_feed (c_S_feed γ a0 a1 a2 a3 a4 ha0 ha1 ha2 ha3 ha4) (x_S_feed hno γ a0 a1 a2 a3 a4 ha0 ha1 ha2 ha3 ha4) ml_L_7 (As := [vI a0, vI a1, vI a2, vI a3, vI a4]) rfl rfl (Nat.le_of_ble_eq_true rfl) ⟨by decide, by decide⟩ ⟨by decide, by decide⟩ d_L_feed_11 ⟨by decide, by decide⟩ rfl (by decide) cl_L_13 (fun r γ1 hr => ?_) (fun q => ?_)
  · show SB Γ BL mt_L_feed (RmL 9 10 340) 0 0 (KL Γ 10) 14 [(0, vR Γ 0), (1, vI a0), (2, vI a1), (3, vI a2), (4, vI a3), (5, vI a4), (6, vR Γ 147)] [vI r, vI 0, vR Γ 147] (cmb γ1 δ w) _
    refine sb_i2l hr d_L_feed_14 ?_
    refine sl_st d_L_feed_15 ?_
    refine sb_goto 23 d_L_feed_16 (by decide) ?_
    refine sb_iconst d_L_feed_23 ?_
    exact sk_i rfl (by decide) (by decide) (by decide) d_L_feed_24
  · refine sb_astore [(7, .ref q), (0, vR Γ 0), (1, vI a0), (2, vI a1), (3, vI a2), (4, vI a3), (5, vI a4), (6, vR Γ 147)] d_L_feed_19 (by decide) rfl ?_
    refine sb_iconst d_L_feed_21 ?_
    exact sk_i rfl (by decide) (by decide) (by decide) d_L_feed_22
theorem d_L_end_0 : decode b_L_end 0 = .ok (.aload_n 2, 1) := by decide +kernel
theorem d_L_end_1 : decode b_L_end 1 = .ok (.iconst 0, 1) := by decide +kernel
theorem d_L_end_2 : decode b_L_end 2 = .ok (.aload_n 0, 1) := by decide +kernel
theorem d_L_end_3 : decode b_L_end 3 = .ok (.iload_n 1, 1) := by decide +kernel
theorem d_L_end_4 : decode b_L_end 4 = .ok (.invokevirtual 15, 3) := by decide +kernel
theorem d_L_end_7 : decode b_L_end 7 = .ok (.i2l, 1) := by decide +kernel
theorem d_L_end_8 : decode b_L_end 8 = .ok (.lastore, 1) := by decide +kernel
theorem d_L_end_9 : decode b_L_end 9 = .ok (.goto 6, 3) := by decide +kernel
theorem d_L_end_12 : decode b_L_end 12 = .ok (.astore_n 3, 1) := by decide +kernel
theorem d_L_end_13 : decode b_L_end 13 = .ok (.iconst 1, 1) := by decide +kernel
theorem d_L_end_14 : decode b_L_end 14 = .ok (.ireturn, 1) := by decide +kernel
theorem d_L_end_15 : decode b_L_end 15 = .ok (.iconst 0, 1) := by decide +kernel
theorem d_L_end_16 : decode b_L_end 16 = .ok (.ireturn, 1) := by decide +kernel
abbrev mt_L_end : MT := (R_L, b_L_end, 4, some .int)
def f_L_end (γ δ : St) (w a0 : Int) : Option (Int × St) := hcl (f_S_end γ a0) (g_S_end γ a0) (fun r γ1 => some (0, cmb γ1 δ r)) (fun x => if x = 2 then some (1, cmb γ δ w) else none)
set_option maxHeartbeats 4000000 in
theorem h_L_end {Γ : Ctx} (hno : Γ.l.stackTraces = false) (γ δ : St) (w a0 : Int) (ha0 : i32 a0) : HC Γ y_L_end mt_L_end 11 9 340 [vR Γ 0, vI a0, vR Γ 147] (cmb γ δ w) (f_L_end γ δ w a0) := by
  refine hc_of (by decide) rfl (Nat.le_of_ble_eq_true rfl) (by decide) ?_
  show SB Γ BL mt_L_end (RmL 9 11 340) 0 0 (KL Γ 11) 0 [(0, vR Γ 0), (1, vI a0), (2, vR Γ 147)] [] (cmb γ δ w) _
  unfold f_L_end
  refine sb_aload_n 2 d_L_end_0 rfl ?_
  refine sb_iconst d_L_end_1 ?_
  refine sb_aload_n 0 d_L_end_2 rfl ?_
  refine sb_iload_n 1 d_L_end_3 rfl ?_
  refine sl_A1 (st := [vI 0, vR Γ 147]) 2 vf_S_end (c_S_end γ a0 ha0) (x_S_end hno γ a0 ha0) ml_L_15 (As := [vI a0]) rfl rfl (Nat.le_of_ble_eq_true rfl) ⟨by decide, by decide⟩ ⟨by decide, by decide⟩ d_L_end_4 ⟨by decide, by decide⟩ rfl (by decide) cl_L_19 (fun r γ1 hr => ?_) (fun q => ?_)
  · show SB Γ BL mt_L_end (RmL 9 11 340) 0 0 (KL Γ 11) 7 [(0, vR Γ 0), (1, vI a0), (2, vR Γ 147)] [vI r, vI 0, vR Γ 147] (cmb γ1 δ w) _
    refine sb_i2l hr d_L_end_7 ?_
    refine sl_st d_L_end_8 ?_
    refine sb_goto 15 d_L_end_9 (by decide) ?_
    refine sb_iconst d_L_end_15 ?_
    exact sk_i rfl (by decide) (by decide) (by decide) d_L_end_16
  · refine sb_astore_n [(3, .ref q), (0, vR Γ 0), (1, vI a0), (2, vR Γ 147)] d_L_end_12 (by decide) rfl ?_
    refine sb_iconst d_L_end_13 ?_
    exact sk_i rfl (by decide) (by decide) (by decide) d_L_end_14
theorem d_L_input_0 : decode b_L_input 0 = .ok (.aload_n 3, 1) := by decide +kernel
theorem d_L_input_1 : decode b_L_input 1 = .ok (.iconst 0, 1) := by decide +kernel
theorem d_L_input_2 : decode b_L_input 2 = .ok (.aload_n 0, 1) := by decide +kernel
theorem d_L_input_3 : decode b_L_input 3 = .ok (.iload_n 1, 1) := by decide +kernel
theorem d_L_input_4 : decode b_L_input 4 = .ok (.iload_n 2, 1) := by decide +kernel
theorem d_L_input_5 : decode b_L_input 5 = .ok (.invokevirtual 21, 3) := by decide +kernel
theorem d_L_input_8 : decode b_L_input 8 = .ok (.i2l, 1) := by decide +kernel
theorem d_L_input_9 : decode b_L_input 9 = .ok (.lastore, 1) := by decide +kernel
theorem d_L_input_10 : decode b_L_input 10 = .ok (.goto 11, 3) := by decide +kernel
theorem d_L_input_13 : decode b_L_input 13 = .ok (.astore 4, 2) := by decide +kernel
theorem d_L_input_15 : decode b_L_input 15 = .ok (.iconst 1, 1) := by decide +kernel
theorem d_L_input_16 : decode b_L_input 16 = .ok (.ireturn, 1) := by decide +kernel
theorem d_L_input_17 : decode b_L_input 17 = .ok (.astore 4, 2) := by decide +kernel
theorem d_L_input_19 : decode b_L_input 19 = .ok (.iconst 2, 1) := by decide +kernel
theorem d_L_input_20 : decode b_L_input 20 = .ok (.ireturn, 1) := by decide +kernel
theorem d_L_input_21 : decode b_L_input 21 = .ok (.iconst 0, 1) := by decide +kernel
theorem d_L_input_22 : decode b_L_input 22 = .ok (.ireturn, 1) := by decide +kernel
abbrev mt_L_input : MT := (R_L, b_L_input, 5, some .int)
def f_L_input (γ δ : St) (w a0 a1 : Int) : Option (Int × St) := hcl (f_S_input γ a0 a1) (g_S_input γ a0 a1) (fun r γ1 => some (0, cmb γ1 δ r)) (fun x => if x = 3 then some (1, cmb γ δ w) else if x = 2 then some (2, cmb γ δ w) else none)
set_option maxHeartbeats 4000000 in
theorem h_L_input {Γ : Ctx} (hno : Γ.l.stackTraces = false) (γ δ : St) (w a0 a1 : Int) (ha0 : i32 a0) (ha1 : i32 a1) : HC Γ y_L_input mt_L_input 12 9 340 [vR Γ 0, vI a0, vI a1, vR Γ 147] (cmb γ δ w) (f_L_input γ δ w a0 a1) := by
  refine hc_of (by decide) rfl (Nat.le_of_ble_eq_true rfl) (by decide) ?_
  show SB Γ BL mt_L_input (RmL 9 12 340) 0 0 (KL Γ 12) 0 [(0, vR Γ 0), (1, vI a0), (2, vI a1), (3, vR Γ 147)] [] (cmb γ δ w) _
  unfold f_L_input
  refine sb_aload_n 3 d_L_input_0 rfl ?_
  refine sb_iconst d_L_input_1 ?_
  refine sb_aload_n 0 d_L_input_2 rfl ?_
  refine sb_iload_n 1 d_L_input_3 rfl ?_
  refine sb_iload_n 2 d_L_input_4 rfl ?_
  refine sl_A2 (st := [vI 0, vR Γ 147]) 3 2 vf_S_input (c_S_input γ a0 a1 ha0 ha1) (x_S_input hno γ a0 a1 ha0 ha1) ml_L_21 (As := [vI a0, vI a1]) rfl rfl (Nat.le_of_ble_eq_true rfl) ⟨by decide, by decide⟩ ⟨by decide, by decide⟩ d_L_input_5 ⟨by decide, by decide⟩ rfl (by decide) cl_L_25  cl_L_19 (fun h => h.2.2) (fun r γ1 hr => ?_) (fun q => ?_) (fun q => ?_)
  · show SB Γ BL mt_L_input (RmL 9 12 340) 0 0 (KL Γ 12) 8 [(0, vR Γ 0), (1, vI a0), (2, vI a1), (3, vR Γ 147)] [vI r, vI 0, vR Γ 147] (cmb γ1 δ w) _
    refine sb_i2l hr d_L_input_8 ?_
    refine sl_st d_L_input_9 ?_
    refine sb_goto 21 d_L_input_10 (by decide) ?_
    refine sb_iconst d_L_input_21 ?_
    exact sk_i rfl (by decide) (by decide) (by decide) d_L_input_22
  · refine sb_astore [(4, .ref q), (0, vR Γ 0), (1, vI a0), (2, vI a1), (3, vR Γ 147)] d_L_input_13 (by decide) rfl ?_
    refine sb_iconst d_L_input_15 ?_
    exact sk_i rfl (by decide) (by decide) (by decide) d_L_input_16
  · refine sb_astore [(4, .ref q), (0, vR Γ 0), (1, vI a0), (2, vI a1), (3, vR Γ 147)] d_L_input_17 (by decide) rfl ?_
    refine sb_iconst d_L_input_19 ?_
    exact sk_i rfl (by decide) (by decide) (by decide) d_L_input_20
theorem d_L_tick_0 : decode b_L_tick 0 = .ok (.aload_n 2, 1) := by decide +kernel
theorem d_L_tick_1 : decode b_L_tick 1 = .ok (.iconst 0, 1) := by decide +kernel
theorem d_L_tick_2 : decode b_L_tick 2 = .ok (.aload_n 0, 1) := by decide +kernel
theorem d_L_tick_3 : decode b_L_tick 3 = .ok (.iload_n 1, 1) := by decide +kernel
theorem d_L_tick_4 : decode b_L_tick 4 = .ok (.invokevirtual 27, 3) := by decide +kernel
theorem d_L_tick_7 : decode b_L_tick 7 = .ok (.i2l, 1) := by decide +kernel
theorem d_L_tick_8 : decode b_L_tick 8 = .ok (.lastore, 1) := by decide +kernel
theorem d_L_tick_9 : decode b_L_tick 9 = .ok (.goto 9, 3) := by decide +kernel
theorem d_L_tick_12 : decode b_L_tick 12 = .ok (.astore_n 3, 1) := by decide +kernel
theorem d_L_tick_13 : decode b_L_tick 13 = .ok (.iconst 1, 1) := by decide +kernel
theorem d_L_tick_14 : decode b_L_tick 14 = .ok (.ireturn, 1) := by decide +kernel
theorem d_L_tick_15 : decode b_L_tick 15 = .ok (.astore_n 3, 1) := by decide +kernel
theorem d_L_tick_16 : decode b_L_tick 16 = .ok (.iconst 2, 1) := by decide +kernel
theorem d_L_tick_17 : decode b_L_tick 17 = .ok (.ireturn, 1) := by decide +kernel
theorem d_L_tick_18 : decode b_L_tick 18 = .ok (.iconst 0, 1) := by decide +kernel
theorem d_L_tick_19 : decode b_L_tick 19 = .ok (.ireturn, 1) := by decide +kernel
abbrev mt_L_tick : MT := (R_L, b_L_tick, 4, some .int)
def f_L_tick (γ δ : St) (w a0 : Int) : Option (Int × St) := hcl (f_S_tick γ a0) (g_S_tick γ a0) (fun r γ1 => some (0, cmb γ1 δ r)) (fun x => if x = 2 then some (1, cmb γ δ w) else if x = 1 then some (2, cmb γ δ w) else none)
set_option maxHeartbeats 4000000 in
theorem h_L_tick {Γ : Ctx} (hno : Γ.l.stackTraces = false) (γ δ : St) (w a0 : Int) (ha0 : i32 a0) : HC Γ y_L_tick mt_L_tick 13 9 340 [vR Γ 0, vI a0, vR Γ 147] (cmb γ δ w) (f_L_tick γ δ w a0) := by
  refine hc_of (by decide) rfl (Nat.le_of_ble_eq_true rfl) (by decide) ?_
  show SB Γ BL mt_L_tick (RmL 9 13 340) 0 0 (KL Γ 13) 0 [(0, vR Γ 0), (1, vI a0), (2, vR Γ 147)] [] (cmb γ δ w) _
  unfold f_L_tick
  refine sb_aload_n 2 d_L_tick_0 rfl ?_
  refine sb_iconst d_L_tick_1 ?_
  refine sb_aload_n 0 d_L_tick_2 rfl ?_
  refine sb_iload_n 1 d_L_tick_3 rfl ?_
  refine sl_A2 (st := [vI 0, vR Γ 147]) 2 1 vf_S_tick (c_S_tick γ a0 ha0) (x_S_tick hno γ a0 ha0) ml_L_27 (As := [vI a0]) rfl rfl (Nat.le_of_ble_eq_true rfl) ⟨by decide, by decide⟩ ⟨by decide, by decide⟩ d_L_tick_4 ⟨by decide, by decide⟩ rfl (by decide) cl_L_19  cl_L_13 (fun h => h.1) (fun r γ1 hr => ?_) (fun q => ?_) (fun q => ?_)
  · show SB Γ BL mt_L_tick (RmL 9 13 340) 0 0 (KL Γ 13) 7 [(0, vR Γ 0), (1, vI a0), (2, vR Γ 147)] [vI r, vI 0, vR Γ 147] (cmb γ1 δ w) _
    refine sb_i2l hr d_L_tick_7 ?_
    refine sl_st d_L_tick_8 ?_
    refine sb_goto 18 d_L_tick_9 (by decide) ?_
    refine sb_iconst d_L_tick_18 ?_
    exact sk_i rfl (by decide) (by decide) (by decide) d_L_tick_19
  · refine sb_astore_n [(3, .ref q), (0, vR Γ 0), (1, vI a0), (2, vR Γ 147)] d_L_tick_12 (by decide) rfl ?_
    refine sb_iconst d_L_tick_13 ?_
    exact sk_i rfl (by decide) (by decide) (by decide) d_L_tick_14
  · refine sb_astore_n [(3, .ref q), (0, vR Γ 0), (1, vI a0), (2, vR Γ 147)] d_L_tick_15 (by decide) rfl ?_
    refine sb_iconst d_L_tick_16 ?_
    exact sk_i rfl (by decide) (by decide) (by decide) d_L_tick_17
theorem d_L_value_0 : decode b_L_value 0 = .ok (.aload_n 2, 1) := by decide +kernel
theorem d_L_value_1 : decode b_L_value 1 = .ok (.iconst 0, 1) := by decide +kernel
theorem d_L_value_2 : decode b_L_value 2 = .ok (.aload_n 0, 1) := by decide +kernel
theorem d_L_value_3 : decode b_L_value 3 = .ok (.iload_n 1, 1) := by decide +kernel
theorem d_L_value_4 : decode b_L_value 4 = .ok (.invokevirtual 30, 3) := by decide +kernel
theorem d_L_value_7 : decode b_L_value 7 = .ok (.lastore, 1) := by decide +kernel
theorem d_L_value_8 : decode b_L_value 8 = .ok (.goto 9, 3) := by decide +kernel
theorem d_L_value_11 : decode b_L_value 11 = .ok (.astore_n 3, 1) := by decide +kernel
theorem d_L_value_12 : decode b_L_value 12 = .ok (.iconst 1, 1) := by decide +kernel
theorem d_L_value_13 : decode b_L_value 13 = .ok (.ireturn, 1) := by decide +kernel
theorem d_L_value_14 : decode b_L_value 14 = .ok (.astore_n 3, 1) := by decide +kernel
theorem d_L_value_15 : decode b_L_value 15 = .ok (.iconst 2, 1) := by decide +kernel
theorem d_L_value_16 : decode b_L_value 16 = .ok (.ireturn, 1) := by decide +kernel
theorem d_L_value_17 : decode b_L_value 17 = .ok (.iconst 0, 1) := by decide +kernel
theorem d_L_value_18 : decode b_L_value 18 = .ok (.ireturn, 1) := by decide +kernel
abbrev mt_L_value : MT := (R_L, b_L_value, 4, some .int)
def f_L_value (γ δ : St) (w a0 : Int) : Option (Int × St) := hcl (f_S_value γ a0) (g_S_value γ a0) (fun r γ1 => some (0, cmb γ1 δ r)) (fun x => if x = 3 then some (1, cmb γ δ w) else if x = 1 then some (2, cmb γ δ w) else none)
set_option maxHeartbeats 4000000 in
theorem h_L_value {Γ : Ctx} (hno : Γ.l.stackTraces = false) (γ δ : St) (w a0 : Int) (ha0 : i32 a0) : HC Γ y_L_value mt_L_value 14 9 340 [vR Γ 0, vI a0, vR Γ 147] (cmb γ δ w) (f_L_value γ δ w a0) := by
  refine hc_of (by decide) rfl (Nat.le_of_ble_eq_true rfl) (by decide) ?_
  show SB Γ BL mt_L_value (RmL 9 14 340) 0 0 (KL Γ 14) 0 [(0, vR Γ 0), (1, vI a0), (2, vR Γ 147)] [] (cmb γ δ w) _
  unfold f_L_value
  refine sb_aload_n 2 d_L_value_0 rfl ?_
  refine sb_iconst d_L_value_1 ?_
  refine sb_aload_n 0 d_L_value_2 rfl ?_
  refine sb_iload_n 1 d_L_value_3 rfl ?_
  refine sl_A2 (st := [vI 0, vR Γ 147]) 3 1 vf_S_value (c_S_value γ a0 ha0) (x_S_value hno γ a0 ha0) ml_L_30 (As := [vI a0]) rfl rfl (Nat.le_of_ble_eq_true rfl) ⟨by decide, by decide⟩ ⟨by decide, by decide⟩ d_L_value_4 ⟨by decide, by decide⟩ rfl (by decide) cl_L_25  cl_L_13 (fun h => h.2.1) (fun r γ1 hr => ?_) (fun q => ?_) (fun q => ?_)
  · show SB Γ BL mt_L_value (RmL 9 14 340) 0 0 (KL Γ 14) 7 [(0, vR Γ 0), (1, vI a0), (2, vR Γ 147)] [.long (iL r), vI 0, vR Γ 147] (cmb γ1 δ w) _
    refine sl_st d_L_value_7 ?_
    refine sb_goto 17 d_L_value_8 (by decide) ?_
    refine sb_iconst d_L_value_17 ?_
    exact sk_i rfl (by decide) (by decide) (by decide) d_L_value_18
  · refine sb_astore_n [(3, .ref q), (0, vR Γ 0), (1, vI a0), (2, vR Γ 147)] d_L_value_11 (by decide) rfl ?_
    refine sb_iconst d_L_value_12 ?_
    exact sk_i rfl (by decide) (by decide) (by decide) d_L_value_13
  · refine sb_astore_n [(3, .ref q), (0, vR Γ 0), (1, vI a0), (2, vR Γ 147)] d_L_value_14 (by decide) rfl ?_
    refine sb_iconst d_L_value_15 ?_
    exact sk_i rfl (by decide) (by decide) (by decide) d_L_value_16
theorem d_L_about_0 : decode b_L_about 0 = .ok (.aload_n 3, 1) := by decide +kernel
theorem d_L_about_1 : decode b_L_about 1 = .ok (.iconst 0, 1) := by decide +kernel
theorem d_L_about_2 : decode b_L_about 2 = .ok (.aload_n 0, 1) := by decide +kernel
theorem d_L_about_3 : decode b_L_about 3 = .ok (.iload_n 1, 1) := by decide +kernel
theorem d_L_about_4 : decode b_L_about 4 = .ok (.iload_n 2, 1) := by decide +kernel
theorem d_L_about_5 : decode b_L_about 5 = .ok (.invokevirtual 34, 3) := by decide +kernel
theorem d_L_about_8 : decode b_L_about 8 = .ok (.i2l, 1) := by decide +kernel
theorem d_L_about_9 : decode b_L_about 9 = .ok (.lastore, 1) := by decide +kernel
theorem d_L_about_10 : decode b_L_about 10 = .ok (.goto 11, 3) := by decide +kernel
theorem d_L_about_13 : decode b_L_about 13 = .ok (.astore 4, 2) := by decide +kernel
theorem d_L_about_15 : decode b_L_about 15 = .ok (.iconst 1, 1) := by decide +kernel
theorem d_L_about_16 : decode b_L_about 16 = .ok (.ireturn, 1) := by decide +kernel
theorem d_L_about_17 : decode b_L_about 17 = .ok (.astore 4, 2) := by decide +kernel
theorem d_L_about_19 : decode b_L_about 19 = .ok (.iconst 2, 1) := by decide +kernel
theorem d_L_about_20 : decode b_L_about 20 = .ok (.ireturn, 1) := by decide +kernel
theorem d_L_about_21 : decode b_L_about 21 = .ok (.iconst 0, 1) := by decide +kernel
theorem d_L_about_22 : decode b_L_about 22 = .ok (.ireturn, 1) := by decide +kernel
abbrev mt_L_about : MT := (R_L, b_L_about, 5, some .int)
def f_L_about (γ δ : St) (w a0 a1 : Int) : Option (Int × St) := hcl (f_S_about γ a0 a1) (g_S_about γ a0 a1) (fun r γ1 => some (0, cmb γ1 δ r)) (fun x => if x = 3 then some (1, cmb γ δ w) else if x = 2 then some (2, cmb γ δ w) else none)
set_option maxHeartbeats 4000000 in
theorem h_L_about {Γ : Ctx} (hno : Γ.l.stackTraces = false) (γ δ : St) (w a0 a1 : Int) (ha0 : i32 a0) (ha1 : i32 a1) : HC Γ y_L_about mt_L_about 15 9 340 [vR Γ 0, vI a0, vI a1, vR Γ 147] (cmb γ δ w) (f_L_about γ δ w a0 a1) := by
  refine hc_of (by decide) rfl (Nat.le_of_ble_eq_true rfl) (by decide) ?_
  show SB Γ BL mt_L_about (RmL 9 15 340) 0 0 (KL Γ 15) 0 [(0, vR Γ 0), (1, vI a0), (2, vI a1), (3, vR Γ 147)] [] (cmb γ δ w) _
  unfold f_L_about
  refine sb_aload_n 3 d_L_about_0 rfl ?_
  refine sb_iconst d_L_about_1 ?_
  refine sb_aload_n 0 d_L_about_2 rfl ?_
  refine sb_iload_n 1 d_L_about_3 rfl ?_
  refine sb_iload_n 2 d_L_about_4 rfl ?_
  refine sl_A2 (st := [vI 0, vR Γ 147]) 3 2 vf_S_about (c_S_about γ a0 a1 ha0 ha1) (x_S_about hno γ a0 a1 ha0 ha1) ml_L_34 (As := [vI a0, vI a1]) rfl rfl (Nat.le_of_ble_eq_true rfl) ⟨by decide, by decide⟩ ⟨by decide, by decide⟩ d_L_about_5 ⟨by decide, by decide⟩ rfl (by decide) cl_L_25  cl_L_19 (fun h => h.2.2) (fun r γ1 hr => ?_) (fun q => ?_) (fun q => ?_)
  · show SB Γ BL mt_L_about (RmL 9 15 340) 0 0 (KL Γ 15) 8 [(0, vR Γ 0), (1, vI a0), (2, vI a1), (3, vR Γ 147)] [vI r, vI 0, vR Γ 147] (cmb γ1 δ w) _
    refine sb_i2l hr d_L_about_8 ?_
    refine sl_st d_L_about_9 ?_
    refine sb_goto 21 d_L_about_10 (by decide) ?_
    refine sb_iconst d_L_about_21 ?_
    exact sk_i rfl (by decide) (by decide) (by decide) d_L_about_22
  · refine sb_astore [(4, .ref q), (0, vR Γ 0), (1, vI a0), (2, vI a1), (3, vR Γ 147)] d_L_about_13 (by decide) rfl ?_
    refine sb_iconst d_L_about_15 ?_
    exact sk_i rfl (by decide) (by decide) (by decide) d_L_about_16
  · refine sb_astore [(4, .ref q), (0, vR Γ 0), (1, vI a0), (2, vI a1), (3, vR Γ 147)] d_L_about_17 (by decide) rfl ?_
    refine sb_iconst d_L_about_19 ?_
    exact sk_i rfl (by decide) (by decide) (by decide) d_L_about_20
theorem d_L_causes_0 : decode b_L_causes 0 = .ok (.aload_n 3, 1) := by decide +kernel
theorem d_L_causes_1 : decode b_L_causes 1 = .ok (.iconst 0, 1) := by decide +kernel
theorem d_L_causes_2 : decode b_L_causes 2 = .ok (.aload_n 0, 1) := by decide +kernel
theorem d_L_causes_3 : decode b_L_causes 3 = .ok (.iload_n 1, 1) := by decide +kernel
theorem d_L_causes_4 : decode b_L_causes 4 = .ok (.iload_n 2, 1) := by decide +kernel
theorem d_L_causes_5 : decode b_L_causes 5 = .ok (.invokevirtual 37, 3) := by decide +kernel
theorem d_L_causes_8 : decode b_L_causes 8 = .ok (.ifCond .eq 7, 3) := by decide +kernel
theorem d_L_causes_11 : decode b_L_causes 11 = .ok (.lconst 1, 1) := by decide +kernel
theorem d_L_causes_12 : decode b_L_causes 12 = .ok (.goto 4, 3) := by decide +kernel
theorem d_L_causes_15 : decode b_L_causes 15 = .ok (.lconst 0, 1) := by decide +kernel
theorem d_L_causes_16 : decode b_L_causes 16 = .ok (.lastore, 1) := by decide +kernel
theorem d_L_causes_17 : decode b_L_causes 17 = .ok (.goto 7, 3) := by decide +kernel
theorem d_L_causes_20 : decode b_L_causes 20 = .ok (.astore 4, 2) := by decide +kernel
theorem d_L_causes_22 : decode b_L_causes 22 = .ok (.iconst 1, 1) := by decide +kernel
theorem d_L_causes_23 : decode b_L_causes 23 = .ok (.ireturn, 1) := by decide +kernel
theorem d_L_causes_24 : decode b_L_causes 24 = .ok (.iconst 0, 1) := by decide +kernel
theorem d_L_causes_25 : decode b_L_causes 25 = .ok (.ireturn, 1) := by decide +kernel
abbrev mt_L_causes : MT := (R_L, b_L_causes, 5, some .int)
def f_L_causes (γ δ : St) (w a0 a1 : Int) : Option (Int × St) := hcl (f_S_causes γ a0 a1) (g_S_causes γ a0 a1) (fun r γ1 => if r = 0 then some (0, cmb γ1 δ 0) else some (0, cmb γ1 δ 1)) (fun x => if x = 3 then some (1, cmb γ δ w) else none)
set_option maxHeartbeats 4000000 in
theorem h_L_causes {Γ : Ctx} (hno : Γ.l.stackTraces = false) (γ δ : St) (w a0 a1 : Int) (ha0 : i32 a0) (ha1 : i32 a1) : HC Γ y_L_causes mt_L_causes 16 9 340 [vR Γ 0, vI a0, vI a1, vR Γ 147] (cmb γ δ w) (f_L_causes γ δ w a0 a1) := by
  refine hc_of (by decide) rfl (Nat.le_of_ble_eq_true rfl) (by decide) ?_
  show SB Γ BL mt_L_causes (RmL 9 16 340) 0 0 (KL Γ 16) 0 [(0, vR Γ 0), (1, vI a0), (2, vI a1), (3, vR Γ 147)] [] (cmb γ δ w) _
  unfold f_L_causes
  refine sb_aload_n 3 d_L_causes_0 rfl ?_
  refine sb_iconst d_L_causes_1 ?_
  refine sb_aload_n 0 d_L_causes_2 rfl ?_
  refine sb_iload_n 1 d_L_causes_3 rfl ?_
  refine sb_iload_n 2 d_L_causes_4 rfl ?_
  refine sl_A1 (st := [vI 0, vR Γ 147]) 3 vf_S_causes (c_S_causes γ a0 a1 ha0 ha1) (x_S_causes hno γ a0 a1 ha0 ha1) ml_L_37 (As := [vI a0, vI a1]) rfl rfl (Nat.le_of_ble_eq_true rfl) ⟨by decide, by decide⟩ ⟨by decide, by decide⟩ d_L_causes_5 ⟨by decide, by decide⟩ rfl (by decide) cl_L_25 (fun r γ1 hr => ?_) (fun q => ?_)
  · show SB Γ BL mt_L_causes (RmL 9 16 340) 0 0 (KL Γ 16) 8 [(0, vR Γ 0), (1, vI a0), (2, vI a1), (3, vR Γ 147)] [vI r, vI 0, vR Γ 147] (cmb γ1 δ w) _
    refine sb_if_eq 15 (z2i hr) d_L_causes_8 (by decide) (fun _ => ?_) (fun _ => ?_)
    · refine sb_lconst 0 d_L_causes_15 (by decide) ?_
      refine sl_st d_L_causes_16 ?_
      refine sb_goto 24 d_L_causes_17 (by decide) ?_
      refine sb_iconst d_L_causes_24 ?_
      exact sk_i rfl (by decide) (by decide) (by decide) d_L_causes_25
    · refine sb_lconst 1 d_L_causes_11 (by decide) ?_
      refine sb_goto 16 d_L_causes_12 (by decide) ?_
      refine sl_st d_L_causes_16 ?_
      refine sb_goto 24 d_L_causes_17 (by decide) ?_
      refine sb_iconst d_L_causes_24 ?_
      exact sk_i rfl (by decide) (by decide) (by decide) d_L_causes_25
  · refine sb_astore [(4, .ref q), (0, vR Γ 0), (1, vI a0), (2, vI a1), (3, vR Γ 147)] d_L_causes_20 (by decide) rfl ?_
    refine sb_iconst d_L_causes_22 ?_
    exact sk_i rfl (by decide) (by decide) (by decide) d_L_causes_23
theorem d_L_restart_0 : decode b_L_restart 0 = .ok (.aload_n 1, 1) := by decide +kernel
theorem d_L_restart_1 : decode b_L_restart 1 = .ok (.iconst 0, 1) := by decide +kernel
theorem d_L_restart_2 : decode b_L_restart 2 = .ok (.aload_n 0, 1) := by decide +kernel
theorem d_L_restart_3 : decode b_L_restart 3 = .ok (.invokevirtual 41, 3) := by decide +kernel
theorem d_L_restart_6 : decode b_L_restart 6 = .ok (.i2l, 1) := by decide +kernel
theorem d_L_restart_7 : decode b_L_restart 7 = .ok (.lastore, 1) := by decide +kernel
theorem d_L_restart_8 : decode b_L_restart 8 = .ok (.goto 6, 3) := by decide +kernel
theorem d_L_restart_11 : decode b_L_restart 11 = .ok (.astore_n 2, 1) := by decide +kernel
theorem d_L_restart_12 : decode b_L_restart 12 = .ok (.iconst 1, 1) := by decide +kernel
theorem d_L_restart_13 : decode b_L_restart 13 = .ok (.ireturn, 1) := by decide +kernel
theorem d_L_restart_14 : decode b_L_restart 14 = .ok (.iconst 0, 1) := by decide +kernel
theorem d_L_restart_15 : decode b_L_restart 15 = .ok (.ireturn, 1) := by decide +kernel
abbrev mt_L_restart : MT := (R_L, b_L_restart, 3, some .int)
def f_L_restart (γ δ : St) (w : Int) : Option (Int × St) := hcl (f_S_restart γ ) (g_S_restart γ ) (fun r γ1 => some (0, cmb γ1 δ r)) (fun x => if x = 1 then some (1, cmb γ δ w) else none)
set_option maxHeartbeats 4000000 in
theorem h_L_restart {Γ : Ctx} (hno : Γ.l.stackTraces = false) (γ δ : St) (w : Int) : HC Γ y_L_restart mt_L_restart 17 9 340 [vR Γ 0, vR Γ 147] (cmb γ δ w) (f_L_restart γ δ w ) := by
  refine hc_of (by decide) rfl (Nat.le_of_ble_eq_true rfl) (by decide) ?_
  show SB Γ BL mt_L_restart (RmL 9 17 340) 0 0 (KL Γ 17) 0 [(0, vR Γ 0), (1, vR Γ 147)] [] (cmb γ δ w) _
  unfold f_L_restart
  refine sb_aload_n 1 d_L_restart_0 rfl ?_
  refine sb_iconst d_L_restart_1 ?_
  refine sb_aload_n 0 d_L_restart_2 rfl ?_
  refine sl_A1 (st := [vI 0, vR Γ 147]) 1 vf_S_restart (c_S_restart γ  ) (x_S_restart hno γ  ) ml_L_41 (As := []) rfl rfl (Nat.le_of_ble_eq_true rfl) ⟨by decide, by decide⟩ ⟨by decide, by decide⟩ d_L_restart_3 ⟨by decide, by decide⟩ rfl (by decide) cl_L_13 (fun r γ1 hr => ?_) (fun q => ?_)
  · show SB Γ BL mt_L_restart (RmL 9 17 340) 0 0 (KL Γ 17) 6 [(0, vR Γ 0), (1, vR Γ 147)] [vI r, vI 0, vR Γ 147] (cmb γ1 δ w) _
    refine sb_i2l hr d_L_restart_6 ?_
    refine sl_st d_L_restart_7 ?_
    refine sb_goto 14 d_L_restart_8 (by decide) ?_
    refine sb_iconst d_L_restart_14 ?_
    exact sk_i rfl (by decide) (by decide) (by decide) d_L_restart_15
  · refine sb_astore_n [(2, .ref q), (0, vR Γ 0), (1, vR Γ 147)] d_L_restart_11 (by decide) rfl ?_
    refine sb_iconst d_L_restart_12 ?_
    exact sk_i rfl (by decide) (by decide) (by decide) d_L_restart_13
theorem d_L_keep_0 : decode b_L_keep 0 = .ok (.aload_n 0, 1) := by decide +kernel
theorem d_L_keep_1 : decode b_L_keep 1 = .ok (.invokevirtual 45, 3) := by decide +kernel
theorem d_L_keep_4 : decode b_L_keep 4 = .ok (.goto 6, 3) := by decide +kernel
theorem d_L_keep_7 : decode b_L_keep 7 = .ok (.astore_n 1, 1) := by decide +kernel
theorem d_L_keep_8 : decode b_L_keep 8 = .ok (.iconst 1, 1) := by decide +kernel
theorem d_L_keep_9 : decode b_L_keep 9 = .ok (.ireturn, 1) := by decide +kernel
theorem d_L_keep_10 : decode b_L_keep 10 = .ok (.iconst 0, 1) := by decide +kernel
theorem d_L_keep_11 : decode b_L_keep 11 = .ok (.ireturn, 1) := by decide +kernel
abbrev mt_L_keep : MT := (R_L, b_L_keep, 2, some .int)
def f_L_keep (γ δ : St) (w : Int) : Option (Int × St) := hcl (f_S_keep γ ) (g_S_keep γ ) (fun _ γ1 => some (0, cmb γ1 δ w)) (fun x => if x = 1 then some (1, cmb γ δ w) else none)
set_option maxHeartbeats 4000000 in
theorem h_L_keep {Γ : Ctx} (hno : Γ.l.stackTraces = false) (γ δ : St) (w : Int) : HC Γ y_L_keep mt_L_keep 18 9 340 [vR Γ 0] (cmb γ δ w) (f_L_keep γ δ w ) := by
  refine hc_of (by decide) rfl (Nat.le_of_ble_eq_true rfl) (by decide) ?_
  show SB Γ BL mt_L_keep (RmL 9 18 340) 0 0 (KL Γ 18) 0 [(0, vR Γ 0)] [] (cmb γ δ w) _
  unfold f_L_keep
  refine sb_aload_n 0 d_L_keep_0 rfl ?_
  refine sl_A1 (st := []) 1 vf_S_keep (c_S_keep γ  ) (x_S_keep hno γ  ) ml_L_45 (As := []) rfl rfl (Nat.le_of_ble_eq_true rfl) ⟨by decide, by decide⟩ ⟨by decide, by decide⟩ d_L_keep_1 ⟨by decide, by decide⟩ rfl (by decide) cl_L_13 (fun r γ1 hr => ?_) (fun q => ?_)
  · show SB Γ BL mt_L_keep (RmL 9 18 340) 0 0 (KL Γ 18) 4 [(0, vR Γ 0)] [] (cmb γ1 δ w) _
    refine sb_goto 10 d_L_keep_4 (by decide) ?_
    refine sb_iconst d_L_keep_10 ?_
    exact sk_i rfl (by decide) (by decide) (by decide) d_L_keep_11
  · refine sb_astore_n [(1, .ref q), (0, vR Γ 0)] d_L_keep_7 (by decide) rfl ?_
    refine sb_iconst d_L_keep_8 ?_
    exact sk_i rfl (by decide) (by decide) (by decide) d_L_keep_9
theorem d_L_back_0 : decode b_L_back 0 = .ok (.aload_n 1, 1) := by decide +kernel
theorem d_L_back_1 : decode b_L_back 1 = .ok (.iconst 0, 1) := by decide +kernel
theorem d_L_back_2 : decode b_L_back 2 = .ok (.aload_n 0, 1) := by decide +kernel
theorem d_L_back_3 : decode b_L_back 3 = .ok (.invokevirtual 48, 3) := by decide +kernel
theorem d_L_back_6 : decode b_L_back 6 = .ok (.i2l, 1) := by decide +kernel
theorem d_L_back_7 : decode b_L_back 7 = .ok (.lastore, 1) := by decide +kernel
theorem d_L_back_8 : decode b_L_back 8 = .ok (.goto 6, 3) := by decide +kernel
theorem d_L_back_11 : decode b_L_back 11 = .ok (.astore_n 2, 1) := by decide +kernel
theorem d_L_back_12 : decode b_L_back 12 = .ok (.iconst 1, 1) := by decide +kernel
theorem d_L_back_13 : decode b_L_back 13 = .ok (.ireturn, 1) := by decide +kernel
theorem d_L_back_14 : decode b_L_back 14 = .ok (.iconst 0, 1) := by decide +kernel
theorem d_L_back_15 : decode b_L_back 15 = .ok (.ireturn, 1) := by decide +kernel
abbrev mt_L_back : MT := (R_L, b_L_back, 3, some .int)
def f_L_back (γ δ : St) (w : Int) : Option (Int × St) := hcl (f_S_back γ ) (g_S_back γ ) (fun r γ1 => some (0, cmb γ1 δ r)) (fun x => if x = 1 then some (1, cmb γ δ w) else none)
set_option maxHeartbeats 4000000 in
theorem h_L_back {Γ : Ctx} (hno : Γ.l.stackTraces = false) (γ δ : St) (w : Int) : HC Γ y_L_back mt_L_back 19 9 340 [vR Γ 0, vR Γ 147] (cmb γ δ w) (f_L_back γ δ w ) := by
  refine hc_of (by decide) rfl (Nat.le_of_ble_eq_true rfl) (by decide) ?_
  show SB Γ BL mt_L_back (RmL 9 19 340) 0 0 (KL Γ 19) 0 [(0, vR Γ 0), (1, vR Γ 147)] [] (cmb γ δ w) _
  unfold f_L_back
  refine sb_aload_n 1 d_L_back_0 rfl ?_
  refine sb_iconst d_L_back_1 ?_
  refine sb_aload_n 0 d_L_back_2 rfl ?_
  refine sl_A1 (st := [vI 0, vR Γ 147]) 1 vf_S_back (c_S_back γ  ) (x_S_back hno γ  ) ml_L_48 (As := []) rfl rfl (Nat.le_of_ble_eq_true rfl) ⟨by decide, by decide⟩ ⟨by decide, by decide⟩ d_L_back_3 ⟨by decide, by decide⟩ rfl (by decide) cl_L_13 (fun r γ1 hr => ?_) (fun q => ?_)
  · show SB Γ BL mt_L_back (RmL 9 19 340) 0 0 (KL Γ 19) 6 [(0, vR Γ 0), (1, vR Γ 147)] [vI r, vI 0, vR Γ 147] (cmb γ1 δ w) _
    refine sb_i2l hr d_L_back_6 ?_
    refine sl_st d_L_back_7 ?_
    refine sb_goto 14 d_L_back_8 (by decide) ?_
    refine sb_iconst d_L_back_14 ?_
    exact sk_i rfl (by decide) (by decide) (by decide) d_L_back_15
  · refine sb_astore_n [(2, .ref q), (0, vR Γ 0), (1, vR Γ 147)] d_L_back_11 (by decide) rfl ?_
    refine sb_iconst d_L_back_12 ?_
    exact sk_i rfl (by decide) (by decide) (by decide) d_L_back_13
