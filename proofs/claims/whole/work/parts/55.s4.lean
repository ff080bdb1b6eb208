/-! the class as functions: what is put in, its order -/
theorem d_Sl_begin_0 : decode b_Sl_begin 0 = .ok (.aload_n 0, 1) := by decide +kernel
theorem d_Sl_begin_1 : decode b_Sl_begin 1 = .ok (.iload_n 1, 1) := by decide +kernel
theorem d_Sl_begin_2 : decode b_Sl_begin 2 = .ok (.putfield 39, 3) := by decide +kernel
theorem d_Sl_begin_5 : decode b_Sl_begin 5 = .ok (.aload_n 0, 1) := by decide +kernel
theorem d_Sl_begin_6 : decode b_Sl_begin 6 = .ok (.iload_n 1, 1) := by decide +kernel
theorem d_Sl_begin_7 : decode b_Sl_begin 7 = .ok (.putfield 43, 3) := by decide +kernel
theorem d_Sl_begin_10 : decode b_Sl_begin 10 = .ok (.aload_n 0, 1) := by decide +kernel
theorem d_Sl_begin_11 : decode b_Sl_begin 11 = .ok (.iconst 0, 1) := by decide +kernel
theorem d_Sl_begin_12 : decode b_Sl_begin 12 = .ok (.putfield 46, 3) := by decide +kernel
theorem d_Sl_begin_15 : decode b_Sl_begin 15 = .ok (.return_, 1) := by decide +kernel
abbrev mt_Sl_begin : MT := (R_Sl, b_Sl_begin, 2, none)
theorem vf_Sl_begin : VF y_Sl_begin mt_Sl_begin 9 1 := ⟨im_Sl_begin, se_Sl_begin, in_Sl, co_Sl_begin, by decide +kernel, _, _, rfl⟩
def f_Sl_begin (γ : St) (a0 : Int) : Option (Int × St) :=
  ap (setA γ 8 8 a0) fun γ1 =>
  ap (setA γ1 8 5 a0) fun γ2 =>
  ap (setA γ2 8 11 0) fun γ3 =>
  some (0, γ3)
set_option maxHeartbeats 4000000 in
theorem c_Sl_begin {Γ : Ctx} (γ : St) (a0 : Int) (ha0 : i32 a0) : NC Γ BS y_Sl_begin mt_Sl_begin 6 240 [vR Γ 8, vI a0] γ (f_Sl_begin γ a0) := by
  refine nc_of (by decide) rfl (Nat.le_of_ble_eq_true rfl) ?_
  show SB Γ BS mt_Sl_begin (RmN 6 240) 0 0 (KN Γ BS mt_Sl_begin.2.2.2) 0 [(0, vR Γ 8), (1, vI a0)] [] γ _
  unfold f_Sl_begin
  refine sb_aload_n 0 d_Sl_begin_0 rfl ?_
  refine sb_iload_n 1 d_Sl_begin_1 rfl ?_
  refine p_Sl_39 ha0 d_Sl_begin_2 ?_
  refine sb_aps (fun γ1 => ?_)
  refine sb_aload_n 0 d_Sl_begin_5 rfl ?_
  refine sb_iload_n 1 d_Sl_begin_6 rfl ?_
  refine p_Sl_43 ha0 d_Sl_begin_7 ?_
  refine sb_aps (fun γ2 => ?_)
  refine sb_aload_n 0 d_Sl_begin_10 rfl ?_
  refine sb_iconst d_Sl_begin_11 ?_
  refine p_Sl_46 (by decide) d_Sl_begin_12 ?_
  refine sb_aps (fun γ3 => ?_)
  exact sn_v rfl d_Sl_begin_15
theorem d_Sl_set_0 : decode b_Sl_set 0 = .ok (.aload_n 0, 1) := by decide +kernel
theorem d_Sl_set_1 : decode b_Sl_set 1 = .ok (.getfield 9, 3) := by decide +kernel
theorem d_Sl_set_4 : decode b_Sl_set 4 = .ok (.iload_n 1, 1) := by decide +kernel
theorem d_Sl_set_5 : decode b_Sl_set 5 = .ok (.iload_n 2, 1) := by decide +kernel
theorem d_Sl_set_6 : decode b_Sl_set 6 = .ok (.iastore, 1) := by decide +kernel
theorem d_Sl_set_7 : decode b_Sl_set 7 = .ok (.aload_n 0, 1) := by decide +kernel
theorem d_Sl_set_8 : decode b_Sl_set 8 = .ok (.getfield 24, 3) := by decide +kernel
theorem d_Sl_set_11 : decode b_Sl_set 11 = .ok (.iload_n 1, 1) := by decide +kernel
theorem d_Sl_set_12 : decode b_Sl_set 12 = .ok (.iload_n 3, 1) := by decide +kernel
theorem d_Sl_set_13 : decode b_Sl_set 13 = .ok (.iastore, 1) := by decide +kernel
theorem d_Sl_set_14 : decode b_Sl_set 14 = .ok (.aload_n 0, 1) := by decide +kernel
theorem d_Sl_set_15 : decode b_Sl_set 15 = .ok (.getfield 15, 3) := by decide +kernel
theorem d_Sl_set_18 : decode b_Sl_set 18 = .ok (.iload_n 1, 1) := by decide +kernel
theorem d_Sl_set_19 : decode b_Sl_set 19 = .ok (.iconst (-1), 1) := by decide +kernel
theorem d_Sl_set_20 : decode b_Sl_set 20 = .ok (.iastore, 1) := by decide +kernel
theorem d_Sl_set_21 : decode b_Sl_set 21 = .ok (.aload_n 0, 1) := by decide +kernel
theorem d_Sl_set_22 : decode b_Sl_set 22 = .ok (.getfield 18, 3) := by decide +kernel
theorem d_Sl_set_25 : decode b_Sl_set 25 = .ok (.iload_n 1, 1) := by decide +kernel
theorem d_Sl_set_26 : decode b_Sl_set 26 = .ok (.iconst (-1), 1) := by decide +kernel
theorem d_Sl_set_27 : decode b_Sl_set 27 = .ok (.iastore, 1) := by decide +kernel
theorem d_Sl_set_28 : decode b_Sl_set 28 = .ok (.aload_n 0, 1) := by decide +kernel
theorem d_Sl_set_29 : decode b_Sl_set 29 = .ok (.getfield 21, 3) := by decide +kernel
theorem d_Sl_set_32 : decode b_Sl_set 32 = .ok (.iload_n 1, 1) := by decide +kernel
theorem d_Sl_set_33 : decode b_Sl_set 33 = .ok (.iconst (-1), 1) := by decide +kernel
theorem d_Sl_set_34 : decode b_Sl_set 34 = .ok (.iastore, 1) := by decide +kernel
theorem d_Sl_set_35 : decode b_Sl_set 35 = .ok (.return_, 1) := by decide +kernel
abbrev mt_Sl_set : MT := (R_Sl, b_Sl_set, 4, none)
theorem vf_Sl_set : VF y_Sl_set mt_Sl_set 9 3 := ⟨im_Sl_set, se_Sl_set, in_Sl, co_Sl_set, by decide +kernel, _, _, rfl⟩
def f_Sl_set (γ : St) (a0 : Int) (a1 : Int) (a2 : Int) : Option (Int × St) :=
  chk (inb a0 9001) (ap (setA γ 54 a0 a1) fun γ2 =>
  chk (inb a0 9001) (ap (setA γ2 58 a0 a2) fun γ4 =>
  chk (inb a0 9001) (ap (setA γ4 55 a0 (-1)) fun γ6 =>
  chk (inb a0 9001) (ap (setA γ6 56 a0 (-1)) fun γ8 =>
  chk (inb a0 9001) (ap (setA γ8 57 a0 (-1)) fun γ10 =>
  some (0, γ10))))))
set_option maxHeartbeats 4000000 in
theorem c_Sl_set {Γ : Ctx} (γ : St) (a0 : Int) (a1 : Int) (a2 : Int) (ha0 : i32 a0) (ha1 : i32 a1) (ha2 : i32 a2) : NC Γ BS y_Sl_set mt_Sl_set 6 240 [vR Γ 8, vI a0, vI a1, vI a2] γ (f_Sl_set γ a0 a1 a2) := by
  refine nc_of (by decide) rfl (Nat.le_of_ble_eq_true rfl) ?_
  show SB Γ BS mt_Sl_set (RmN 6 240) 0 0 (KN Γ BS mt_Sl_set.2.2.2) 0 [(0, vR Γ 8), (1, vI a0), (2, vI a1), (3, vI a2)] [] γ _
  unfold f_Sl_set
  refine sb_aload_n 0 d_Sl_set_0 rfl ?_
  refine g_Sl_9 d_Sl_set_1 ?_
  refine sb_iload_n 1 d_Sl_set_4 rfl ?_
  refine sb_iload_n 2 d_Sl_set_5 rfl ?_
  refine as_S_54 ha1 d_Sl_set_6 (fun _ => ?_)
  refine sb_aps (fun γ2 => ?_)
  refine sb_aload_n 0 d_Sl_set_7 rfl ?_
  refine g_Sl_24 d_Sl_set_8 ?_
  refine sb_iload_n 1 d_Sl_set_11 rfl ?_
  refine sb_iload_n 3 d_Sl_set_12 rfl ?_
  refine as_S_58 ha2 d_Sl_set_13 (fun _ => ?_)
  refine sb_aps (fun γ4 => ?_)
  refine sb_aload_n 0 d_Sl_set_14 rfl ?_
  refine g_Sl_15 d_Sl_set_15 ?_
  refine sb_iload_n 1 d_Sl_set_18 rfl ?_
  refine sb_iconst d_Sl_set_19 ?_
  refine as_S_55 (by decide) d_Sl_set_20 (fun _ => ?_)
  refine sb_aps (fun γ6 => ?_)
  refine sb_aload_n 0 d_Sl_set_21 rfl ?_
  refine g_Sl_18 d_Sl_set_22 ?_
  refine sb_iload_n 1 d_Sl_set_25 rfl ?_
  refine sb_iconst d_Sl_set_26 ?_
  refine as_S_56 (by decide) d_Sl_set_27 (fun _ => ?_)
  refine sb_aps (fun γ8 => ?_)
  refine sb_aload_n 0 d_Sl_set_28 rfl ?_
  refine g_Sl_21 d_Sl_set_29 ?_
  refine sb_iload_n 1 d_Sl_set_32 rfl ?_
  refine sb_iconst d_Sl_set_33 ?_
  refine as_S_57 (by decide) d_Sl_set_34 (fun _ => ?_)
  refine sb_aps (fun γ10 => ?_)
  exact sn_v rfl d_Sl_set_35
theorem d_Sl_add_0 : decode b_Sl_add 0 = .ok (.aload_n 0, 1) := by decide +kernel
theorem d_Sl_add_1 : decode b_Sl_add 1 = .ok (.aload_n 0, 1) := by decide +kernel
theorem d_Sl_add_2 : decode b_Sl_add 2 = .ok (.getfield 43, 3) := by decide +kernel
theorem d_Sl_add_5 : decode b_Sl_add 5 = .ok (.iload_n 1, 1) := by decide +kernel
theorem d_Sl_add_6 : decode b_Sl_add 6 = .ok (.iload_n 2, 1) := by decide +kernel
theorem d_Sl_add_7 : decode b_Sl_add 7 = .ok (.invokevirtual 49, 3) := by decide +kernel
theorem d_Sl_add_10 : decode b_Sl_add 10 = .ok (.aload_n 0, 1) := by decide +kernel
theorem d_Sl_add_11 : decode b_Sl_add 11 = .ok (.dup, 1) := by decide +kernel
theorem d_Sl_add_12 : decode b_Sl_add 12 = .ok (.getfield 43, 3) := by decide +kernel
theorem d_Sl_add_15 : decode b_Sl_add 15 = .ok (.iconst 1, 1) := by decide +kernel
theorem d_Sl_add_16 : decode b_Sl_add 16 = .ok (.iadd, 1) := by decide +kernel
theorem d_Sl_add_17 : decode b_Sl_add 17 = .ok (.putfield 43, 3) := by decide +kernel
theorem d_Sl_add_20 : decode b_Sl_add 20 = .ok (.aload_n 0, 1) := by decide +kernel
theorem d_Sl_add_21 : decode b_Sl_add 21 = .ok (.getfield 43, 3) := by decide +kernel
theorem d_Sl_add_24 : decode b_Sl_add 24 = .ok (.iconst 1, 1) := by decide +kernel
theorem d_Sl_add_25 : decode b_Sl_add 25 = .ok (.isub, 1) := by decide +kernel
theorem d_Sl_add_26 : decode b_Sl_add 26 = .ok (.ireturn, 1) := by decide +kernel
abbrev mt_Sl_add : MT := (R_Sl, b_Sl_add, 3, some .int)
theorem vf_Sl_add : VF y_Sl_add mt_Sl_add 9 2 := ⟨im_Sl_add, se_Sl_add, in_Sl, co_Sl_add, by decide +kernel, _, _, rfl⟩
def f_Sl_add (γ : St) (a0 : Int) (a1 : Int) : Option (Int × St) :=
  bndN (f_Sl_set γ (γ 8 5) a0 a1) fun _ γ3 =>
  chk (i32 ((γ3 8 5) + 1)) (ap (setA γ3 8 5 ((γ3 8 5) + 1)) fun γ6 =>
  chk (i32 ((γ6 8 5) - 1)) (some ((γ6 8 5) - 1, γ6)))
set_option maxHeartbeats 4000000 in
theorem c_Sl_add {Γ : Ctx} (γ : St) (a0 : Int) (a1 : Int) (ha0 : i32 a0) (ha1 : i32 a1) : NC Γ BS y_Sl_add mt_Sl_add 7 263 [vR Γ 8, vI a0, vI a1] γ (f_Sl_add γ a0 a1) := by
  refine nc_of (by decide) rfl (Nat.le_of_ble_eq_true rfl) ?_
  show SB Γ BS mt_Sl_add (RmN 7 263) 0 0 (KN Γ BS mt_Sl_add.2.2.2) 0 [(0, vR Γ 8), (1, vI a0), (2, vI a1)] [] γ _
  unfold f_Sl_add
  refine sb_aload_n 0 d_Sl_add_0 rfl ?_
  refine sb_aload_n 0 d_Sl_add_1 rfl ?_
  refine g_Sl_43 d_Sl_add_2 (fun c1 => ?_)
  refine sb_iload_n 1 d_Sl_add_5 rfl ?_
  refine sb_iload_n 2 d_Sl_add_6 rfl ?_
  refine sb_cVv vf_Sl_set (c_Sl_set γ (γ 8 5) a0 a1 c1 ha0 ha1) rfl ml_Sl_49 (As := [vI (γ 8 5), vI a0, vI a1]) rfl rfl (Nat.le_of_ble_eq_true rfl) ⟨by decide, by decide⟩ d_Sl_add_7 (fun _ γ3 => ?_)
  refine sb_aload_n 0 d_Sl_add_10 rfl ?_
  refine sb_dup d_Sl_add_11 rfl ?_
  refine g_Sl_43 d_Sl_add_12 (fun c4 => ?_)
  refine sb_iconst d_Sl_add_15 ?_
  refine sb_iadd d_Sl_add_16 ?_
  refine sb_chk (fun c5 => ?_)
  refine p_Sl_43 c5 d_Sl_add_17 ?_
  refine sb_aps (fun γ6 => ?_)
  refine sb_aload_n 0 d_Sl_add_20 rfl ?_
  refine g_Sl_43 d_Sl_add_21 (fun c7 => ?_)
  refine sb_iconst d_Sl_add_24 ?_
  refine sb_isub d_Sl_add_25 ?_
  refine sb_chk (fun c8 => ?_)
  exact sn_i rfl c8 d_Sl_add_26
theorem d_Lk_putInClock_0 : decode b_Lk_putInClock 0 = .ok (.iload_n 2, 1) := by decide +kernel
theorem d_Lk_putInClock_1 : decode b_Lk_putInClock 1 = .ok (.iconst (-1), 1) := by decide +kernel
theorem d_Lk_putInClock_2 : decode b_Lk_putInClock 2 = .ok (.if_icmp .ne 12, 3) := by decide +kernel
theorem d_Lk_putInClock_5 : decode b_Lk_putInClock 5 = .ok (.aload_n 0, 1) := by decide +kernel
theorem d_Lk_putInClock_6 : decode b_Lk_putInClock 6 = .ok (.getfield 18, 3) := by decide +kernel
theorem d_Lk_putInClock_9 : decode b_Lk_putInClock 9 = .ok (.iload_n 1, 1) := by decide +kernel
theorem d_Lk_putInClock_10 : decode b_Lk_putInClock 10 = .ok (.iaload, 1) := by decide +kernel
theorem d_Lk_putInClock_11 : decode b_Lk_putInClock 11 = .ok (.goto 15, 3) := by decide +kernel
theorem d_Lk_putInClock_14 : decode b_Lk_putInClock 14 = .ok (.iconst 1, 1) := by decide +kernel
theorem d_Lk_putInClock_15 : decode b_Lk_putInClock 15 = .ok (.iconst 2, 1) := by decide +kernel
theorem d_Lk_putInClock_16 : decode b_Lk_putInClock 16 = .ok (.aload_n 0, 1) := by decide +kernel
theorem d_Lk_putInClock_17 : decode b_Lk_putInClock 17 = .ok (.getfield 15, 3) := by decide +kernel
theorem d_Lk_putInClock_20 : decode b_Lk_putInClock 20 = .ok (.iload_n 1, 1) := by decide +kernel
theorem d_Lk_putInClock_21 : decode b_Lk_putInClock 21 = .ok (.iaload, 1) := by decide +kernel
theorem d_Lk_putInClock_22 : decode b_Lk_putInClock 22 = .ok (.imul, 1) := by decide +kernel
theorem d_Lk_putInClock_23 : decode b_Lk_putInClock 23 = .ok (.iadd, 1) := by decide +kernel
theorem d_Lk_putInClock_24 : decode b_Lk_putInClock 24 = .ok (.iload_n 2, 1) := by decide +kernel
theorem d_Lk_putInClock_25 : decode b_Lk_putInClock 25 = .ok (.iadd, 1) := by decide +kernel
theorem d_Lk_putInClock_26 : decode b_Lk_putInClock 26 = .ok (.ireturn, 1) := by decide +kernel
abbrev mt_Lk_putInClock : MT := (R_Lk, b_Lk_putInClock, 3, some .int)
theorem vf_Lk_putInClock : VF y_Lk_putInClock mt_Lk_putInClock 4 2 := ⟨im_Lk_putInClock, se_Lk_putInClock, in_Lk, co_Lk_putInClock, by decide +kernel, _, _, rfl⟩
def f_Lk_putInClock (γ : St) (a0 : Int) (a1 : Int) : Option (Int × St) :=
  if a1 ≠ (-1) then
  (chk (inb a0 59) (chk (i32 (2 * (γ 64 a0))) (chk (i32 (1 + (2 * (γ 64 a0)))) (chk (i32 ((1 + (2 * (γ 64 a0))) + a1)) (some ((1 + (2 * (γ 64 a0))) + a1, γ))))))
  else
  (chk (inb a0 59) (some (γ 65 a0, γ)))
set_option maxHeartbeats 4000000 in
theorem c_Lk_putInClock {Γ : Ctx} (γ : St) (a0 : Int) (a1 : Int) (ha0 : i32 a0) (ha1 : i32 a1) : NC Γ BS y_Lk_putInClock mt_Lk_putInClock 6 240 [vR Γ 9, vI a0, vI a1] γ (f_Lk_putInClock γ a0 a1) := by
  refine nc_of (by decide) rfl (Nat.le_of_ble_eq_true rfl) ?_
  show SB Γ BS mt_Lk_putInClock (RmN 6 240) 0 0 (KN Γ BS mt_Lk_putInClock.2.2.2) 0 [(0, vR Γ 9), (1, vI a0), (2, vI a1)] [] γ _
  unfold f_Lk_putInClock
  refine sb_iload_n 2 d_Lk_putInClock_0 rfl ?_
  refine sb_iconst d_Lk_putInClock_1 ?_
  refine sb_icmp_ne 14 ha1 (by decide) d_Lk_putInClock_2 (by decide) (fun _ => ?_) (fun _ => ?_)
  · refine sb_iconst d_Lk_putInClock_14 ?_
    refine sb_iconst d_Lk_putInClock_15 ?_
    refine sb_aload_n 0 d_Lk_putInClock_16 rfl ?_
    refine g_Lk_15 d_Lk_putInClock_17 ?_
    refine sb_iload_n 1 d_Lk_putInClock_20 rfl ?_
    refine al_S_64 d_Lk_putInClock_21 (fun _ c2 => ?_)
    refine sb_imul d_Lk_putInClock_22 ?_
    refine sb_chk (fun c3 => ?_)
    refine sb_iadd d_Lk_putInClock_23 ?_
    refine sb_chk (fun c4 => ?_)
    refine sb_iload_n 2 d_Lk_putInClock_24 rfl ?_
    refine sb_iadd d_Lk_putInClock_25 ?_
    refine sb_chk (fun c5 => ?_)
    exact sn_i rfl c5 d_Lk_putInClock_26
  · refine sb_aload_n 0 d_Lk_putInClock_5 rfl ?_
    refine g_Lk_18 d_Lk_putInClock_6 ?_
    refine sb_iload_n 1 d_Lk_putInClock_9 rfl ?_
    refine al_S_65 d_Lk_putInClock_10 (fun _ c7 => ?_)
    refine sb_goto 26 d_Lk_putInClock_11 (by decide) ?_
    exact sn_i rfl c7 d_Lk_putInClock_26
theorem d_Sl_slotOfC_0 : decode b_Sl_slotOfC 0 = .ok (.iload_n 0, 1) := by decide +kernel
theorem d_Sl_slotOfC_1 : decode b_Sl_slotOfC 1 = .ok (.ifCond .ne 7, 3) := by decide +kernel
theorem d_Sl_slotOfC_4 : decode b_Sl_slotOfC 4 = .ok (.iconst (-1), 1) := by decide +kernel
theorem d_Sl_slotOfC_5 : decode b_Sl_slotOfC 5 = .ok (.goto 8, 3) := by decide +kernel
theorem d_Sl_slotOfC_8 : decode b_Sl_slotOfC 8 = .ok (.iload_n 0, 1) := by decide +kernel
theorem d_Sl_slotOfC_9 : decode b_Sl_slotOfC 9 = .ok (.iconst 1, 1) := by decide +kernel
theorem d_Sl_slotOfC_10 : decode b_Sl_slotOfC 10 = .ok (.isub, 1) := by decide +kernel
theorem d_Sl_slotOfC_11 : decode b_Sl_slotOfC 11 = .ok (.iconst 1, 1) := by decide +kernel
theorem d_Sl_slotOfC_12 : decode b_Sl_slotOfC 12 = .ok (.ishr, 1) := by decide +kernel
theorem d_Sl_slotOfC_13 : decode b_Sl_slotOfC 13 = .ok (.ireturn, 1) := by decide +kernel
abbrev mt_Sl_slotOfC : MT := (R_Sl, b_Sl_slotOfC, 1, some .int)
theorem vf_Sl_slotOfC : SF y_Sl_slotOfC mt_Sl_slotOfC 1 := ⟨sm_Sl_slotOfC, in_Sl, co_Sl_slotOfC, by decide +kernel⟩
def f_Sl_slotOfC (γ : St) (a0 : Int) : Option (Int × St) :=
  if a0 ≠ 0 then
  (chk (i32 (a0 - 1)) (some (ishr (a0 - 1) 1, γ)))
  else
  (some ((-1), γ))
set_option maxHeartbeats 4000000 in
theorem c_Sl_slotOfC {Γ : Ctx} (γ : St) (a0 : Int) (ha0 : i32 a0) : NC Γ BS y_Sl_slotOfC mt_Sl_slotOfC 6 240 [vI a0] γ (f_Sl_slotOfC γ a0) := by
  refine nc_of (by decide) rfl (Nat.le_of_ble_eq_true rfl) ?_
  show SB Γ BS mt_Sl_slotOfC (RmN 6 240) 0 0 (KN Γ BS mt_Sl_slotOfC.2.2.2) 0 [(0, vI a0)] [] γ _
  unfold f_Sl_slotOfC
  refine sb_iload_n 0 d_Sl_slotOfC_0 rfl ?_
  refine sb_if_ne 8 ha0 d_Sl_slotOfC_1 (by decide) (fun _ => ?_) (fun _ => ?_)
  · refine sb_iload_n 0 d_Sl_slotOfC_8 rfl ?_
    refine sb_iconst d_Sl_slotOfC_9 ?_
    refine sb_isub d_Sl_slotOfC_10 ?_
    refine sb_chk (fun c1 => ?_)
    refine sb_iconst d_Sl_slotOfC_11 ?_
    refine sb_ishr d_Sl_slotOfC_12 ?_
    exact sn_i rfl (ishr_b _ _) d_Sl_slotOfC_13
  · refine sb_iconst d_Sl_slotOfC_4 ?_
    refine sb_goto 13 d_Sl_slotOfC_5 (by decide) ?_
    exact sn_i rfl (by decide) d_Sl_slotOfC_13
theorem d_Lk_openNode_0 : decode b_Lk_openNode 0 = .ok (.aload_n 0, 1) := by decide +kernel
theorem d_Lk_openNode_1 : decode b_Lk_openNode 1 = .ok (.getfield 30, 3) := by decide +kernel
theorem d_Lk_openNode_4 : decode b_Lk_openNode 4 = .ok (.getfield 98, 3) := by decide +kernel
theorem d_Lk_openNode_7 : decode b_Lk_openNode 7 = .ok (.iload_n 1, 1) := by decide +kernel
theorem d_Lk_openNode_8 : decode b_Lk_openNode 8 = .ok (.iaload, 1) := by decide +kernel
theorem d_Lk_openNode_9 : decode b_Lk_openNode 9 = .ok (.istore 4, 2) := by decide +kernel
theorem d_Lk_openNode_11 : decode b_Lk_openNode 11 = .ok (.aload_n 0, 1) := by decide +kernel
theorem d_Lk_openNode_12 : decode b_Lk_openNode 12 = .ok (.getfield 9, 3) := by decide +kernel
theorem d_Lk_openNode_15 : decode b_Lk_openNode 15 = .ok (.aload_n 0, 1) := by decide +kernel
theorem d_Lk_openNode_16 : decode b_Lk_openNode 16 = .ok (.getfield 56, 3) := by decide +kernel
theorem d_Lk_openNode_19 : decode b_Lk_openNode 19 = .ok (.iload_n 1, 1) := by decide +kernel
theorem d_Lk_openNode_20 : decode b_Lk_openNode 20 = .ok (.iastore, 1) := by decide +kernel
theorem d_Lk_openNode_21 : decode b_Lk_openNode 21 = .ok (.aload_n 0, 1) := by decide +kernel
theorem d_Lk_openNode_22 : decode b_Lk_openNode 22 = .ok (.getfield 15, 3) := by decide +kernel
theorem d_Lk_openNode_25 : decode b_Lk_openNode 25 = .ok (.aload_n 0, 1) := by decide +kernel
theorem d_Lk_openNode_26 : decode b_Lk_openNode 26 = .ok (.getfield 56, 3) := by decide +kernel
theorem d_Lk_openNode_29 : decode b_Lk_openNode 29 = .ok (.aload_n 0, 1) := by decide +kernel
theorem d_Lk_openNode_30 : decode b_Lk_openNode 30 = .ok (.getfield 63, 3) := by decide +kernel
theorem d_Lk_openNode_33 : decode b_Lk_openNode 33 = .ok (.iastore, 1) := by decide +kernel
theorem d_Lk_openNode_34 : decode b_Lk_openNode 34 = .ok (.aload_n 0, 1) := by decide +kernel
theorem d_Lk_openNode_35 : decode b_Lk_openNode 35 = .ok (.getfield 18, 3) := by decide +kernel
theorem d_Lk_openNode_38 : decode b_Lk_openNode 38 = .ok (.aload_n 0, 1) := by decide +kernel
theorem d_Lk_openNode_39 : decode b_Lk_openNode 39 = .ok (.getfield 56, 3) := by decide +kernel
theorem d_Lk_openNode_42 : decode b_Lk_openNode 42 = .ok (.iload_n 2, 1) := by decide +kernel
theorem d_Lk_openNode_43 : decode b_Lk_openNode 43 = .ok (.iastore, 1) := by decide +kernel
theorem d_Lk_openNode_44 : decode b_Lk_openNode 44 = .ok (.aload_n 0, 1) := by decide +kernel
theorem d_Lk_openNode_45 : decode b_Lk_openNode 45 = .ok (.getfield 21, 3) := by decide +kernel
theorem d_Lk_openNode_48 : decode b_Lk_openNode 48 = .ok (.aload_n 0, 1) := by decide +kernel
theorem d_Lk_openNode_49 : decode b_Lk_openNode 49 = .ok (.getfield 56, 3) := by decide +kernel
theorem d_Lk_openNode_52 : decode b_Lk_openNode 52 = .ok (.aload_n 0, 1) := by decide +kernel
theorem d_Lk_openNode_53 : decode b_Lk_openNode 53 = .ok (.getfield 30, 3) := by decide +kernel
theorem d_Lk_openNode_56 : decode b_Lk_openNode 56 = .ok (.getfield 80, 3) := by decide +kernel
theorem d_Lk_openNode_59 : decode b_Lk_openNode 59 = .ok (.iload_n 1, 1) := by decide +kernel
theorem d_Lk_openNode_60 : decode b_Lk_openNode 60 = .ok (.iaload, 1) := by decide +kernel
theorem d_Lk_openNode_61 : decode b_Lk_openNode 61 = .ok (.iastore, 1) := by decide +kernel
theorem d_Lk_openNode_62 : decode b_Lk_openNode 62 = .ok (.aload_n 0, 1) := by decide +kernel
theorem d_Lk_openNode_63 : decode b_Lk_openNode 63 = .ok (.getfield 24, 3) := by decide +kernel
theorem d_Lk_openNode_66 : decode b_Lk_openNode 66 = .ok (.aload_n 0, 1) := by decide +kernel
theorem d_Lk_openNode_67 : decode b_Lk_openNode 67 = .ok (.getfield 56, 3) := by decide +kernel
theorem d_Lk_openNode_70 : decode b_Lk_openNode 70 = .ok (.aload_n 0, 1) := by decide +kernel
theorem d_Lk_openNode_71 : decode b_Lk_openNode 71 = .ok (.getfield 34, 3) := by decide +kernel
theorem d_Lk_openNode_74 : decode b_Lk_openNode 74 = .ok (.getfield 101, 3) := by decide +kernel
theorem d_Lk_openNode_77 : decode b_Lk_openNode 77 = .ok (.aload_n 0, 1) := by decide +kernel
theorem d_Lk_openNode_78 : decode b_Lk_openNode 78 = .ok (.getfield 30, 3) := by decide +kernel
theorem d_Lk_openNode_81 : decode b_Lk_openNode 81 = .ok (.getfield 80, 3) := by decide +kernel
theorem d_Lk_openNode_84 : decode b_Lk_openNode 84 = .ok (.iload_n 1, 1) := by decide +kernel
theorem d_Lk_openNode_85 : decode b_Lk_openNode 85 = .ok (.iaload, 1) := by decide +kernel
theorem d_Lk_openNode_86 : decode b_Lk_openNode 86 = .ok (.iaload, 1) := by decide +kernel
theorem d_Lk_openNode_87 : decode b_Lk_openNode 87 = .ok (.iastore, 1) := by decide +kernel
theorem d_Lk_openNode_88 : decode b_Lk_openNode 88 = .ok (.iconst 0, 1) := by decide +kernel
theorem d_Lk_openNode_89 : decode b_Lk_openNode 89 = .ok (.istore 5, 2) := by decide +kernel
theorem d_Lk_openNode_91 : decode b_Lk_openNode 91 = .ok (.iload 5, 2) := by decide +kernel
theorem d_Lk_openNode_93 : decode b_Lk_openNode 93 = .ok (.aload_n 0, 1) := by decide +kernel
theorem d_Lk_openNode_94 : decode b_Lk_openNode 94 = .ok (.getfield 30, 3) := by decide +kernel
theorem d_Lk_openNode_97 : decode b_Lk_openNode 97 = .ok (.getfield 104, 3) := by decide +kernel
theorem d_Lk_openNode_100 : decode b_Lk_openNode 100 = .ok (.iload_n 1, 1) := by decide +kernel
theorem d_Lk_openNode_101 : decode b_Lk_openNode 101 = .ok (.iaload, 1) := by decide +kernel
theorem d_Lk_openNode_102 : decode b_Lk_openNode 102 = .ok (.if_icmp .ge 124, 3) := by decide +kernel
theorem d_Lk_openNode_105 : decode b_Lk_openNode 105 = .ok (.aload_n 0, 1) := by decide +kernel
theorem d_Lk_openNode_106 : decode b_Lk_openNode 106 = .ok (.getfield 63, 3) := by decide +kernel
theorem d_Lk_openNode_109 : decode b_Lk_openNode 109 = .ok (.iload 5, 2) := by decide +kernel
theorem d_Lk_openNode_111 : decode b_Lk_openNode 111 = .ok (.iadd, 1) := by decide +kernel
theorem d_Lk_openNode_112 : decode b_Lk_openNode 112 = .ok (.istore 6, 2) := by decide +kernel
theorem d_Lk_openNode_114 : decode b_Lk_openNode 114 = .ok (.aload_n 0, 1) := by decide +kernel
theorem d_Lk_openNode_115 : decode b_Lk_openNode 115 = .ok (.getfield 38, 3) := by decide +kernel
theorem d_Lk_openNode_118 : decode b_Lk_openNode 118 = .ok (.iload 6, 2) := by decide +kernel
theorem d_Lk_openNode_120 : decode b_Lk_openNode 120 = .ok (.iconst 2, 1) := by decide +kernel
theorem d_Lk_openNode_121 : decode b_Lk_openNode 121 = .ok (.iconst 0, 1) := by decide +kernel
theorem d_Lk_openNode_122 : decode b_Lk_openNode 122 = .ok (.invokevirtual 107, 3) := by decide +kernel
theorem d_Lk_openNode_125 : decode b_Lk_openNode 125 = .ok (.aload_n 0, 1) := by decide +kernel
theorem d_Lk_openNode_126 : decode b_Lk_openNode 126 = .ok (.getfield 38, 3) := by decide +kernel
theorem d_Lk_openNode_129 : decode b_Lk_openNode 129 = .ok (.getfield 110, 3) := by decide +kernel
theorem d_Lk_openNode_132 : decode b_Lk_openNode 132 = .ok (.iload 6, 2) := by decide +kernel
theorem d_Lk_openNode_134 : decode b_Lk_openNode 134 = .ok (.aload_n 0, 1) := by decide +kernel
theorem d_Lk_openNode_135 : decode b_Lk_openNode 135 = .ok (.aload_n 0, 1) := by decide +kernel
theorem d_Lk_openNode_136 : decode b_Lk_openNode 136 = .ok (.getfield 56, 3) := by decide +kernel
theorem d_Lk_openNode_139 : decode b_Lk_openNode 139 = .ok (.aload_n 0, 1) := by decide +kernel
theorem d_Lk_openNode_140 : decode b_Lk_openNode 140 = .ok (.getfield 30, 3) := by decide +kernel
theorem d_Lk_openNode_143 : decode b_Lk_openNode 143 = .ok (.getfield 111, 3) := by decide +kernel
theorem d_Lk_openNode_146 : decode b_Lk_openNode 146 = .ok (.iload 4, 2) := by decide +kernel
theorem d_Lk_openNode_148 : decode b_Lk_openNode 148 = .ok (.iload 5, 2) := by decide +kernel
theorem d_Lk_openNode_150 : decode b_Lk_openNode 150 = .ok (.iadd, 1) := by decide +kernel
theorem d_Lk_openNode_151 : decode b_Lk_openNode 151 = .ok (.iaload, 1) := by decide +kernel
theorem d_Lk_openNode_152 : decode b_Lk_openNode 152 = .ok (.invokevirtual 112, 3) := by decide +kernel
theorem d_Lk_openNode_155 : decode b_Lk_openNode 155 = .ok (.iastore, 1) := by decide +kernel
theorem d_Lk_openNode_156 : decode b_Lk_openNode 156 = .ok (.aload_n 0, 1) := by decide +kernel
theorem d_Lk_openNode_157 : decode b_Lk_openNode 157 = .ok (.getfield 38, 3) := by decide +kernel
theorem d_Lk_openNode_160 : decode b_Lk_openNode 160 = .ok (.getfield 115, 3) := by decide +kernel
theorem d_Lk_openNode_163 : decode b_Lk_openNode 163 = .ok (.iload 6, 2) := by decide +kernel
theorem d_Lk_openNode_165 : decode b_Lk_openNode 165 = .ok (.aload_n 0, 1) := by decide +kernel
theorem d_Lk_openNode_166 : decode b_Lk_openNode 166 = .ok (.getfield 38, 3) := by decide +kernel
theorem d_Lk_openNode_169 : decode b_Lk_openNode 169 = .ok (.getfield 110, 3) := by decide +kernel
theorem d_Lk_openNode_172 : decode b_Lk_openNode 172 = .ok (.iload 6, 2) := by decide +kernel
theorem d_Lk_openNode_174 : decode b_Lk_openNode 174 = .ok (.iaload, 1) := by decide +kernel
theorem d_Lk_openNode_175 : decode b_Lk_openNode 175 = .ok (.invokestatic 118, 3) := by decide +kernel
theorem d_Lk_openNode_178 : decode b_Lk_openNode 178 = .ok (.iastore, 1) := by decide +kernel
theorem d_Lk_openNode_179 : decode b_Lk_openNode 179 = .ok (.aload_n 0, 1) := by decide +kernel
theorem d_Lk_openNode_180 : decode b_Lk_openNode 180 = .ok (.getfield 38, 3) := by decide +kernel
theorem d_Lk_openNode_183 : decode b_Lk_openNode 183 = .ok (.getfield 122, 3) := by decide +kernel
theorem d_Lk_openNode_186 : decode b_Lk_openNode 186 = .ok (.iload 6, 2) := by decide +kernel
theorem d_Lk_openNode_188 : decode b_Lk_openNode 188 = .ok (.iload 5, 2) := by decide +kernel
theorem d_Lk_openNode_190 : decode b_Lk_openNode 190 = .ok (.aload_n 0, 1) := by decide +kernel
theorem d_Lk_openNode_191 : decode b_Lk_openNode 191 = .ok (.getfield 30, 3) := by decide +kernel
theorem d_Lk_openNode_194 : decode b_Lk_openNode 194 = .ok (.getfield 125, 3) := by decide +kernel
theorem d_Lk_openNode_197 : decode b_Lk_openNode 197 = .ok (.iload_n 1, 1) := by decide +kernel
theorem d_Lk_openNode_198 : decode b_Lk_openNode 198 = .ok (.iaload, 1) := by decide +kernel
theorem d_Lk_openNode_199 : decode b_Lk_openNode 199 = .ok (.if_icmp .ge 7, 3) := by decide +kernel
theorem d_Lk_openNode_202 : decode b_Lk_openNode 202 = .ok (.iload_n 3, 1) := by decide +kernel
theorem d_Lk_openNode_203 : decode b_Lk_openNode 203 = .ok (.goto 16, 3) := by decide +kernel
theorem d_Lk_openNode_206 : decode b_Lk_openNode 206 = .ok (.aload_n 0, 1) := by decide +kernel
theorem d_Lk_openNode_207 : decode b_Lk_openNode 207 = .ok (.getfield 30, 3) := by decide +kernel
theorem d_Lk_openNode_210 : decode b_Lk_openNode 210 = .ok (.getfield 128, 3) := by decide +kernel
theorem d_Lk_openNode_213 : decode b_Lk_openNode 213 = .ok (.iload 4, 2) := by decide +kernel
theorem d_Lk_openNode_215 : decode b_Lk_openNode 215 = .ok (.iload 5, 2) := by decide +kernel
theorem d_Lk_openNode_217 : decode b_Lk_openNode 217 = .ok (.iadd, 1) := by decide +kernel
theorem d_Lk_openNode_218 : decode b_Lk_openNode 218 = .ok (.iaload, 1) := by decide +kernel
theorem d_Lk_openNode_219 : decode b_Lk_openNode 219 = .ok (.iastore, 1) := by decide +kernel
theorem d_Lk_openNode_220 : decode b_Lk_openNode 220 = .ok (.iinc 5 1, 3) := by decide +kernel
theorem d_Lk_openNode_223 : decode b_Lk_openNode 223 = .ok (.goto (-132), 3) := by decide +kernel
theorem d_Lk_openNode_226 : decode b_Lk_openNode 226 = .ok (.aload_n 0, 1) := by decide +kernel
theorem d_Lk_openNode_227 : decode b_Lk_openNode 227 = .ok (.dup, 1) := by decide +kernel
theorem d_Lk_openNode_228 : decode b_Lk_openNode 228 = .ok (.getfield 63, 3) := by decide +kernel
theorem d_Lk_openNode_231 : decode b_Lk_openNode 231 = .ok (.aload_n 0, 1) := by decide +kernel
theorem d_Lk_openNode_232 : decode b_Lk_openNode 232 = .ok (.getfield 30, 3) := by decide +kernel
theorem d_Lk_openNode_235 : decode b_Lk_openNode 235 = .ok (.getfield 104, 3) := by decide +kernel
theorem d_Lk_openNode_238 : decode b_Lk_openNode 238 = .ok (.iload_n 1, 1) := by decide +kernel
theorem d_Lk_openNode_239 : decode b_Lk_openNode 239 = .ok (.iaload, 1) := by decide +kernel
theorem d_Lk_openNode_240 : decode b_Lk_openNode 240 = .ok (.iadd, 1) := by decide +kernel
theorem d_Lk_openNode_241 : decode b_Lk_openNode 241 = .ok (.putfield 63, 3) := by decide +kernel
theorem d_Lk_openNode_244 : decode b_Lk_openNode 244 = .ok (.aload_n 0, 1) := by decide +kernel
theorem d_Lk_openNode_245 : decode b_Lk_openNode 245 = .ok (.dup, 1) := by decide +kernel
theorem d_Lk_openNode_246 : decode b_Lk_openNode 246 = .ok (.getfield 56, 3) := by decide +kernel
theorem d_Lk_openNode_249 : decode b_Lk_openNode 249 = .ok (.iconst 1, 1) := by decide +kernel
theorem d_Lk_openNode_250 : decode b_Lk_openNode 250 = .ok (.iadd, 1) := by decide +kernel
theorem d_Lk_openNode_251 : decode b_Lk_openNode 251 = .ok (.putfield 56, 3) := by decide +kernel
theorem d_Lk_openNode_254 : decode b_Lk_openNode 254 = .ok (.return_, 1) := by decide +kernel
abbrev mt_Lk_openNode : MT := (R_Lk, b_Lk_openNode, 7, none)
theorem vf_Lk_openNode : VF y_Lk_openNode mt_Lk_openNode 4 3 := ⟨im_Lk_openNode, se_Lk_openNode, in_Lk, co_Lk_openNode, by decide +kernel, _, _, rfl⟩
def f_Lk_openNode_b226 (γ : St) (x1 : Int) : Option (Int × St) :=
  chk (inb x1 59) (chk (i32 ((γ 9 11) + (γ 28 x1))) (ap (setA γ 9 11 ((γ 9 11) + (γ 28 x1))) fun γ7 =>
  chk (i32 ((γ7 9 8) + 1)) (ap (setA γ7 9 8 ((γ7 9 8) + 1)) fun γ10 =>
  some (0, γ10))))
def f_Lk_openNode_b219 (k91 : St → Int → Int → Int → Int → Option (Int × St)) (e226 : St → Int → Option (Int × St)) (γ : St) (x11 : Int) (x12 : Int) (x13 : Int) (x14 : Int) (x15 : Int) (x16 : Int) : Option (Int × St) :=
  chk (inb x16 6000) (ap (setA γ 60 x16 x15) fun γ17 =>
  chk (i32 (x14 + 1)) (k91 γ17 x11 x12 x13 (x14 + 1)))
def f_Lk_openNode_L91 (e226 : St → Int → Option (Int × St)) : Nat → St → Int → Int → Int → Int → Option (Int × St)
  | 0, _, _, _, _, _ => none
  | n + 1, γ, x24, x25, x26, x27 =>
  chk (inb x24 59) (if (γ 28 x24) ≤ x27 then
  (e226 γ x24)
  else
  (chk (i32 ((γ 9 11) + x27)) (ap ((γ 9 11) + x27) fun x33 =>
  bndN (f_Sl_set γ x33 2 0) fun _ γ36 =>
  chk (i32 (x26 + x27)) (chk (inb (x26 + x27) 5841) (bndN (f_Lk_putInClock γ36 (γ36 9 8) (γ36 34 (x26 + x27))) fun r44 γ45 =>
  chk (inb x33 6000) (ap (setA γ45 59 x33 r44) fun γ46 =>
  chk (inb x33 6000) (bndN (f_Sl_slotOfC γ46 (γ46 59 x33)) fun r52 γ53 =>
  chk (inb x33 9001) (ap (setA γ53 56 x33 r52) fun γ54 =>
  chk (inb x24 59) (if (γ54 26 x24) ≤ x27 then
  (chk (i32 (x26 + x27)) (chk (inb (x26 + x27) 5841) (f_Lk_openNode_b219 (f_Lk_openNode_L91 e226 n) e226 γ54 x24 x25 x26 x27 (γ54 37 (x26 + x27)) x33)))
  else
  (f_Lk_openNode_b219 (f_Lk_openNode_L91 e226 n) e226 γ54 x24 x25 x26 x27 x25 x33))))))))))
def f_Lk_openNode (γ : St) (a0 : Int) (a1 : Int) (a2 : Int) : Option (Int × St) :=
  chk (inb a0 59) (ap (γ 25 a0) fun x68 =>
  chk (inb (γ 9 8) 59) (ap (setA γ 63 (γ 9 8) a0) fun γ71 =>
  chk (inb (γ71 9 8) 59) (ap (setA γ71 64 (γ71 9 8) (γ71 9 11)) fun γ75 =>
  chk (inb (γ75 9 8) 59) (ap (setA γ75 65 (γ75 9 8) a1) fun γ78 =>
  chk (inb a0 59) (chk (inb (γ78 9 8) 59) (ap (setA γ78 66 (γ78 9 8) (γ78 29 a0)) fun γ84 =>
  chk (inb a0 59) (chk (inb (γ84 29 a0) 16385) (chk (inb (γ84 9 8) 59) (ap (setA γ84 67 (γ84 9 8) (γ84 43 (γ84 29 a0))) fun γ93 =>
  f_Lk_openNode_L91 (f_Lk_openNode_b226) FU γ93 a0 a2 x68 0)))))))))
set_option maxHeartbeats 4000000 in
theorem s_Lk_openNode_b226 {Γ : Ctx} : ∀ (γ : St) (x1 : Int), i32 x1 → SB Γ BS mt_Lk_openNode (RmN 7 263) 0 0 (KN Γ BS mt_Lk_openNode.2.2.2) 226 [(0, vR Γ 9), (1, vI x1)] [] γ (f_Lk_openNode_b226 γ x1) := by
  intro γ x1 hx1
  unfold f_Lk_openNode_b226
  refine sb_aload_n 0 d_Lk_openNode_226 rfl ?_
  refine sb_dup d_Lk_openNode_227 rfl ?_
  refine g_Lk_63 d_Lk_openNode_228 (fun c2 => ?_)
  refine sb_aload_n 0 d_Lk_openNode_231 rfl ?_
  refine g_Lk_30 d_Lk_openNode_232 ?_
  refine g_Lk_104 d_Lk_openNode_235 ?_
  refine sb_iload_n 1 d_Lk_openNode_238 rfl ?_
  refine al_S_28 d_Lk_openNode_239 (fun _ c5 => ?_)
  refine sb_iadd d_Lk_openNode_240 ?_
  refine sb_chk (fun c6 => ?_)
  refine p_Lk_63 c6 d_Lk_openNode_241 ?_
  refine sb_aps (fun γ7 => ?_)
  refine sb_aload_n 0 d_Lk_openNode_244 rfl ?_
  refine sb_dup d_Lk_openNode_245 rfl ?_
  refine g_Lk_56 d_Lk_openNode_246 (fun c8 => ?_)
  refine sb_iconst d_Lk_openNode_249 ?_
  refine sb_iadd d_Lk_openNode_250 ?_
  refine sb_chk (fun c9 => ?_)
  refine p_Lk_56 c9 d_Lk_openNode_251 ?_
  refine sb_aps (fun γ10 => ?_)
  exact sn_v rfl d_Lk_openNode_254
set_option maxHeartbeats 4000000 in
theorem s_Lk_openNode_b219 {Γ : Ctx} {k91 : St → Int → Int → Int → Int → Option (Int × St)} {e226 : St → Int → Option (Int × St)} (hk91 : ∀ (γ : St) (x19 : Int) (x20 : Int) (x21 : Int) (x22 : Int), i32 x19 → i32 x20 → i32 x21 → i32 x22 → SB Γ BS mt_Lk_openNode (RmN 7 263) 0 0 (KN Γ BS mt_Lk_openNode.2.2.2) 91 [(0, vR Γ 9), (1, vI x19), (3, vI x20), (4, vI x21), (5, vI x22)] [] γ (k91 γ x19 x20 x21 x22)) (he226 : ∀ (γ : St) (x23 : Int), i32 x23 → SB Γ BS mt_Lk_openNode (RmN 7 263) 0 0 (KN Γ BS mt_Lk_openNode.2.2.2) 226 [(0, vR Γ 9), (1, vI x23)] [] γ (e226 γ x23)) : ∀ (γ : St) (x11 : Int) (x12 : Int) (x13 : Int) (x14 : Int) (x15 : Int) (x16 : Int), i32 x11 → i32 x12 → i32 x13 → i32 x14 → i32 x15 → i32 x16 → SB Γ BS mt_Lk_openNode (RmN 7 263) 0 0 (KN Γ BS mt_Lk_openNode.2.2.2) 219 [(0, vR Γ 9), (1, vI x11), (3, vI x12), (4, vI x13), (5, vI x14)] [vI x15, vI x16, vR Γ 60] γ (f_Lk_openNode_b219 k91 e226 γ x11 x12 x13 x14 x15 x16) := by
  intro γ x11 x12 x13 x14 x15 x16 hx11 hx12 hx13 hx14 hx15 hx16
  unfold f_Lk_openNode_b219
  refine as_S_60 hx15 d_Lk_openNode_219 (fun _ => ?_)
  refine sb_aps (fun γ17 => ?_)
  refine sb_iinc 4 [(5, vI (x14 + 1)), (0, vR Γ 9), (1, vI x11), (3, vI x12), (4, vI x13)] d_Lk_openNode_220 rfl (by decide) rfl ?_
  refine sb_chk (fun c18 => ?_)
  refine sb_goto 91 d_Lk_openNode_223 (by decide) ?_
  exact sb_lv [1, 2, 3, 4, 0] rfl (hk91 γ17 x11 x12 x13 (x14 + 1) hx11 hx12 hx13 c18)
set_option maxHeartbeats 4000000 in
theorem s_Lk_openNode_L91 {Γ : Ctx} {e226 : St → Int → Option (Int × St)} (he226 : ∀ (γ : St) (x64 : Int), i32 x64 → SB Γ BS mt_Lk_openNode (RmN 7 263) 0 0 (KN Γ BS mt_Lk_openNode.2.2.2) 226 [(0, vR Γ 9), (1, vI x64)] [] γ (e226 γ x64)) : ∀ (n : Nat) (γ : St) (x24 : Int) (x25 : Int) (x26 : Int) (x27 : Int), i32 x24 → i32 x25 → i32 x26 → i32 x27 → SB Γ BS mt_Lk_openNode (RmN 7 263) 0 0 (KN Γ BS mt_Lk_openNode.2.2.2) 91 [(0, vR Γ 9), (1, vI x24), (3, vI x25), (4, vI x26), (5, vI x27)] [] γ (f_Lk_openNode_L91 e226 n γ x24 x25 x26 x27) := by
  intro n
  induction n with
  | zero => intros; exact sb_none
  | succ n ih =>
    intro γ x24 x25 x26 x27 hx24 hx25 hx26 hx27
    unfold f_Lk_openNode_L91
    refine sb_iload 4 d_Lk_openNode_91 rfl ?_
    refine sb_aload_n 0 d_Lk_openNode_93 rfl ?_
    refine g_Lk_30 d_Lk_openNode_94 ?_
    refine g_Lk_104 d_Lk_openNode_97 ?_
    refine sb_iload_n 1 d_Lk_openNode_100 rfl ?_
    refine al_S_28 d_Lk_openNode_101 (fun _ c30 => ?_)
    refine sb_icmp_ge 226 hx27 c30 d_Lk_openNode_102 (by decide) (fun _ => ?_) (fun _ => ?_)
    · exact sb_lv [0, 1] rfl (he226 γ x24 hx24)
    · refine sb_aload_n 0 d_Lk_openNode_105 rfl ?_
      refine g_Lk_63 d_Lk_openNode_106 (fun c31 => ?_)
      refine sb_iload 4 d_Lk_openNode_109 rfl ?_
      refine sb_iadd d_Lk_openNode_111 ?_
      refine sb_chk (fun c32 => ?_)
      refine sb_istore [(6, vI ((γ 9 11) + x27)), (0, vR Γ 9), (1, vI x24), (3, vI x25), (4, vI x26), (5, vI x27)] d_Lk_openNode_112 (by decide) rfl ?_
      refine sb_nme (e := (γ 9 11) + x27) (fun x33 => [(6, vI x33), (0, vR Γ 9), (1, vI x24), (3, vI x25), (4, vI x26), (5, vI x27)]) c32 (fun x33 hx33 => ?_)
      refine sb_aload_n 1 d_Lk_openNode_114 rfl ?_
      refine g_Lk_38 d_Lk_openNode_115 ?_
      refine sb_iload 0 d_Lk_openNode_118 rfl ?_
      refine sb_iconst d_Lk_openNode_120 ?_
      refine sb_iconst d_Lk_openNode_121 ?_
      refine sb_cVv vf_Sl_set (c_Sl_set γ x33 2 0 hx33 (by decide) (by decide)) rfl ml_Lk_107 (As := [vI x33, vI 2, vI 0]) rfl rfl (Nat.le_of_ble_eq_true rfl) ⟨by decide, by decide⟩ d_Lk_openNode_122 (fun _ γ36 => ?_)
      refine sb_aload_n 1 d_Lk_openNode_125 rfl ?_
      refine g_Lk_38 d_Lk_openNode_126 ?_
      refine g_Lk_110 d_Lk_openNode_129 ?_
      refine sb_iload 0 d_Lk_openNode_132 rfl ?_
      refine sb_aload_n 1 d_Lk_openNode_134 rfl ?_
      refine sb_aload_n 1 d_Lk_openNode_135 rfl ?_
      refine g_Lk_56 d_Lk_openNode_136 (fun c39 => ?_)
      refine sb_aload_n 1 d_Lk_openNode_139 rfl ?_
      refine g_Lk_30 d_Lk_openNode_140 ?_
      refine g_Lk_111 d_Lk_openNode_143 ?_
      refine sb_iload 4 d_Lk_openNode_146 rfl ?_
      refine sb_iload 5 d_Lk_openNode_148 rfl ?_
      refine sb_iadd d_Lk_openNode_150 ?_
      refine sb_chk (fun c42 => ?_)
      refine al_S_34 d_Lk_openNode_151 (fun _ c43 => ?_)
      refine sb_cVi vf_Lk_putInClock (c_Lk_putInClock γ36 (γ36 9 8) (γ36 34 (x26 + x27)) c39 c43) rfl ml_Lk_112 (As := [vI (γ36 9 8), vI (γ36 34 (x26 + x27))]) rfl rfl (Nat.le_of_ble_eq_true rfl) ⟨by decide, by decide⟩ d_Lk_openNode_152 (fun r44 γ45 hr44 => ?_)
      refine as_S_59 hr44 d_Lk_openNode_155 (fun _ => ?_)
      refine sb_aps (fun γ46 => ?_)
      refine sb_aload_n 1 d_Lk_openNode_156 rfl ?_
      refine g_Lk_38 d_Lk_openNode_157 ?_
      refine g_Lk_115 d_Lk_openNode_160 ?_
      refine sb_iload 0 d_Lk_openNode_163 rfl ?_
      refine sb_aload_n 1 d_Lk_openNode_165 rfl ?_
      refine g_Lk_38 d_Lk_openNode_166 ?_
      refine g_Lk_110 d_Lk_openNode_169 ?_
      refine sb_iload 0 d_Lk_openNode_172 rfl ?_
      refine al_S_59 d_Lk_openNode_174 (fun _ c51 => ?_)
      refine sb_cJi vf_Sl_slotOfC (c_Sl_slotOfC γ46 (γ46 59 x33) c51) ml_Lk_118 (As := [vI (γ46 59 x33)]) rfl rfl (Nat.le_of_ble_eq_true rfl) ⟨by decide, by decide⟩ d_Lk_openNode_175 (fun r52 γ53 hr52 => ?_)
      refine as_S_56 hr52 d_Lk_openNode_178 (fun _ => ?_)
      refine sb_aps (fun γ54 => ?_)
      refine sb_aload_n 1 d_Lk_openNode_179 rfl ?_
      refine g_Lk_38 d_Lk_openNode_180 ?_
      refine g_Lk_122 d_Lk_openNode_183 ?_
      refine sb_iload 0 d_Lk_openNode_186 rfl ?_
      refine sb_iload 5 d_Lk_openNode_188 rfl ?_
      refine sb_aload_n 1 d_Lk_openNode_190 rfl ?_
      refine g_Lk_30 d_Lk_openNode_191 ?_
      refine g_Lk_125 d_Lk_openNode_194 ?_
      refine sb_iload_n 2 d_Lk_openNode_197 rfl ?_
      refine al_S_26 d_Lk_openNode_198 (fun _ c59 => ?_)
      refine sb_icmp_ge 206 hx27 c59 d_Lk_openNode_199 (by decide) (fun _ => ?_) (fun _ => ?_)
      · refine sb_aload_n 1 d_Lk_openNode_206 rfl ?_
        refine g_Lk_30 d_Lk_openNode_207 ?_
        refine g_Lk_128 d_Lk_openNode_210 ?_
        refine sb_iload 4 d_Lk_openNode_213 rfl ?_
        refine sb_iload 5 d_Lk_openNode_215 rfl ?_
        refine sb_iadd d_Lk_openNode_217 ?_
        refine sb_chk (fun c62 => ?_)
        refine al_S_37 d_Lk_openNode_218 (fun _ c63 => ?_)
        exact sb_lv [1, 2, 3, 4, 5] rfl (s_Lk_openNode_b219 ih he226 γ54 x24 x25 x26 x27 (γ54 37 (x26 + x27)) x33 hx24 hx25 hx26 hx27 c63 hx33)
      · refine sb_iload_n 3 d_Lk_openNode_202 rfl ?_
        refine sb_goto 219 d_Lk_openNode_203 (by decide) ?_
        exact sb_lv [1, 2, 3, 4, 5] rfl (s_Lk_openNode_b219 ih he226 γ54 x24 x25 x26 x27 x25 x33 hx24 hx25 hx26 hx27 hx25 hx33)
set_option maxHeartbeats 4000000 in
theorem c_Lk_openNode {Γ : Ctx} (γ : St) (a0 : Int) (a1 : Int) (a2 : Int) (ha0 : i32 a0) (ha1 : i32 a1) (ha2 : i32 a2) : NC Γ BS y_Lk_openNode mt_Lk_openNode 7 263 [vR Γ 9, vI a0, vI a1, vI a2] γ (f_Lk_openNode γ a0 a1 a2) := by
  refine nc_of (by decide) rfl (Nat.le_of_ble_eq_true rfl) ?_
  show SB Γ BS mt_Lk_openNode (RmN 7 263) 0 0 (KN Γ BS mt_Lk_openNode.2.2.2) 0 [(0, vR Γ 9), (1, vI a0), (2, vI a1), (3, vI a2)] [] γ _
  unfold f_Lk_openNode
  refine sb_aload_n 0 d_Lk_openNode_0 rfl ?_
  refine g_Lk_30 d_Lk_openNode_1 ?_
  refine g_Lk_98 d_Lk_openNode_4 ?_
  refine sb_iload_n 1 d_Lk_openNode_7 rfl ?_
  refine al_S_25 d_Lk_openNode_8 (fun _ c67 => ?_)
  refine sb_istore [(4, vI (γ 25 a0)), (0, vR Γ 9), (1, vI a0), (2, vI a1), (3, vI a2)] d_Lk_openNode_9 (by decide) rfl ?_
  refine sb_nme (e := γ 25 a0) (fun x68 => [(4, vI x68), (0, vR Γ 9), (1, vI a0), (2, vI a1), (3, vI a2)]) c67 (fun x68 hx68 => ?_)
  refine sb_aload_n 1 d_Lk_openNode_11 rfl ?_
  refine g_Lk_9 d_Lk_openNode_12 ?_
  refine sb_aload_n 1 d_Lk_openNode_15 rfl ?_
  refine g_Lk_56 d_Lk_openNode_16 (fun c70 => ?_)
  refine sb_iload_n 2 d_Lk_openNode_19 rfl ?_
  refine as_S_63 ha0 d_Lk_openNode_20 (fun _ => ?_)
  refine sb_aps (fun γ71 => ?_)
  refine sb_aload_n 1 d_Lk_openNode_21 rfl ?_
  refine g_Lk_15 d_Lk_openNode_22 ?_
  refine sb_aload_n 1 d_Lk_openNode_25 rfl ?_
  refine g_Lk_56 d_Lk_openNode_26 (fun c73 => ?_)
  refine sb_aload_n 1 d_Lk_openNode_29 rfl ?_
  refine g_Lk_63 d_Lk_openNode_30 (fun c74 => ?_)
  refine as_S_64 c74 d_Lk_openNode_33 (fun _ => ?_)
  refine sb_aps (fun γ75 => ?_)
  refine sb_aload_n 1 d_Lk_openNode_34 rfl ?_
  refine g_Lk_18 d_Lk_openNode_35 ?_
  refine sb_aload_n 1 d_Lk_openNode_38 rfl ?_
  refine g_Lk_56 d_Lk_openNode_39 (fun c77 => ?_)
  refine sb_iload_n 3 d_Lk_openNode_42 rfl ?_
  refine as_S_65 ha1 d_Lk_openNode_43 (fun _ => ?_)
  refine sb_aps (fun γ78 => ?_)
  refine sb_aload_n 1 d_Lk_openNode_44 rfl ?_
  refine g_Lk_21 d_Lk_openNode_45 ?_
  refine sb_aload_n 1 d_Lk_openNode_48 rfl ?_
  refine g_Lk_56 d_Lk_openNode_49 (fun c80 => ?_)
  refine sb_aload_n 1 d_Lk_openNode_52 rfl ?_
  refine g_Lk_30 d_Lk_openNode_53 ?_
  refine g_Lk_80 d_Lk_openNode_56 ?_
  refine sb_iload_n 2 d_Lk_openNode_59 rfl ?_
  refine al_S_29 d_Lk_openNode_60 (fun _ c83 => ?_)
  refine as_S_66 c83 d_Lk_openNode_61 (fun _ => ?_)
  refine sb_aps (fun γ84 => ?_)
  refine sb_aload_n 1 d_Lk_openNode_62 rfl ?_
  refine g_Lk_24 d_Lk_openNode_63 ?_
  refine sb_aload_n 1 d_Lk_openNode_66 rfl ?_
  refine g_Lk_56 d_Lk_openNode_67 (fun c86 => ?_)
  refine sb_aload_n 1 d_Lk_openNode_70 rfl ?_
  refine g_Lk_34 d_Lk_openNode_71 ?_
  refine g_Lk_101 d_Lk_openNode_74 ?_
  refine sb_aload_n 1 d_Lk_openNode_77 rfl ?_
  refine g_Lk_30 d_Lk_openNode_78 ?_
  refine g_Lk_80 d_Lk_openNode_81 ?_
  refine sb_iload_n 2 d_Lk_openNode_84 rfl ?_
  refine al_S_29 d_Lk_openNode_85 (fun _ c91 => ?_)
  refine al_S_43 d_Lk_openNode_86 (fun _ c92 => ?_)
  refine as_S_67 c92 d_Lk_openNode_87 (fun _ => ?_)
  refine sb_aps (fun γ93 => ?_)
  refine sb_iconst d_Lk_openNode_88 ?_
  refine sb_istore [(5, vI 0), (4, vI x68), (0, vR Γ 9), (1, vI a0), (2, vI a1), (3, vI a2)] d_Lk_openNode_89 (by decide) rfl ?_
  exact sb_lv [2, 3, 5, 1, 0] rfl (s_Lk_openNode_L91 (s_Lk_openNode_b226) FU γ93 a0 a2 x68 0 ha0 ha2 hx68 (by decide))
theorem d_Lk_push_0 : decode b_Lk_push 0 = .ok (.aload_n 0, 1) := by decide +kernel
theorem d_Lk_push_1 : decode b_Lk_push 1 = .ok (.getfield 27, 3) := by decide +kernel
theorem d_Lk_push_4 : decode b_Lk_push 4 = .ok (.aload_n 0, 1) := by decide +kernel
theorem d_Lk_push_5 : decode b_Lk_push 5 = .ok (.getfield 60, 3) := by decide +kernel
theorem d_Lk_push_8 : decode b_Lk_push 8 = .ok (.iload_n 1, 1) := by decide +kernel
theorem d_Lk_push_9 : decode b_Lk_push 9 = .ok (.iastore, 1) := by decide +kernel
theorem d_Lk_push_10 : decode b_Lk_push 10 = .ok (.aload_n 0, 1) := by decide +kernel
theorem d_Lk_push_11 : decode b_Lk_push 11 = .ok (.dup, 1) := by decide +kernel
theorem d_Lk_push_12 : decode b_Lk_push 12 = .ok (.getfield 60, 3) := by decide +kernel
theorem d_Lk_push_15 : decode b_Lk_push 15 = .ok (.iconst 1, 1) := by decide +kernel
theorem d_Lk_push_16 : decode b_Lk_push 16 = .ok (.iadd, 1) := by decide +kernel
theorem d_Lk_push_17 : decode b_Lk_push 17 = .ok (.putfield 60, 3) := by decide +kernel
theorem d_Lk_push_20 : decode b_Lk_push 20 = .ok (.return_, 1) := by decide +kernel
abbrev mt_Lk_push : MT := (R_Lk, b_Lk_push, 2, none)
theorem vf_Lk_push : VF y_Lk_push mt_Lk_push 4 1 := ⟨im_Lk_push, se_Lk_push, in_Lk, co_Lk_push, by decide +kernel, _, _, rfl⟩
def f_Lk_push (γ : St) (a0 : Int) : Option (Int × St) :=
  chk (inb (γ 9 10) 9000) (ap (setA γ 68 (γ 9 10) a0) fun γ3 =>
  chk (i32 ((γ3 9 10) + 1)) (ap (setA γ3 9 10 ((γ3 9 10) + 1)) fun γ6 =>
  some (0, γ6)))
set_option maxHeartbeats 4000000 in
theorem c_Lk_push {Γ : Ctx} (γ : St) (a0 : Int) (ha0 : i32 a0) : NC Γ BS y_Lk_push mt_Lk_push 6 240 [vR Γ 9, vI a0] γ (f_Lk_push γ a0) := by
  refine nc_of (by decide) rfl (Nat.le_of_ble_eq_true rfl) ?_
  show SB Γ BS mt_Lk_push (RmN 6 240) 0 0 (KN Γ BS mt_Lk_push.2.2.2) 0 [(0, vR Γ 9), (1, vI a0)] [] γ _
  unfold f_Lk_push
  refine sb_aload_n 0 d_Lk_push_0 rfl ?_
  refine g_Lk_27 d_Lk_push_1 ?_
  refine sb_aload_n 0 d_Lk_push_4 rfl ?_
  refine g_Lk_60 d_Lk_push_5 (fun c2 => ?_)
  refine sb_iload_n 1 d_Lk_push_8 rfl ?_
  refine as_S_68 ha0 d_Lk_push_9 (fun _ => ?_)
  refine sb_aps (fun γ3 => ?_)
  refine sb_aload_n 0 d_Lk_push_10 rfl ?_
  refine sb_dup d_Lk_push_11 rfl ?_
  refine g_Lk_60 d_Lk_push_12 (fun c4 => ?_)
  refine sb_iconst d_Lk_push_15 ?_
  refine sb_iadd d_Lk_push_16 ?_
  refine sb_chk (fun c5 => ?_)
  refine p_Lk_60 c5 d_Lk_push_17 ?_
  refine sb_aps (fun γ6 => ?_)
  exact sn_v rfl d_Lk_push_20
theorem d_Lk_takeCall_0 : decode b_Lk_takeCall 0 = .ok (.aload_n 0, 1) := by decide +kernel
theorem d_Lk_takeCall_1 : decode b_Lk_takeCall 1 = .ok (.getfield 34, 3) := by decide +kernel
theorem d_Lk_takeCall_4 : decode b_Lk_takeCall 4 = .ok (.getfield 146, 3) := by decide +kernel
theorem d_Lk_takeCall_7 : decode b_Lk_takeCall 7 = .ok (.iload_n 2, 1) := by decide +kernel
theorem d_Lk_takeCall_8 : decode b_Lk_takeCall 8 = .ok (.iaload, 1) := by decide +kernel
theorem d_Lk_takeCall_9 : decode b_Lk_takeCall 9 = .ok (.istore_n 3, 1) := by decide +kernel
theorem d_Lk_takeCall_10 : decode b_Lk_takeCall 10 = .ok (.aload_n 0, 1) := by decide +kernel
theorem d_Lk_takeCall_11 : decode b_Lk_takeCall 11 = .ok (.getfield 30, 3) := by decide +kernel
theorem d_Lk_takeCall_14 : decode b_Lk_takeCall 14 = .ok (.getfield 125, 3) := by decide +kernel
theorem d_Lk_takeCall_17 : decode b_Lk_takeCall 17 = .ok (.iload_n 3, 1) := by decide +kernel
theorem d_Lk_takeCall_18 : decode b_Lk_takeCall 18 = .ok (.iaload, 1) := by decide +kernel
theorem d_Lk_takeCall_19 : decode b_Lk_takeCall 19 = .ok (.istore 4, 2) := by decide +kernel
theorem d_Lk_takeCall_21 : decode b_Lk_takeCall 21 = .ok (.aload_n 0, 1) := by decide +kernel
theorem d_Lk_takeCall_22 : decode b_Lk_takeCall 22 = .ok (.getfield 63, 3) := by decide +kernel
theorem d_Lk_takeCall_25 : decode b_Lk_takeCall 25 = .ok (.istore 5, 2) := by decide +kernel
theorem d_Lk_takeCall_27 : decode b_Lk_takeCall 27 = .ok (.aload_n 0, 1) := by decide +kernel
theorem d_Lk_takeCall_28 : decode b_Lk_takeCall 28 = .ok (.iload_n 3, 1) := by decide +kernel
theorem d_Lk_takeCall_29 : decode b_Lk_takeCall 29 = .ok (.aload_n 0, 1) := by decide +kernel
theorem d_Lk_takeCall_30 : decode b_Lk_takeCall 30 = .ok (.iload_n 1, 1) := by decide +kernel
theorem d_Lk_takeCall_31 : decode b_Lk_takeCall 31 = .ok (.aload_n 0, 1) := by decide +kernel
theorem d_Lk_takeCall_32 : decode b_Lk_takeCall 32 = .ok (.getfield 34, 3) := by decide +kernel
theorem d_Lk_takeCall_35 : decode b_Lk_takeCall 35 = .ok (.getfield 158, 3) := by decide +kernel
theorem d_Lk_takeCall_38 : decode b_Lk_takeCall 38 = .ok (.iload_n 2, 1) := by decide +kernel
theorem d_Lk_takeCall_39 : decode b_Lk_takeCall 39 = .ok (.iaload, 1) := by decide +kernel
theorem d_Lk_takeCall_40 : decode b_Lk_takeCall 40 = .ok (.invokevirtual 112, 3) := by decide +kernel
theorem d_Lk_takeCall_43 : decode b_Lk_takeCall 43 = .ok (.aload_n 0, 1) := by decide +kernel
theorem d_Lk_takeCall_44 : decode b_Lk_takeCall 44 = .ok (.getfield 34, 3) := by decide +kernel
theorem d_Lk_takeCall_47 : decode b_Lk_takeCall 47 = .ok (.getfield 159, 3) := by decide +kernel
theorem d_Lk_takeCall_50 : decode b_Lk_takeCall 50 = .ok (.aload_n 0, 1) := by decide +kernel
theorem d_Lk_takeCall_51 : decode b_Lk_takeCall 51 = .ok (.getfield 21, 3) := by decide +kernel
theorem d_Lk_takeCall_54 : decode b_Lk_takeCall 54 = .ok (.iload_n 1, 1) := by decide +kernel
theorem d_Lk_takeCall_55 : decode b_Lk_takeCall 55 = .ok (.iaload, 1) := by decide +kernel
theorem d_Lk_takeCall_56 : decode b_Lk_takeCall 56 = .ok (.iaload, 1) := by decide +kernel
theorem d_Lk_takeCall_57 : decode b_Lk_takeCall 57 = .ok (.invokevirtual 73, 3) := by decide +kernel
theorem d_Lk_takeCall_60 : decode b_Lk_takeCall 60 = .ok (.aload_n 0, 1) := by decide +kernel
theorem d_Lk_takeCall_61 : decode b_Lk_takeCall 61 = .ok (.dup, 1) := by decide +kernel
theorem d_Lk_takeCall_62 : decode b_Lk_takeCall 62 = .ok (.getfield 60, 3) := by decide +kernel
theorem d_Lk_takeCall_65 : decode b_Lk_takeCall 65 = .ok (.iload 4, 2) := by decide +kernel
theorem d_Lk_takeCall_67 : decode b_Lk_takeCall 67 = .ok (.isub, 1) := by decide +kernel
theorem d_Lk_takeCall_68 : decode b_Lk_takeCall 68 = .ok (.putfield 60, 3) := by decide +kernel
theorem d_Lk_takeCall_71 : decode b_Lk_takeCall 71 = .ok (.iconst 0, 1) := by decide +kernel
theorem d_Lk_takeCall_72 : decode b_Lk_takeCall 72 = .ok (.istore 6, 2) := by decide +kernel
theorem d_Lk_takeCall_74 : decode b_Lk_takeCall 74 = .ok (.iload 6, 2) := by decide +kernel
theorem d_Lk_takeCall_76 : decode b_Lk_takeCall 76 = .ok (.iload 4, 2) := by decide +kernel
theorem d_Lk_takeCall_78 : decode b_Lk_takeCall 78 = .ok (.if_icmp .ge 34, 3) := by decide +kernel
theorem d_Lk_takeCall_81 : decode b_Lk_takeCall 81 = .ok (.aload_n 0, 1) := by decide +kernel
theorem d_Lk_takeCall_82 : decode b_Lk_takeCall 82 = .ok (.getfield 38, 3) := by decide +kernel
theorem d_Lk_takeCall_85 : decode b_Lk_takeCall 85 = .ok (.getfield 134, 3) := by decide +kernel
theorem d_Lk_takeCall_88 : decode b_Lk_takeCall 88 = .ok (.iload 5, 2) := by decide +kernel
theorem d_Lk_takeCall_90 : decode b_Lk_takeCall 90 = .ok (.iload 6, 2) := by decide +kernel
theorem d_Lk_takeCall_92 : decode b_Lk_takeCall 92 = .ok (.iadd, 1) := by decide +kernel
theorem d_Lk_takeCall_93 : decode b_Lk_takeCall 93 = .ok (.aload_n 0, 1) := by decide +kernel
theorem d_Lk_takeCall_94 : decode b_Lk_takeCall 94 = .ok (.getfield 27, 3) := by decide +kernel
theorem d_Lk_takeCall_97 : decode b_Lk_takeCall 97 = .ok (.aload_n 0, 1) := by decide +kernel
theorem d_Lk_takeCall_98 : decode b_Lk_takeCall 98 = .ok (.getfield 60, 3) := by decide +kernel
theorem d_Lk_takeCall_101 : decode b_Lk_takeCall 101 = .ok (.iload 6, 2) := by decide +kernel
theorem d_Lk_takeCall_103 : decode b_Lk_takeCall 103 = .ok (.iadd, 1) := by decide +kernel
theorem d_Lk_takeCall_104 : decode b_Lk_takeCall 104 = .ok (.iaload, 1) := by decide +kernel
theorem d_Lk_takeCall_105 : decode b_Lk_takeCall 105 = .ok (.iastore, 1) := by decide +kernel
theorem d_Lk_takeCall_106 : decode b_Lk_takeCall 106 = .ok (.iinc 6 1, 3) := by decide +kernel
theorem d_Lk_takeCall_109 : decode b_Lk_takeCall 109 = .ok (.goto (-35), 3) := by decide +kernel
theorem d_Lk_takeCall_112 : decode b_Lk_takeCall 112 = .ok (.iconst 0, 1) := by decide +kernel
theorem d_Lk_takeCall_113 : decode b_Lk_takeCall 113 = .ok (.istore 6, 2) := by decide +kernel
theorem d_Lk_takeCall_115 : decode b_Lk_takeCall 115 = .ok (.iload 6, 2) := by decide +kernel
theorem d_Lk_takeCall_117 : decode b_Lk_takeCall 117 = .ok (.aload_n 0, 1) := by decide +kernel
theorem d_Lk_takeCall_118 : decode b_Lk_takeCall 118 = .ok (.getfield 30, 3) := by decide +kernel
theorem d_Lk_takeCall_121 : decode b_Lk_takeCall 121 = .ok (.getfield 162, 3) := by decide +kernel
theorem d_Lk_takeCall_124 : decode b_Lk_takeCall 124 = .ok (.iload_n 3, 1) := by decide +kernel
theorem d_Lk_takeCall_125 : decode b_Lk_takeCall 125 = .ok (.iaload, 1) := by decide +kernel
theorem d_Lk_takeCall_126 : decode b_Lk_takeCall 126 = .ok (.if_icmp .ge 21, 3) := by decide +kernel
theorem d_Lk_takeCall_129 : decode b_Lk_takeCall 129 = .ok (.aload_n 0, 1) := by decide +kernel
theorem d_Lk_takeCall_130 : decode b_Lk_takeCall 130 = .ok (.iload 5, 2) := by decide +kernel
theorem d_Lk_takeCall_132 : decode b_Lk_takeCall 132 = .ok (.iload 4, 2) := by decide +kernel
theorem d_Lk_takeCall_134 : decode b_Lk_takeCall 134 = .ok (.iadd, 1) := by decide +kernel
theorem d_Lk_takeCall_135 : decode b_Lk_takeCall 135 = .ok (.iload 6, 2) := by decide +kernel
theorem d_Lk_takeCall_137 : decode b_Lk_takeCall 137 = .ok (.iadd, 1) := by decide +kernel
theorem d_Lk_takeCall_138 : decode b_Lk_takeCall 138 = .ok (.invokevirtual 149, 3) := by decide +kernel
theorem d_Lk_takeCall_141 : decode b_Lk_takeCall 141 = .ok (.iinc 6 1, 3) := by decide +kernel
theorem d_Lk_takeCall_144 : decode b_Lk_takeCall 144 = .ok (.goto (-29), 3) := by decide +kernel
theorem d_Lk_takeCall_147 : decode b_Lk_takeCall 147 = .ok (.return_, 1) := by decide +kernel
abbrev mt_Lk_takeCall : MT := (R_Lk, b_Lk_takeCall, 7, none)
theorem vf_Lk_takeCall : VF y_Lk_takeCall mt_Lk_takeCall 4 2 := ⟨im_Lk_takeCall, se_Lk_takeCall, in_Lk, co_Lk_takeCall, by decide +kernel, _, _, rfl⟩
def f_Lk_takeCall_L115 : Nat → St → Int → Int → Int → Int → Option (Int × St)
  | 0, _, _, _, _, _ => none
  | n + 1, γ, x1, x2, x3, x4 =>
  chk (inb x1 59) (if (γ 27 x1) ≤ x4 then
  (some (0, γ))
  else
  (chk (i32 (x3 + x2)) (chk (i32 ((x3 + x2) + x4)) (bndN (f_Lk_push γ ((x3 + x2) + x4)) fun _ γ11 =>
  chk (i32 (x4 + 1)) ((f_Lk_takeCall_L115 n) γ11 x1 x2 x3 (x4 + 1))))))
def f_Lk_takeCall_b112 (γ : St) (x13 : Int) (x14 : Int) (x15 : Int) : Option (Int × St) :=
  f_Lk_takeCall_L115  FU γ x13 x14 x15 0
def f_Lk_takeCall_L74 (e112 : St → Int → Int → Int → Option (Int × St)) : Nat → St → Int → Int → Int → Int → Option (Int × St)
  | 0, _, _, _, _, _ => none
  | n + 1, γ, x16, x17, x18, x19 =>
  if x17 ≤ x19 then
  (e112 γ x16 x17 x18)
  else
  (chk (i32 (x18 + x19)) (chk (i32 ((γ 9 10) + x19)) (chk (inb ((γ 9 10) + x19) 9000) (chk (inb (x18 + x19) 9001) (ap (setA γ 55 (x18 + x19) (γ 68 ((γ 9 10) + x19))) fun γ27 =>
  chk (i32 (x19 + 1)) ((f_Lk_takeCall_L74 e112 n) γ27 x16 x17 x18 (x19 + 1)))))))
def f_Lk_takeCall (γ : St) (a0 : Int) (a1 : Int) : Option (Int × St) :=
  chk (inb a1 65537) (ap (γ 39 a1) fun x35 =>
  chk (inb x35 59) (ap (γ 26 x35) fun x39 =>
  ap (γ 9 11) fun x41 =>
  chk (inb a1 65537) (bndN (f_Lk_putInClock γ a0 (γ 41 a1)) fun r45 γ46 =>
  chk (inb a0 59) (chk (inb (γ46 66 a0) 16385) (bndN (f_Lk_openNode γ46 x35 r45 (γ46 42 (γ46 66 a0))) fun _ γ53 =>
  chk (i32 ((γ53 9 10) - x39)) (ap (setA γ53 9 10 ((γ53 9 10) - x39)) fun γ56 =>
  f_Lk_takeCall_L74 (f_Lk_takeCall_b112) FU γ56 x35 x39 x41 0))))))
set_option maxHeartbeats 4000000 in
theorem s_Lk_takeCall_L115 {Γ : Ctx} : ∀ (n : Nat) (γ : St) (x1 : Int) (x2 : Int) (x3 : Int) (x4 : Int), i32 x1 → i32 x2 → i32 x3 → i32 x4 → SB Γ BS mt_Lk_takeCall (RmN 8 289) 0 0 (KN Γ BS mt_Lk_takeCall.2.2.2) 115 [(0, vR Γ 9), (3, vI x1), (4, vI x2), (5, vI x3), (6, vI x4)] [] γ (f_Lk_takeCall_L115 n γ x1 x2 x3 x4) := by
  intro n
  induction n with
  | zero => intros; exact sb_none
  | succ n ih =>
    intro γ x1 x2 x3 x4 hx1 hx2 hx3 hx4
    unfold f_Lk_takeCall_L115
    refine sb_iload 4 d_Lk_takeCall_115 rfl ?_
    refine sb_aload_n 0 d_Lk_takeCall_117 rfl ?_
    refine g_Lk_30 d_Lk_takeCall_118 ?_
    refine g_Lk_162 d_Lk_takeCall_121 ?_
    refine sb_iload_n 1 d_Lk_takeCall_124 rfl ?_
    refine al_S_27 d_Lk_takeCall_125 (fun _ c7 => ?_)
    refine sb_icmp_ge 147 hx4 c7 d_Lk_takeCall_126 (by decide) (fun _ => ?_) (fun _ => ?_)
    · exact sn_v rfl d_Lk_takeCall_147
    · refine sb_aload_n 0 d_Lk_takeCall_129 rfl ?_
      refine sb_iload 3 d_Lk_takeCall_130 rfl ?_
      refine sb_iload 2 d_Lk_takeCall_132 rfl ?_
      refine sb_iadd d_Lk_takeCall_134 ?_
      refine sb_chk (fun c8 => ?_)
      refine sb_iload 4 d_Lk_takeCall_135 rfl ?_
      refine sb_iadd d_Lk_takeCall_137 ?_
      refine sb_chk (fun c9 => ?_)
      refine sb_cVv vf_Lk_push (c_Lk_push γ ((x3 + x2) + x4) c9) rfl ml_Lk_149 (As := [vI ((x3 + x2) + x4)]) rfl rfl (Nat.le_of_ble_eq_true rfl) ⟨by decide, by decide⟩ d_Lk_takeCall_138 (fun _ γ11 => ?_)
      refine sb_iinc 4 [(6, vI (x4 + 1)), (0, vR Γ 9), (3, vI x1), (4, vI x2), (5, vI x3)] d_Lk_takeCall_141 rfl (by decide) rfl ?_
      refine sb_chk (fun c12 => ?_)
      refine sb_goto 115 d_Lk_takeCall_144 (by decide) ?_
      exact sb_lv [1, 2, 3, 4, 0] rfl (ih γ11 x1 x2 x3 (x4 + 1) hx1 hx2 hx3 c12)
set_option maxHeartbeats 4000000 in
theorem s_Lk_takeCall_b112 {Γ : Ctx} : ∀ (γ : St) (x13 : Int) (x14 : Int) (x15 : Int), i32 x13 → i32 x14 → i32 x15 → SB Γ BS mt_Lk_takeCall (RmN 8 289) 0 0 (KN Γ BS mt_Lk_takeCall.2.2.2) 112 [(0, vR Γ 9), (3, vI x13), (4, vI x14), (5, vI x15)] [] γ (f_Lk_takeCall_b112 γ x13 x14 x15) := by
  intro γ x13 x14 x15 hx13 hx14 hx15
  unfold f_Lk_takeCall_b112
  refine sb_iconst d_Lk_takeCall_112 ?_
  refine sb_istore [(6, vI 0), (0, vR Γ 9), (3, vI x13), (4, vI x14), (5, vI x15)] d_Lk_takeCall_113 (by decide) rfl ?_
  exact sb_lv [1, 2, 3, 4, 0] rfl (s_Lk_takeCall_L115  FU γ x13 x14 x15 0 hx13 hx14 hx15 (by decide))
set_option maxHeartbeats 4000000 in
theorem s_Lk_takeCall_L74 {Γ : Ctx} {e112 : St → Int → Int → Int → Option (Int × St)} (he112 : ∀ (γ : St) (x29 : Int) (x30 : Int) (x31 : Int), i32 x29 → i32 x30 → i32 x31 → SB Γ BS mt_Lk_takeCall (RmN 8 289) 0 0 (KN Γ BS mt_Lk_takeCall.2.2.2) 112 [(0, vR Γ 9), (3, vI x29), (4, vI x30), (5, vI x31)] [] γ (e112 γ x29 x30 x31)) : ∀ (n : Nat) (γ : St) (x16 : Int) (x17 : Int) (x18 : Int) (x19 : Int), i32 x16 → i32 x17 → i32 x18 → i32 x19 → SB Γ BS mt_Lk_takeCall (RmN 8 289) 0 0 (KN Γ BS mt_Lk_takeCall.2.2.2) 74 [(0, vR Γ 9), (3, vI x16), (4, vI x17), (5, vI x18), (6, vI x19)] [] γ (f_Lk_takeCall_L74 e112 n γ x16 x17 x18 x19) := by
  intro n
  induction n with
  | zero => intros; exact sb_none
  | succ n ih =>
    intro γ x16 x17 x18 x19 hx16 hx17 hx18 hx19
    unfold f_Lk_takeCall_L74
    refine sb_iload 4 d_Lk_takeCall_74 rfl ?_
    refine sb_iload 2 d_Lk_takeCall_76 rfl ?_
    refine sb_icmp_ge 112 hx19 hx17 d_Lk_takeCall_78 (by decide) (fun _ => ?_) (fun _ => ?_)
    · exact sb_lv [0, 1, 2, 3] rfl (he112 γ x16 x17 x18 hx16 hx17 hx18)
    · refine sb_aload_n 0 d_Lk_takeCall_81 rfl ?_
      refine g_Lk_38 d_Lk_takeCall_82 ?_
      refine g_Lk_134 d_Lk_takeCall_85 ?_
      refine sb_iload 3 d_Lk_takeCall_88 rfl ?_
      refine sb_iload 4 d_Lk_takeCall_90 rfl ?_
      refine sb_iadd d_Lk_takeCall_92 ?_
      refine sb_chk (fun c22 => ?_)
      refine sb_aload_n 0 d_Lk_takeCall_93 rfl ?_
      refine g_Lk_27 d_Lk_takeCall_94 ?_
      refine sb_aload_n 0 d_Lk_takeCall_97 rfl ?_
      refine g_Lk_60 d_Lk_takeCall_98 (fun c24 => ?_)
      refine sb_iload 4 d_Lk_takeCall_101 rfl ?_
      refine sb_iadd d_Lk_takeCall_103 ?_
      refine sb_chk (fun c25 => ?_)
      refine al_S_68 d_Lk_takeCall_104 (fun _ c26 => ?_)
      refine as_S_55 c26 d_Lk_takeCall_105 (fun _ => ?_)
      refine sb_aps (fun γ27 => ?_)
      refine sb_iinc 4 [(6, vI (x19 + 1)), (0, vR Γ 9), (3, vI x16), (4, vI x17), (5, vI x18)] d_Lk_takeCall_106 rfl (by decide) rfl ?_
      refine sb_chk (fun c28 => ?_)
      refine sb_goto 74 d_Lk_takeCall_109 (by decide) ?_
      exact sb_lv [1, 2, 3, 4, 0] rfl (ih γ27 x16 x17 x18 (x19 + 1) hx16 hx17 hx18 c28)
set_option maxHeartbeats 4000000 in
theorem c_Lk_takeCall {Γ : Ctx} (γ : St) (a0 : Int) (a1 : Int) (ha0 : i32 a0) (ha1 : i32 a1) : NC Γ BS y_Lk_takeCall mt_Lk_takeCall 8 289 [vR Γ 9, vI a0, vI a1] γ (f_Lk_takeCall γ a0 a1) := by
  refine nc_of (by decide) rfl (Nat.le_of_ble_eq_true rfl) ?_
  show SB Γ BS mt_Lk_takeCall (RmN 8 289) 0 0 (KN Γ BS mt_Lk_takeCall.2.2.2) 0 [(0, vR Γ 9), (1, vI a0), (2, vI a1)] [] γ _
  unfold f_Lk_takeCall
  refine sb_aload_n 0 d_Lk_takeCall_0 rfl ?_
  refine g_Lk_34 d_Lk_takeCall_1 ?_
  refine g_Lk_146 d_Lk_takeCall_4 ?_
  refine sb_iload_n 2 d_Lk_takeCall_7 rfl ?_
  refine al_S_39 d_Lk_takeCall_8 (fun _ c34 => ?_)
  refine sb_istore_n [(3, vI (γ 39 a1)), (0, vR Γ 9), (1, vI a0), (2, vI a1)] d_Lk_takeCall_9 (by decide) rfl ?_
  refine sb_nme (e := γ 39 a1) (fun x35 => [(3, vI x35), (0, vR Γ 9), (1, vI a0), (2, vI a1)]) c34 (fun x35 hx35 => ?_)
  refine sb_aload_n 1 d_Lk_takeCall_10 rfl ?_
  refine g_Lk_30 d_Lk_takeCall_11 ?_
  refine g_Lk_125 d_Lk_takeCall_14 ?_
  refine sb_iload_n 0 d_Lk_takeCall_17 rfl ?_
  refine al_S_26 d_Lk_takeCall_18 (fun _ c38 => ?_)
  refine sb_istore [(4, vI (γ 26 x35)), (3, vI x35), (0, vR Γ 9), (1, vI a0), (2, vI a1)] d_Lk_takeCall_19 (by decide) rfl ?_
  refine sb_nme (e := γ 26 x35) (fun x39 => [(4, vI x39), (3, vI x35), (0, vR Γ 9), (1, vI a0), (2, vI a1)]) c38 (fun x39 hx39 => ?_)
  refine sb_aload_n 2 d_Lk_takeCall_21 rfl ?_
  refine g_Lk_63 d_Lk_takeCall_22 (fun c40 => ?_)
  refine sb_istore [(5, vI (γ 9 11)), (4, vI x39), (3, vI x35), (0, vR Γ 9), (1, vI a0), (2, vI a1)] d_Lk_takeCall_25 (by decide) rfl ?_
  refine sb_nme (e := γ 9 11) (fun x41 => [(5, vI x41), (4, vI x39), (3, vI x35), (0, vR Γ 9), (1, vI a0), (2, vI a1)]) c40 (fun x41 hx41 => ?_)
  refine sb_aload_n 3 d_Lk_takeCall_27 rfl ?_
  refine sb_iload_n 2 d_Lk_takeCall_28 rfl ?_
  refine sb_aload_n 3 d_Lk_takeCall_29 rfl ?_
  refine sb_iload_n 4 d_Lk_takeCall_30 rfl ?_
  refine sb_aload_n 3 d_Lk_takeCall_31 rfl ?_
  refine g_Lk_34 d_Lk_takeCall_32 ?_
  refine g_Lk_158 d_Lk_takeCall_35 ?_
  refine sb_iload_n 5 d_Lk_takeCall_38 rfl ?_
  refine al_S_41 d_Lk_takeCall_39 (fun _ c44 => ?_)
  refine sb_cVi vf_Lk_putInClock (c_Lk_putInClock γ a0 (γ 41 a1) ha0 c44) rfl ml_Lk_112 (As := [vI a0, vI (γ 41 a1)]) rfl rfl (Nat.le_of_ble_eq_true rfl) ⟨by decide, by decide⟩ d_Lk_takeCall_40 (fun r45 γ46 hr45 => ?_)
  refine sb_aload_n 3 d_Lk_takeCall_43 rfl ?_
  refine g_Lk_34 d_Lk_takeCall_44 ?_
  refine g_Lk_159 d_Lk_takeCall_47 ?_
  refine sb_aload_n 3 d_Lk_takeCall_50 rfl ?_
  refine g_Lk_21 d_Lk_takeCall_51 ?_
  refine sb_iload_n 4 d_Lk_takeCall_54 rfl ?_
  refine al_S_66 d_Lk_takeCall_55 (fun _ c50 => ?_)
  refine al_S_42 d_Lk_takeCall_56 (fun _ c51 => ?_)
  refine sb_cVv vf_Lk_openNode (c_Lk_openNode γ46 x35 r45 (γ46 42 (γ46 66 a0)) hx35 hr45 c51) rfl ml_Lk_73 (As := [vI x35, vI r45, vI (γ46 42 (γ46 66 a0))]) rfl rfl (Nat.le_of_ble_eq_true rfl) ⟨by decide, by decide⟩ d_Lk_takeCall_57 (fun _ γ53 => ?_)
  refine sb_aload_n 3 d_Lk_takeCall_60 rfl ?_
  refine sb_dup d_Lk_takeCall_61 rfl ?_
  refine g_Lk_60 d_Lk_takeCall_62 (fun c54 => ?_)
  refine sb_iload 1 d_Lk_takeCall_65 rfl ?_
  refine sb_isub d_Lk_takeCall_67 ?_
  refine sb_chk (fun c55 => ?_)
  refine p_Lk_60 c55 d_Lk_takeCall_68 ?_
  refine sb_aps (fun γ56 => ?_)
  refine sb_iconst d_Lk_takeCall_71 ?_
  refine sb_istore [(6, vI 0), (5, vI x41), (4, vI x39), (3, vI x35), (0, vR Γ 9), (1, vI a0), (2, vI a1)] d_Lk_takeCall_72 (by decide) rfl ?_
  exact sb_lv [4, 3, 2, 1, 0] rfl (s_Lk_takeCall_L74 (s_Lk_takeCall_b112) FU γ56 x35 x39 x41 0 hx35 hx39 hx41 (by decide))
theorem d_Sl_addCell_0 : decode b_Sl_addCell 0 = .ok (.aload_n 0, 1) := by decide +kernel
theorem d_Sl_addCell_1 : decode b_Sl_addCell 1 = .ok (.getfield 33, 3) := by decide +kernel
theorem d_Sl_addCell_4 : decode b_Sl_addCell 4 = .ok (.aload_n 0, 1) := by decide +kernel
theorem d_Sl_addCell_5 : decode b_Sl_addCell 5 = .ok (.getfield 46, 3) := by decide +kernel
theorem d_Sl_addCell_8 : decode b_Sl_addCell 8 = .ok (.iload_n 1, 1) := by decide +kernel
theorem d_Sl_addCell_9 : decode b_Sl_addCell 9 = .ok (.iastore, 1) := by decide +kernel
theorem d_Sl_addCell_10 : decode b_Sl_addCell 10 = .ok (.aload_n 0, 1) := by decide +kernel
theorem d_Sl_addCell_11 : decode b_Sl_addCell 11 = .ok (.getfield 36, 3) := by decide +kernel
theorem d_Sl_addCell_14 : decode b_Sl_addCell 14 = .ok (.aload_n 0, 1) := by decide +kernel
theorem d_Sl_addCell_15 : decode b_Sl_addCell 15 = .ok (.getfield 46, 3) := by decide +kernel
theorem d_Sl_addCell_18 : decode b_Sl_addCell 18 = .ok (.iload_n 2, 1) := by decide +kernel
theorem d_Sl_addCell_19 : decode b_Sl_addCell 19 = .ok (.iastore, 1) := by decide +kernel
theorem d_Sl_addCell_20 : decode b_Sl_addCell 20 = .ok (.aload_n 0, 1) := by decide +kernel
theorem d_Sl_addCell_21 : decode b_Sl_addCell 21 = .ok (.dup, 1) := by decide +kernel
theorem d_Sl_addCell_22 : decode b_Sl_addCell 22 = .ok (.getfield 46, 3) := by decide +kernel
theorem d_Sl_addCell_25 : decode b_Sl_addCell 25 = .ok (.iconst 1, 1) := by decide +kernel
theorem d_Sl_addCell_26 : decode b_Sl_addCell 26 = .ok (.iadd, 1) := by decide +kernel
theorem d_Sl_addCell_27 : decode b_Sl_addCell 27 = .ok (.putfield 46, 3) := by decide +kernel
theorem d_Sl_addCell_30 : decode b_Sl_addCell 30 = .ok (.return_, 1) := by decide +kernel
abbrev mt_Sl_addCell : MT := (R_Sl, b_Sl_addCell, 3, none)
theorem vf_Sl_addCell : VF y_Sl_addCell mt_Sl_addCell 9 2 := ⟨im_Sl_addCell, se_Sl_addCell, in_Sl, co_Sl_addCell, by decide +kernel, _, _, rfl⟩
def f_Sl_addCell (γ : St) (a0 : Int) (a1 : Int) : Option (Int × St) :=
  chk (inb (γ 8 11) 6000) (ap (setA γ 61 (γ 8 11) a0) fun γ3 =>
  chk (inb (γ3 8 11) 6000) (ap (setA γ3 62 (γ3 8 11) a1) fun γ6 =>
  chk (i32 ((γ6 8 11) + 1)) (ap (setA γ6 8 11 ((γ6 8 11) + 1)) fun γ9 =>
  some (0, γ9))))
set_option maxHeartbeats 4000000 in
theorem c_Sl_addCell {Γ : Ctx} (γ : St) (a0 : Int) (a1 : Int) (ha0 : i32 a0) (ha1 : i32 a1) : NC Γ BS y_Sl_addCell mt_Sl_addCell 6 240 [vR Γ 8, vI a0, vI a1] γ (f_Sl_addCell γ a0 a1) := by
  refine nc_of (by decide) rfl (Nat.le_of_ble_eq_true rfl) ?_
  show SB Γ BS mt_Sl_addCell (RmN 6 240) 0 0 (KN Γ BS mt_Sl_addCell.2.2.2) 0 [(0, vR Γ 8), (1, vI a0), (2, vI a1)] [] γ _
  unfold f_Sl_addCell
  refine sb_aload_n 0 d_Sl_addCell_0 rfl ?_
  refine g_Sl_33 d_Sl_addCell_1 ?_
  refine sb_aload_n 0 d_Sl_addCell_4 rfl ?_
  refine g_Sl_46 d_Sl_addCell_5 (fun c2 => ?_)
  refine sb_iload_n 1 d_Sl_addCell_8 rfl ?_
  refine as_S_61 ha0 d_Sl_addCell_9 (fun _ => ?_)
  refine sb_aps (fun γ3 => ?_)
  refine sb_aload_n 0 d_Sl_addCell_10 rfl ?_
  refine g_Sl_36 d_Sl_addCell_11 ?_
  refine sb_aload_n 0 d_Sl_addCell_14 rfl ?_
  refine g_Sl_46 d_Sl_addCell_15 (fun c5 => ?_)
  refine sb_iload_n 2 d_Sl_addCell_18 rfl ?_
  refine as_S_62 ha1 d_Sl_addCell_19 (fun _ => ?_)
  refine sb_aps (fun γ6 => ?_)
  refine sb_aload_n 0 d_Sl_addCell_20 rfl ?_
  refine sb_dup d_Sl_addCell_21 rfl ?_
  refine g_Sl_46 d_Sl_addCell_22 (fun c7 => ?_)
  refine sb_iconst d_Sl_addCell_25 ?_
  refine sb_iadd d_Sl_addCell_26 ?_
  refine sb_chk (fun c8 => ?_)
  refine p_Sl_46 c8 d_Sl_addCell_27 ?_
  refine sb_aps (fun γ9 => ?_)
  exact sn_v rfl d_Sl_addCell_30
theorem d_Lk_takeOperator_0 : decode b_Lk_takeOperator 0 = .ok (.aload_n 0, 1) := by decide +kernel
theorem d_Lk_takeOperator_1 : decode b_Lk_takeOperator 1 = .ok (.getfield 34, 3) := by decide +kernel
theorem d_Lk_takeOperator_4 : decode b_Lk_takeOperator 4 = .ok (.getfield 165, 3) := by decide +kernel
theorem d_Lk_takeOperator_7 : decode b_Lk_takeOperator 7 = .ok (.iload_n 2, 1) := by decide +kernel
theorem d_Lk_takeOperator_8 : decode b_Lk_takeOperator 8 = .ok (.iaload, 1) := by decide +kernel
theorem d_Lk_takeOperator_9 : decode b_Lk_takeOperator 9 = .ok (.istore 4, 2) := by decide +kernel
theorem d_Lk_takeOperator_11 : decode b_Lk_takeOperator 11 = .ok (.aload_n 0, 1) := by decide +kernel
theorem d_Lk_takeOperator_12 : decode b_Lk_takeOperator 12 = .ok (.iload_n 1, 1) := by decide +kernel
theorem d_Lk_takeOperator_13 : decode b_Lk_takeOperator 13 = .ok (.aload_n 0, 1) := by decide +kernel
theorem d_Lk_takeOperator_14 : decode b_Lk_takeOperator 14 = .ok (.getfield 34, 3) := by decide +kernel
theorem d_Lk_takeOperator_17 : decode b_Lk_takeOperator 17 = .ok (.getfield 158, 3) := by decide +kernel
theorem d_Lk_takeOperator_20 : decode b_Lk_takeOperator 20 = .ok (.iload_n 2, 1) := by decide +kernel
theorem d_Lk_takeOperator_21 : decode b_Lk_takeOperator 21 = .ok (.iaload, 1) := by decide +kernel
theorem d_Lk_takeOperator_22 : decode b_Lk_takeOperator 22 = .ok (.invokevirtual 112, 3) := by decide +kernel
theorem d_Lk_takeOperator_25 : decode b_Lk_takeOperator 25 = .ok (.istore 5, 2) := by decide +kernel
theorem d_Lk_takeOperator_27 : decode b_Lk_takeOperator 27 = .ok (.aload_n 0, 1) := by decide +kernel
theorem d_Lk_takeOperator_28 : decode b_Lk_takeOperator 28 = .ok (.dup, 1) := by decide +kernel
theorem d_Lk_takeOperator_29 : decode b_Lk_takeOperator 29 = .ok (.getfield 60, 3) := by decide +kernel
theorem d_Lk_takeOperator_32 : decode b_Lk_takeOperator 32 = .ok (.iload 4, 2) := by decide +kernel
theorem d_Lk_takeOperator_34 : decode b_Lk_takeOperator 34 = .ok (.isub, 1) := by decide +kernel
theorem d_Lk_takeOperator_35 : decode b_Lk_takeOperator 35 = .ok (.putfield 60, 3) := by decide +kernel
theorem d_Lk_takeOperator_38 : decode b_Lk_takeOperator 38 = .ok (.aload_n 0, 1) := by decide +kernel
theorem d_Lk_takeOperator_39 : decode b_Lk_takeOperator 39 = .ok (.getfield 38, 3) := by decide +kernel
theorem d_Lk_takeOperator_42 : decode b_Lk_takeOperator 42 = .ok (.iload_n 3, 1) := by decide +kernel
theorem d_Lk_takeOperator_43 : decode b_Lk_takeOperator 43 = .ok (.aload_n 0, 1) := by decide +kernel
theorem d_Lk_takeOperator_44 : decode b_Lk_takeOperator 44 = .ok (.getfield 38, 3) := by decide +kernel
theorem d_Lk_takeOperator_47 : decode b_Lk_takeOperator 47 = .ok (.getfield 168, 3) := by decide +kernel
theorem d_Lk_takeOperator_50 : decode b_Lk_takeOperator 50 = .ok (.invokevirtual 66, 3) := by decide +kernel
theorem d_Lk_takeOperator_53 : decode b_Lk_takeOperator 53 = .ok (.istore 6, 2) := by decide +kernel
theorem d_Lk_takeOperator_55 : decode b_Lk_takeOperator 55 = .ok (.aload_n 0, 1) := by decide +kernel
theorem d_Lk_takeOperator_56 : decode b_Lk_takeOperator 56 = .ok (.getfield 38, 3) := by decide +kernel
theorem d_Lk_takeOperator_59 : decode b_Lk_takeOperator 59 = .ok (.getfield 134, 3) := by decide +kernel
theorem d_Lk_takeOperator_62 : decode b_Lk_takeOperator 62 = .ok (.iload 6, 2) := by decide +kernel
theorem d_Lk_takeOperator_64 : decode b_Lk_takeOperator 64 = .ok (.aload_n 0, 1) := by decide +kernel
theorem d_Lk_takeOperator_65 : decode b_Lk_takeOperator 65 = .ok (.getfield 27, 3) := by decide +kernel
theorem d_Lk_takeOperator_68 : decode b_Lk_takeOperator 68 = .ok (.aload_n 0, 1) := by decide +kernel
theorem d_Lk_takeOperator_69 : decode b_Lk_takeOperator 69 = .ok (.getfield 60, 3) := by decide +kernel
theorem d_Lk_takeOperator_72 : decode b_Lk_takeOperator 72 = .ok (.iaload, 1) := by decide +kernel
theorem d_Lk_takeOperator_73 : decode b_Lk_takeOperator 73 = .ok (.iastore, 1) := by decide +kernel
theorem d_Lk_takeOperator_74 : decode b_Lk_takeOperator 74 = .ok (.aload_n 0, 1) := by decide +kernel
theorem d_Lk_takeOperator_75 : decode b_Lk_takeOperator 75 = .ok (.getfield 38, 3) := by decide +kernel
theorem d_Lk_takeOperator_78 : decode b_Lk_takeOperator 78 = .ok (.getfield 115, 3) := by decide +kernel
theorem d_Lk_takeOperator_81 : decode b_Lk_takeOperator 81 = .ok (.iload 6, 2) := by decide +kernel
theorem d_Lk_takeOperator_83 : decode b_Lk_takeOperator 83 = .ok (.iload 4, 2) := by decide +kernel
theorem d_Lk_takeOperator_85 : decode b_Lk_takeOperator 85 = .ok (.iconst 1, 1) := by decide +kernel
theorem d_Lk_takeOperator_86 : decode b_Lk_takeOperator 86 = .ok (.if_icmp .le 17, 3) := by decide +kernel
theorem d_Lk_takeOperator_89 : decode b_Lk_takeOperator 89 = .ok (.aload_n 0, 1) := by decide +kernel
theorem d_Lk_takeOperator_90 : decode b_Lk_takeOperator 90 = .ok (.getfield 27, 3) := by decide +kernel
theorem d_Lk_takeOperator_93 : decode b_Lk_takeOperator 93 = .ok (.aload_n 0, 1) := by decide +kernel
theorem d_Lk_takeOperator_94 : decode b_Lk_takeOperator 94 = .ok (.getfield 60, 3) := by decide +kernel
theorem d_Lk_takeOperator_97 : decode b_Lk_takeOperator 97 = .ok (.iconst 1, 1) := by decide +kernel
theorem d_Lk_takeOperator_98 : decode b_Lk_takeOperator 98 = .ok (.iadd, 1) := by decide +kernel
theorem d_Lk_takeOperator_99 : decode b_Lk_takeOperator 99 = .ok (.iaload, 1) := by decide +kernel
theorem d_Lk_takeOperator_100 : decode b_Lk_takeOperator 100 = .ok (.goto 4, 3) := by decide +kernel
theorem d_Lk_takeOperator_103 : decode b_Lk_takeOperator 103 = .ok (.iconst (-1), 1) := by decide +kernel
theorem d_Lk_takeOperator_104 : decode b_Lk_takeOperator 104 = .ok (.iastore, 1) := by decide +kernel
theorem d_Lk_takeOperator_105 : decode b_Lk_takeOperator 105 = .ok (.aload_n 0, 1) := by decide +kernel
theorem d_Lk_takeOperator_106 : decode b_Lk_takeOperator 106 = .ok (.getfield 38, 3) := by decide +kernel
theorem d_Lk_takeOperator_109 : decode b_Lk_takeOperator 109 = .ok (.getfield 171, 3) := by decide +kernel
theorem d_Lk_takeOperator_112 : decode b_Lk_takeOperator 112 = .ok (.iload 6, 2) := by decide +kernel
theorem d_Lk_takeOperator_114 : decode b_Lk_takeOperator 114 = .ok (.iload 4, 2) := by decide +kernel
theorem d_Lk_takeOperator_116 : decode b_Lk_takeOperator 116 = .ok (.iconst 2, 1) := by decide +kernel
theorem d_Lk_takeOperator_117 : decode b_Lk_takeOperator 117 = .ok (.if_icmp .le 17, 3) := by decide +kernel
theorem d_Lk_takeOperator_120 : decode b_Lk_takeOperator 120 = .ok (.aload_n 0, 1) := by decide +kernel
theorem d_Lk_takeOperator_121 : decode b_Lk_takeOperator 121 = .ok (.getfield 27, 3) := by decide +kernel
theorem d_Lk_takeOperator_124 : decode b_Lk_takeOperator 124 = .ok (.aload_n 0, 1) := by decide +kernel
theorem d_Lk_takeOperator_125 : decode b_Lk_takeOperator 125 = .ok (.getfield 60, 3) := by decide +kernel
theorem d_Lk_takeOperator_128 : decode b_Lk_takeOperator 128 = .ok (.iconst 2, 1) := by decide +kernel
theorem d_Lk_takeOperator_129 : decode b_Lk_takeOperator 129 = .ok (.iadd, 1) := by decide +kernel
theorem d_Lk_takeOperator_130 : decode b_Lk_takeOperator 130 = .ok (.iaload, 1) := by decide +kernel
theorem d_Lk_takeOperator_131 : decode b_Lk_takeOperator 131 = .ok (.goto 4, 3) := by decide +kernel
theorem d_Lk_takeOperator_134 : decode b_Lk_takeOperator 134 = .ok (.iconst (-1), 1) := by decide +kernel
theorem d_Lk_takeOperator_135 : decode b_Lk_takeOperator 135 = .ok (.iastore, 1) := by decide +kernel
theorem d_Lk_takeOperator_136 : decode b_Lk_takeOperator 136 = .ok (.iload_n 3, 1) := by decide +kernel
theorem d_Lk_takeOperator_137 : decode b_Lk_takeOperator 137 = .ok (.bipush 35, 2) := by decide +kernel
theorem d_Lk_takeOperator_139 : decode b_Lk_takeOperator 139 = .ok (.if_icmp .ne 36, 3) := by decide +kernel
theorem d_Lk_takeOperator_142 : decode b_Lk_takeOperator 142 = .ok (.aload_n 0, 1) := by decide +kernel
theorem d_Lk_takeOperator_143 : decode b_Lk_takeOperator 143 = .ok (.getfield 38, 3) := by decide +kernel
theorem d_Lk_takeOperator_146 : decode b_Lk_takeOperator 146 = .ok (.aload_n 0, 1) := by decide +kernel
theorem d_Lk_takeOperator_147 : decode b_Lk_takeOperator 147 = .ok (.getfield 38, 3) := by decide +kernel
theorem d_Lk_takeOperator_150 : decode b_Lk_takeOperator 150 = .ok (.getfield 134, 3) := by decide +kernel
theorem d_Lk_takeOperator_153 : decode b_Lk_takeOperator 153 = .ok (.iload 6, 2) := by decide +kernel
theorem d_Lk_takeOperator_155 : decode b_Lk_takeOperator 155 = .ok (.iaload, 1) := by decide +kernel
theorem d_Lk_takeOperator_156 : decode b_Lk_takeOperator 156 = .ok (.iload 5, 2) := by decide +kernel
theorem d_Lk_takeOperator_158 : decode b_Lk_takeOperator 158 = .ok (.invokevirtual 174, 3) := by decide +kernel
theorem d_Lk_takeOperator_161 : decode b_Lk_takeOperator 161 = .ok (.aload_n 0, 1) := by decide +kernel
theorem d_Lk_takeOperator_162 : decode b_Lk_takeOperator 162 = .ok (.getfield 38, 3) := by decide +kernel
theorem d_Lk_takeOperator_165 : decode b_Lk_takeOperator 165 = .ok (.getfield 134, 3) := by decide +kernel
theorem d_Lk_takeOperator_168 : decode b_Lk_takeOperator 168 = .ok (.iload 6, 2) := by decide +kernel
theorem d_Lk_takeOperator_170 : decode b_Lk_takeOperator 170 = .ok (.iconst (-1), 1) := by decide +kernel
theorem d_Lk_takeOperator_171 : decode b_Lk_takeOperator 171 = .ok (.iastore, 1) := by decide +kernel
theorem d_Lk_takeOperator_172 : decode b_Lk_takeOperator 172 = .ok (.goto 117, 3) := by decide +kernel
theorem d_Lk_takeOperator_175 : decode b_Lk_takeOperator 175 = .ok (.iload_n 3, 1) := by decide +kernel
theorem d_Lk_takeOperator_176 : decode b_Lk_takeOperator 176 = .ok (.bipush 18, 2) := by decide +kernel
theorem d_Lk_takeOperator_178 : decode b_Lk_takeOperator 178 = .ok (.if_icmp .ne 19, 3) := by decide +kernel
theorem d_Lk_takeOperator_181 : decode b_Lk_takeOperator 181 = .ok (.aload_n 0, 1) := by decide +kernel
theorem d_Lk_takeOperator_182 : decode b_Lk_takeOperator 182 = .ok (.getfield 38, 3) := by decide +kernel
theorem d_Lk_takeOperator_185 : decode b_Lk_takeOperator 185 = .ok (.aload_n 0, 1) := by decide +kernel
theorem d_Lk_takeOperator_186 : decode b_Lk_takeOperator 186 = .ok (.getfield 70, 3) := by decide +kernel
theorem d_Lk_takeOperator_189 : decode b_Lk_takeOperator 189 = .ok (.iload 5, 2) := by decide +kernel
theorem d_Lk_takeOperator_191 : decode b_Lk_takeOperator 191 = .ok (.invokevirtual 174, 3) := by decide +kernel
theorem d_Lk_takeOperator_194 : decode b_Lk_takeOperator 194 = .ok (.goto 95, 3) := by decide +kernel
theorem d_Lk_takeOperator_197 : decode b_Lk_takeOperator 197 = .ok (.iload_n 3, 1) := by decide +kernel
theorem d_Lk_takeOperator_198 : decode b_Lk_takeOperator 198 = .ok (.bipush 37, 2) := by decide +kernel
theorem d_Lk_takeOperator_200 : decode b_Lk_takeOperator 200 = .ok (.if_icmp .ne 49, 3) := by decide +kernel
theorem d_Lk_takeOperator_203 : decode b_Lk_takeOperator 203 = .ok (.aload_n 0, 1) := by decide +kernel
theorem d_Lk_takeOperator_204 : decode b_Lk_takeOperator 204 = .ok (.getfield 38, 3) := by decide +kernel
theorem d_Lk_takeOperator_207 : decode b_Lk_takeOperator 207 = .ok (.aload_n 0, 1) := by decide +kernel
theorem d_Lk_takeOperator_208 : decode b_Lk_takeOperator 208 = .ok (.getfield 70, 3) := by decide +kernel
theorem d_Lk_takeOperator_211 : decode b_Lk_takeOperator 211 = .ok (.iload 5, 2) := by decide +kernel
theorem d_Lk_takeOperator_213 : decode b_Lk_takeOperator 213 = .ok (.invokevirtual 174, 3) := by decide +kernel
theorem d_Lk_takeOperator_216 : decode b_Lk_takeOperator 216 = .ok (.aload_n 0, 1) := by decide +kernel
theorem d_Lk_takeOperator_217 : decode b_Lk_takeOperator 217 = .ok (.getfield 38, 3) := by decide +kernel
theorem d_Lk_takeOperator_220 : decode b_Lk_takeOperator 220 = .ok (.aload_n 0, 1) := by decide +kernel
theorem d_Lk_takeOperator_221 : decode b_Lk_takeOperator 221 = .ok (.getfield 38, 3) := by decide +kernel
theorem d_Lk_takeOperator_224 : decode b_Lk_takeOperator 224 = .ok (.getfield 115, 3) := by decide +kernel
theorem d_Lk_takeOperator_227 : decode b_Lk_takeOperator 227 = .ok (.iload 6, 2) := by decide +kernel
theorem d_Lk_takeOperator_229 : decode b_Lk_takeOperator 229 = .ok (.iaload, 1) := by decide +kernel
theorem d_Lk_takeOperator_230 : decode b_Lk_takeOperator 230 = .ok (.iload 5, 2) := by decide +kernel
theorem d_Lk_takeOperator_232 : decode b_Lk_takeOperator 232 = .ok (.invokevirtual 174, 3) := by decide +kernel
theorem d_Lk_takeOperator_235 : decode b_Lk_takeOperator 235 = .ok (.aload_n 0, 1) := by decide +kernel
theorem d_Lk_takeOperator_236 : decode b_Lk_takeOperator 236 = .ok (.getfield 38, 3) := by decide +kernel
theorem d_Lk_takeOperator_239 : decode b_Lk_takeOperator 239 = .ok (.getfield 115, 3) := by decide +kernel
theorem d_Lk_takeOperator_242 : decode b_Lk_takeOperator 242 = .ok (.iload 6, 2) := by decide +kernel
theorem d_Lk_takeOperator_244 : decode b_Lk_takeOperator 244 = .ok (.iconst (-1), 1) := by decide +kernel
theorem d_Lk_takeOperator_245 : decode b_Lk_takeOperator 245 = .ok (.iastore, 1) := by decide +kernel
theorem d_Lk_takeOperator_246 : decode b_Lk_takeOperator 246 = .ok (.goto 43, 3) := by decide +kernel
theorem d_Lk_takeOperator_249 : decode b_Lk_takeOperator 249 = .ok (.iload_n 3, 1) := by decide +kernel
theorem d_Lk_takeOperator_250 : decode b_Lk_takeOperator 250 = .ok (.bipush 36, 2) := by decide +kernel
theorem d_Lk_takeOperator_252 : decode b_Lk_takeOperator 252 = .ok (.if_icmp .ne 37, 3) := by decide +kernel
theorem d_Lk_takeOperator_255 : decode b_Lk_takeOperator 255 = .ok (.aload_n 0, 1) := by decide +kernel
theorem d_Lk_takeOperator_256 : decode b_Lk_takeOperator 256 = .ok (.getfield 38, 3) := by decide +kernel
theorem d_Lk_takeOperator_259 : decode b_Lk_takeOperator 259 = .ok (.aload_n 0, 1) := by decide +kernel
theorem d_Lk_takeOperator_260 : decode b_Lk_takeOperator 260 = .ok (.getfield 38, 3) := by decide +kernel
theorem d_Lk_takeOperator_263 : decode b_Lk_takeOperator 263 = .ok (.getfield 134, 3) := by decide +kernel
theorem d_Lk_takeOperator_266 : decode b_Lk_takeOperator 266 = .ok (.iload 6, 2) := by decide +kernel
theorem d_Lk_takeOperator_268 : decode b_Lk_takeOperator 268 = .ok (.iaload, 1) := by decide +kernel
theorem d_Lk_takeOperator_269 : decode b_Lk_takeOperator 269 = .ok (.iload 5, 2) := by decide +kernel
theorem d_Lk_takeOperator_271 : decode b_Lk_takeOperator 271 = .ok (.invokevirtual 174, 3) := by decide +kernel
theorem d_Lk_takeOperator_274 : decode b_Lk_takeOperator 274 = .ok (.aload_n 0, 1) := by decide +kernel
theorem d_Lk_takeOperator_275 : decode b_Lk_takeOperator 275 = .ok (.getfield 38, 3) := by decide +kernel
theorem d_Lk_takeOperator_278 : decode b_Lk_takeOperator 278 = .ok (.getfield 115, 3) := by decide +kernel
theorem d_Lk_takeOperator_281 : decode b_Lk_takeOperator 281 = .ok (.iload 6, 2) := by decide +kernel
theorem d_Lk_takeOperator_283 : decode b_Lk_takeOperator 283 = .ok (.iload 5, 2) := by decide +kernel
theorem d_Lk_takeOperator_285 : decode b_Lk_takeOperator 285 = .ok (.invokestatic 118, 3) := by decide +kernel
theorem d_Lk_takeOperator_288 : decode b_Lk_takeOperator 288 = .ok (.iastore, 1) := by decide +kernel
theorem d_Lk_takeOperator_289 : decode b_Lk_takeOperator 289 = .ok (.aload_n 0, 1) := by decide +kernel
theorem d_Lk_takeOperator_290 : decode b_Lk_takeOperator 290 = .ok (.iload 6, 2) := by decide +kernel
theorem d_Lk_takeOperator_292 : decode b_Lk_takeOperator 292 = .ok (.invokevirtual 149, 3) := by decide +kernel
theorem d_Lk_takeOperator_295 : decode b_Lk_takeOperator 295 = .ok (.return_, 1) := by decide +kernel
abbrev mt_Lk_takeOperator : MT := (R_Lk, b_Lk_takeOperator, 7, none)
theorem vf_Lk_takeOperator : VF y_Lk_takeOperator mt_Lk_takeOperator 4 3 := ⟨im_Lk_takeOperator, se_Lk_takeOperator, in_Lk, co_Lk_takeOperator, by decide +kernel, _, _, rfl⟩
def f_Lk_takeOperator_b289 (γ : St) (x1 : Int) : Option (Int × St) :=
  bndN (f_Lk_push γ x1) fun _ γ3 =>
  some (0, γ3)
def f_Lk_takeOperator_b135 (γ : St) (x4 : Int) (x5 : Int) (x6 : Int) (x7 : Int) (x8 : Int) : Option (Int × St) :=
  chk (inb x8 9001) (ap (setA γ 57 x8 x7) fun γ9 =>
  if x4 ≠ 35 then
  (if x4 ≠ 18 then
  (if x4 ≠ 37 then
  (if x4 ≠ 36 then
  (f_Lk_takeOperator_b289 γ9 x6)
  else
  (chk (inb x6 9001) (bndN (f_Sl_addCell γ9 (γ9 55 x6) x5) fun _ γ15 =>
  bndN (f_Sl_slotOfC γ15 x5) fun r18 γ19 =>
  chk (inb x6 9001) (ap (setA γ19 56 x6 r18) fun γ20 =>
  f_Lk_takeOperator_b289 γ20 x6))))
  else
  (bndN (f_Sl_addCell γ9 (γ9 9 12) x5) fun _ γ24 =>
  chk (inb x6 9001) (bndN (f_Sl_addCell γ24 (γ24 56 x6) x5) fun _ γ30 =>
  chk (inb x6 9001) (ap (setA γ30 56 x6 (-1)) fun γ33 =>
  f_Lk_takeOperator_b289 γ33 x6))))
  else
  (bndN (f_Sl_addCell γ9 (γ9 9 12) x5) fun _ γ37 =>
  f_Lk_takeOperator_b289 γ37 x6))
  else
  (chk (inb x6 9001) (bndN (f_Sl_addCell γ9 (γ9 55 x6) x5) fun _ γ43 =>
  chk (inb x6 9001) (ap (setA γ43 55 x6 (-1)) fun γ46 =>
  f_Lk_takeOperator_b289 γ46 x6))))
def f_Lk_takeOperator_b104 (γ : St) (x47 : Int) (x48 : Int) (x49 : Int) (x50 : Int) (x51 : Int) (x52 : Int) : Option (Int × St) :=
  chk (inb x52 9001) (ap (setA γ 56 x52 x51) fun γ53 =>
  if x48 ≤ 2 then
  (f_Lk_takeOperator_b135 γ53 x47 x49 x50 (-1) x50)
  else
  (chk (i32 ((γ53 9 10) + 2)) (chk (inb ((γ53 9 10) + 2) 9000) (f_Lk_takeOperator_b135 γ53 x47 x49 x50 (γ53 68 ((γ53 9 10) + 2)) x50))))
def f_Lk_takeOperator (γ : St) (a0 : Int) (a1 : Int) (a2 : Int) : Option (Int × St) :=
  chk (inb a1 65537) (ap (γ 40 a1) fun x63 =>
  chk (inb a1 65537) (bndN (f_Lk_putInClock γ a0 (γ 41 a1)) fun r67 γ68 =>
  chk (i32 ((γ68 9 10) - x63)) (ap (setA γ68 9 10 ((γ68 9 10) - x63)) fun γ71 =>
  bndN (f_Sl_add γ71 a2 (γ71 8 11)) fun r75 γ76 =>
  chk (inb (γ76 9 10) 9000) (chk (inb r75 9001) (ap (setA γ76 55 r75 (γ76 68 (γ76 9 10))) fun γ82 =>
  if x63 ≤ 1 then
  (f_Lk_takeOperator_b104 γ82 a2 x63 r67 r75 (-1) r75)
  else
  (chk (i32 ((γ82 9 10) + 1)) (chk (inb ((γ82 9 10) + 1) 9000) (f_Lk_takeOperator_b104 γ82 a2 x63 r67 r75 (γ82 68 ((γ82 9 10) + 1)) r75))))))))
set_option maxHeartbeats 4000000 in
theorem s_Lk_takeOperator_b289 {Γ : Ctx} : ∀ (γ : St) (x1 : Int), i32 x1 → SB Γ BS mt_Lk_takeOperator (RmN 8 285) 0 0 (KN Γ BS mt_Lk_takeOperator.2.2.2) 289 [(0, vR Γ 9), (6, vI x1)] [] γ (f_Lk_takeOperator_b289 γ x1) := by
  intro γ x1 hx1
  unfold f_Lk_takeOperator_b289
  refine sb_aload_n 0 d_Lk_takeOperator_289 rfl ?_
  refine sb_iload 1 d_Lk_takeOperator_290 rfl ?_
  refine sb_cVv vf_Lk_push (c_Lk_push γ x1 hx1) rfl ml_Lk_149 (As := [vI x1]) rfl rfl (Nat.le_of_ble_eq_true rfl) ⟨by decide, by decide⟩ d_Lk_takeOperator_292 (fun _ γ3 => ?_)
  exact sn_v rfl d_Lk_takeOperator_295
set_option maxHeartbeats 4000000 in
theorem s_Lk_takeOperator_b135 {Γ : Ctx} : ∀ (γ : St) (x4 : Int) (x5 : Int) (x6 : Int) (x7 : Int) (x8 : Int), i32 x4 → i32 x5 → i32 x6 → i32 x7 → i32 x8 → SB Γ BS mt_Lk_takeOperator (RmN 8 285) 0 0 (KN Γ BS mt_Lk_takeOperator.2.2.2) 135 [(0, vR Γ 9), (3, vI x4), (5, vI x5), (6, vI x6)] [vI x7, vI x8, vR Γ 57] γ (f_Lk_takeOperator_b135 γ x4 x5 x6 x7 x8) := by
  intro γ x4 x5 x6 x7 x8 hx4 hx5 hx6 hx7 hx8
  unfold f_Lk_takeOperator_b135
  refine as_S_57 hx7 d_Lk_takeOperator_135 (fun _ => ?_)
  refine sb_aps (fun γ9 => ?_)
  refine sb_iload_n 1 d_Lk_takeOperator_136 rfl ?_
  refine sb_bipush d_Lk_takeOperator_137 (by decide) ?_
  refine sb_icmp_ne 175 hx4 (by decide) d_Lk_takeOperator_139 (by decide) (fun _ => ?_) (fun _ => ?_)
  · refine sb_iload_n 1 d_Lk_takeOperator_175 rfl ?_
    refine sb_bipush d_Lk_takeOperator_176 (by decide) ?_
    refine sb_icmp_ne 197 hx4 (by decide) d_Lk_takeOperator_178 (by decide) (fun _ => ?_) (fun _ => ?_)
    · refine sb_iload_n 1 d_Lk_takeOperator_197 rfl ?_
      refine sb_bipush d_Lk_takeOperator_198 (by decide) ?_
      refine sb_icmp_ne 249 hx4 (by decide) d_Lk_takeOperator_200 (by decide) (fun _ => ?_) (fun _ => ?_)
      · refine sb_iload_n 1 d_Lk_takeOperator_249 rfl ?_
        refine sb_bipush d_Lk_takeOperator_250 (by decide) ?_
        refine sb_icmp_ne 289 hx4 (by decide) d_Lk_takeOperator_252 (by decide) (fun _ => ?_) (fun _ => ?_)
        · exact sb_lv [0, 3] rfl (s_Lk_takeOperator_b289 γ9 x6 hx6)
        · refine sb_aload_n 0 d_Lk_takeOperator_255 rfl ?_
          refine g_Lk_38 d_Lk_takeOperator_256 ?_
          refine sb_aload_n 0 d_Lk_takeOperator_259 rfl ?_
          refine g_Lk_38 d_Lk_takeOperator_260 ?_
          refine g_Lk_134 d_Lk_takeOperator_263 ?_
          refine sb_iload 3 d_Lk_takeOperator_266 rfl ?_
          refine al_S_55 d_Lk_takeOperator_268 (fun _ c13 => ?_)
          refine sb_iload 2 d_Lk_takeOperator_269 rfl ?_
          refine sb_cVv vf_Sl_addCell (c_Sl_addCell γ9 (γ9 55 x6) x5 c13 hx5) rfl ml_Lk_174 (As := [vI (γ9 55 x6), vI x5]) rfl rfl (Nat.le_of_ble_eq_true rfl) ⟨by decide, by decide⟩ d_Lk_takeOperator_271 (fun _ γ15 => ?_)
          refine sb_aload_n 0 d_Lk_takeOperator_274 rfl ?_
          refine g_Lk_38 d_Lk_takeOperator_275 ?_
          refine g_Lk_115 d_Lk_takeOperator_278 ?_
          refine sb_iload 3 d_Lk_takeOperator_281 rfl ?_
          refine sb_iload 2 d_Lk_takeOperator_283 rfl ?_
          refine sb_cJi vf_Sl_slotOfC (c_Sl_slotOfC γ15 x5 hx5) ml_Lk_118 (As := [vI x5]) rfl rfl (Nat.le_of_ble_eq_true rfl) ⟨by decide, by decide⟩ d_Lk_takeOperator_285 (fun r18 γ19 hr18 => ?_)
          refine as_S_56 hr18 d_Lk_takeOperator_288 (fun _ => ?_)
          refine sb_aps (fun γ20 => ?_)
          exact sb_lv [0, 3] rfl (s_Lk_takeOperator_b289 γ20 x6 hx6)
      · refine sb_aload_n 0 d_Lk_takeOperator_203 rfl ?_
        refine g_Lk_38 d_Lk_takeOperator_204 ?_
        refine sb_aload_n 0 d_Lk_takeOperator_207 rfl ?_
        refine g_Lk_70 d_Lk_takeOperator_208 (fun c22 => ?_)
        refine sb_iload 2 d_Lk_takeOperator_211 rfl ?_
        refine sb_cVv vf_Sl_addCell (c_Sl_addCell γ9 (γ9 9 12) x5 c22 hx5) rfl ml_Lk_174 (As := [vI (γ9 9 12), vI x5]) rfl rfl (Nat.le_of_ble_eq_true rfl) ⟨by decide, by decide⟩ d_Lk_takeOperator_213 (fun _ γ24 => ?_)
        refine sb_aload_n 0 d_Lk_takeOperator_216 rfl ?_
        refine g_Lk_38 d_Lk_takeOperator_217 ?_
        refine sb_aload_n 0 d_Lk_takeOperator_220 rfl ?_
        refine g_Lk_38 d_Lk_takeOperator_221 ?_
        refine g_Lk_115 d_Lk_takeOperator_224 ?_
        refine sb_iload 3 d_Lk_takeOperator_227 rfl ?_
        refine al_S_56 d_Lk_takeOperator_229 (fun _ c28 => ?_)
        refine sb_iload 2 d_Lk_takeOperator_230 rfl ?_
        refine sb_cVv vf_Sl_addCell (c_Sl_addCell γ24 (γ24 56 x6) x5 c28 hx5) rfl ml_Lk_174 (As := [vI (γ24 56 x6), vI x5]) rfl rfl (Nat.le_of_ble_eq_true rfl) ⟨by decide, by decide⟩ d_Lk_takeOperator_232 (fun _ γ30 => ?_)
        refine sb_aload_n 0 d_Lk_takeOperator_235 rfl ?_
        refine g_Lk_38 d_Lk_takeOperator_236 ?_
        refine g_Lk_115 d_Lk_takeOperator_239 ?_
        refine sb_iload 3 d_Lk_takeOperator_242 rfl ?_
        refine sb_iconst d_Lk_takeOperator_244 ?_
        refine as_S_56 (by decide) d_Lk_takeOperator_245 (fun _ => ?_)
        refine sb_aps (fun γ33 => ?_)
        refine sb_goto 289 d_Lk_takeOperator_246 (by decide) ?_
        exact sb_lv [0, 3] rfl (s_Lk_takeOperator_b289 γ33 x6 hx6)
    · refine sb_aload_n 0 d_Lk_takeOperator_181 rfl ?_
      refine g_Lk_38 d_Lk_takeOperator_182 ?_
      refine sb_aload_n 0 d_Lk_takeOperator_185 rfl ?_
      refine g_Lk_70 d_Lk_takeOperator_186 (fun c35 => ?_)
      refine sb_iload 2 d_Lk_takeOperator_189 rfl ?_
      refine sb_cVv vf_Sl_addCell (c_Sl_addCell γ9 (γ9 9 12) x5 c35 hx5) rfl ml_Lk_174 (As := [vI (γ9 9 12), vI x5]) rfl rfl (Nat.le_of_ble_eq_true rfl) ⟨by decide, by decide⟩ d_Lk_takeOperator_191 (fun _ γ37 => ?_)
      refine sb_goto 289 d_Lk_takeOperator_194 (by decide) ?_
      exact sb_lv [0, 3] rfl (s_Lk_takeOperator_b289 γ37 x6 hx6)
  · refine sb_aload_n 0 d_Lk_takeOperator_142 rfl ?_
    refine g_Lk_38 d_Lk_takeOperator_143 ?_
    refine sb_aload_n 0 d_Lk_takeOperator_146 rfl ?_
    refine g_Lk_38 d_Lk_takeOperator_147 ?_
    refine g_Lk_134 d_Lk_takeOperator_150 ?_
    refine sb_iload 3 d_Lk_takeOperator_153 rfl ?_
    refine al_S_55 d_Lk_takeOperator_155 (fun _ c41 => ?_)
    refine sb_iload 2 d_Lk_takeOperator_156 rfl ?_
    refine sb_cVv vf_Sl_addCell (c_Sl_addCell γ9 (γ9 55 x6) x5 c41 hx5) rfl ml_Lk_174 (As := [vI (γ9 55 x6), vI x5]) rfl rfl (Nat.le_of_ble_eq_true rfl) ⟨by decide, by decide⟩ d_Lk_takeOperator_158 (fun _ γ43 => ?_)
    refine sb_aload_n 0 d_Lk_takeOperator_161 rfl ?_
    refine g_Lk_38 d_Lk_takeOperator_162 ?_
    refine g_Lk_134 d_Lk_takeOperator_165 ?_
    refine sb_iload 3 d_Lk_takeOperator_168 rfl ?_
    refine sb_iconst d_Lk_takeOperator_170 ?_
    refine as_S_55 (by decide) d_Lk_takeOperator_171 (fun _ => ?_)
    refine sb_aps (fun γ46 => ?_)
    refine sb_goto 289 d_Lk_takeOperator_172 (by decide) ?_
    exact sb_lv [0, 3] rfl (s_Lk_takeOperator_b289 γ46 x6 hx6)
set_option maxHeartbeats 4000000 in
theorem s_Lk_takeOperator_b104 {Γ : Ctx} : ∀ (γ : St) (x47 : Int) (x48 : Int) (x49 : Int) (x50 : Int) (x51 : Int) (x52 : Int), i32 x47 → i32 x48 → i32 x49 → i32 x50 → i32 x51 → i32 x52 → SB Γ BS mt_Lk_takeOperator (RmN 8 285) 0 0 (KN Γ BS mt_Lk_takeOperator.2.2.2) 104 [(0, vR Γ 9), (3, vI x47), (4, vI x48), (5, vI x49), (6, vI x50)] [vI x51, vI x52, vR Γ 56] γ (f_Lk_takeOperator_b104 γ x47 x48 x49 x50 x51 x52) := by
  intro γ x47 x48 x49 x50 x51 x52 hx47 hx48 hx49 hx50 hx51 hx52
  unfold f_Lk_takeOperator_b104
  refine as_S_56 hx51 d_Lk_takeOperator_104 (fun _ => ?_)
  refine sb_aps (fun γ53 => ?_)
  refine sb_aload_n 0 d_Lk_takeOperator_105 rfl ?_
  refine g_Lk_38 d_Lk_takeOperator_106 ?_
  refine g_Lk_171 d_Lk_takeOperator_109 ?_
  refine sb_iload 4 d_Lk_takeOperator_112 rfl ?_
  refine sb_iload 2 d_Lk_takeOperator_114 rfl ?_
  refine sb_iconst d_Lk_takeOperator_116 ?_
  refine sb_icmp_le 134 hx48 (by decide) d_Lk_takeOperator_117 (by decide) (fun _ => ?_) (fun _ => ?_)
  · refine sb_iconst d_Lk_takeOperator_134 ?_
    exact sb_lv [0, 1, 3, 4] rfl (s_Lk_takeOperator_b135 γ53 x47 x49 x50 (-1) x50 hx47 hx49 hx50 (by decide) hx50)
  · refine sb_aload_n 0 d_Lk_takeOperator_120 rfl ?_
    refine g_Lk_27 d_Lk_takeOperator_121 ?_
    refine sb_aload_n 0 d_Lk_takeOperator_124 rfl ?_
    refine g_Lk_60 d_Lk_takeOperator_125 (fun c57 => ?_)
    refine sb_iconst d_Lk_takeOperator_128 ?_
    refine sb_iadd d_Lk_takeOperator_129 ?_
    refine sb_chk (fun c58 => ?_)
    refine al_S_68 d_Lk_takeOperator_130 (fun _ c59 => ?_)
    refine sb_goto 135 d_Lk_takeOperator_131 (by decide) ?_
    exact sb_lv [0, 1, 3, 4] rfl (s_Lk_takeOperator_b135 γ53 x47 x49 x50 (γ53 68 ((γ53 9 10) + 2)) x50 hx47 hx49 hx50 c59 hx50)
set_option maxHeartbeats 4000000 in
theorem c_Lk_takeOperator {Γ : Ctx} (γ : St) (a0 : Int) (a1 : Int) (a2 : Int) (ha0 : i32 a0) (ha1 : i32 a1) (ha2 : i32 a2) : NC Γ BS y_Lk_takeOperator mt_Lk_takeOperator 8 285 [vR Γ 9, vI a0, vI a1, vI a2] γ (f_Lk_takeOperator γ a0 a1 a2) := by
  refine nc_of (by decide) rfl (Nat.le_of_ble_eq_true rfl) ?_
  show SB Γ BS mt_Lk_takeOperator (RmN 8 285) 0 0 (KN Γ BS mt_Lk_takeOperator.2.2.2) 0 [(0, vR Γ 9), (1, vI a0), (2, vI a1), (3, vI a2)] [] γ _
  unfold f_Lk_takeOperator
  refine sb_aload_n 0 d_Lk_takeOperator_0 rfl ?_
  refine g_Lk_34 d_Lk_takeOperator_1 ?_
  refine g_Lk_165 d_Lk_takeOperator_4 ?_
  refine sb_iload_n 2 d_Lk_takeOperator_7 rfl ?_
  refine al_S_40 d_Lk_takeOperator_8 (fun _ c62 => ?_)
  refine sb_istore [(4, vI (γ 40 a1)), (0, vR Γ 9), (1, vI a0), (2, vI a1), (3, vI a2)] d_Lk_takeOperator_9 (by decide) rfl ?_
  refine sb_nme (e := γ 40 a1) (fun x63 => [(4, vI x63), (0, vR Γ 9), (1, vI a0), (2, vI a1), (3, vI a2)]) c62 (fun x63 hx63 => ?_)
  refine sb_aload_n 1 d_Lk_takeOperator_11 rfl ?_
  refine sb_iload_n 2 d_Lk_takeOperator_12 rfl ?_
  refine sb_aload_n 1 d_Lk_takeOperator_13 rfl ?_
  refine g_Lk_34 d_Lk_takeOperator_14 ?_
  refine g_Lk_158 d_Lk_takeOperator_17 ?_
  refine sb_iload_n 3 d_Lk_takeOperator_20 rfl ?_
  refine al_S_41 d_Lk_takeOperator_21 (fun _ c66 => ?_)
  refine sb_cVi vf_Lk_putInClock (c_Lk_putInClock γ a0 (γ 41 a1) ha0 c66) rfl ml_Lk_112 (As := [vI a0, vI (γ 41 a1)]) rfl rfl (Nat.le_of_ble_eq_true rfl) ⟨by decide, by decide⟩ d_Lk_takeOperator_22 (fun r67 γ68 hr67 => ?_)
  refine sb_istore [(5, vI r67), (4, vI x63), (0, vR Γ 9), (1, vI a0), (2, vI a1), (3, vI a2)] d_Lk_takeOperator_25 (by decide) rfl ?_
  refine sb_aload_n 2 d_Lk_takeOperator_27 rfl ?_
  refine sb_dup d_Lk_takeOperator_28 rfl ?_
  refine g_Lk_60 d_Lk_takeOperator_29 (fun c69 => ?_)
  refine sb_iload 1 d_Lk_takeOperator_32 rfl ?_
  refine sb_isub d_Lk_takeOperator_34 ?_
  refine sb_chk (fun c70 => ?_)
  refine p_Lk_60 c70 d_Lk_takeOperator_35 ?_
  refine sb_aps (fun γ71 => ?_)
  refine sb_aload_n 2 d_Lk_takeOperator_38 rfl ?_
  refine g_Lk_38 d_Lk_takeOperator_39 ?_
  refine sb_iload_n 5 d_Lk_takeOperator_42 rfl ?_
  refine sb_aload_n 2 d_Lk_takeOperator_43 rfl ?_
  refine g_Lk_38 d_Lk_takeOperator_44 ?_
  refine g_Lk_168 d_Lk_takeOperator_47 (fun c74 => ?_)
  refine sb_cVi vf_Sl_add (c_Sl_add γ71 a2 (γ71 8 11) ha2 c74) rfl ml_Lk_66 (As := [vI a2, vI (γ71 8 11)]) rfl rfl (Nat.le_of_ble_eq_true rfl) ⟨by decide, by decide⟩ d_Lk_takeOperator_50 (fun r75 γ76 hr75 => ?_)
  refine sb_istore [(6, vI r75), (5, vI r67), (4, vI x63), (0, vR Γ 9), (1, vI a0), (2, vI a1), (3, vI a2)] d_Lk_takeOperator_53 (by decide) rfl ?_
  refine sb_aload_n 3 d_Lk_takeOperator_55 rfl ?_
  refine g_Lk_38 d_Lk_takeOperator_56 ?_
  refine g_Lk_134 d_Lk_takeOperator_59 ?_
  refine sb_iload 0 d_Lk_takeOperator_62 rfl ?_
  refine sb_aload_n 3 d_Lk_takeOperator_64 rfl ?_
  refine g_Lk_27 d_Lk_takeOperator_65 ?_
  refine sb_aload_n 3 d_Lk_takeOperator_68 rfl ?_
  refine g_Lk_60 d_Lk_takeOperator_69 (fun c80 => ?_)
  refine al_S_68 d_Lk_takeOperator_72 (fun _ c81 => ?_)
  refine as_S_55 c81 d_Lk_takeOperator_73 (fun _ => ?_)
  refine sb_aps (fun γ82 => ?_)
  refine sb_aload_n 3 d_Lk_takeOperator_74 rfl ?_
  refine g_Lk_38 d_Lk_takeOperator_75 ?_
  refine g_Lk_115 d_Lk_takeOperator_78 ?_
  refine sb_iload 0 d_Lk_takeOperator_81 rfl ?_
  refine sb_iload 2 d_Lk_takeOperator_83 rfl ?_
  refine sb_iconst d_Lk_takeOperator_85 ?_
  refine sb_icmp_le 103 hx63 (by decide) d_Lk_takeOperator_86 (by decide) (fun _ => ?_) (fun _ => ?_)
  · refine sb_iconst d_Lk_takeOperator_103 ?_
    exact sb_lv [3, 6, 2, 1, 0] rfl (s_Lk_takeOperator_b104 γ82 a2 x63 r67 r75 (-1) r75 ha2 hx63 hr67 hr75 (by decide) hr75)
  · refine sb_aload_n 3 d_Lk_takeOperator_89 rfl ?_
    refine g_Lk_27 d_Lk_takeOperator_90 ?_
    refine sb_aload_n 3 d_Lk_takeOperator_93 rfl ?_
    refine g_Lk_60 d_Lk_takeOperator_94 (fun c86 => ?_)
    refine sb_iconst d_Lk_takeOperator_97 ?_
    refine sb_iadd d_Lk_takeOperator_98 ?_
    refine sb_chk (fun c87 => ?_)
    refine al_S_68 d_Lk_takeOperator_99 (fun _ c88 => ?_)
    refine sb_goto 104 d_Lk_takeOperator_100 (by decide) ?_
    exact sb_lv [3, 6, 2, 1, 0] rfl (s_Lk_takeOperator_b104 γ82 a2 x63 r67 r75 (γ82 68 ((γ82 9 10) + 1)) r75 ha2 hx63 hr67 hr75 c88 hr75)
theorem d_Lk_take_0 : decode b_Lk_take 0 = .ok (.aload_n 0, 1) := by decide +kernel
theorem d_Lk_take_1 : decode b_Lk_take 1 = .ok (.getfield 34, 3) := by decide +kernel
theorem d_Lk_take_4 : decode b_Lk_take 4 = .ok (.getfield 143, 3) := by decide +kernel
theorem d_Lk_take_7 : decode b_Lk_take 7 = .ok (.iload_n 2, 1) := by decide +kernel
theorem d_Lk_take_8 : decode b_Lk_take 8 = .ok (.iaload, 1) := by decide +kernel
theorem d_Lk_take_9 : decode b_Lk_take 9 = .ok (.istore_n 3, 1) := by decide +kernel
theorem d_Lk_take_10 : decode b_Lk_take 10 = .ok (.iload_n 3, 1) := by decide +kernel
theorem d_Lk_take_11 : decode b_Lk_take 11 = .ok (.lookupswitch 116 #[(2, 57), (3, 80), (27, 104), (40, 80), (41, 80), (43, 107)], 57) := by decide +kernel
theorem d_Lk_take_68 : decode b_Lk_take 68 = .ok (.aload_n 0, 1) := by decide +kernel
theorem d_Lk_take_69 : decode b_Lk_take 69 = .ok (.aload_n 0, 1) := by decide +kernel
theorem d_Lk_take_70 : decode b_Lk_take 70 = .ok (.getfield 15, 3) := by decide +kernel
theorem d_Lk_take_73 : decode b_Lk_take 73 = .ok (.iload_n 1, 1) := by decide +kernel
theorem d_Lk_take_74 : decode b_Lk_take 74 = .ok (.iaload, 1) := by decide +kernel
theorem d_Lk_take_75 : decode b_Lk_take 75 = .ok (.aload_n 0, 1) := by decide +kernel
theorem d_Lk_take_76 : decode b_Lk_take 76 = .ok (.getfield 34, 3) := by decide +kernel
theorem d_Lk_take_79 : decode b_Lk_take 79 = .ok (.getfield 146, 3) := by decide +kernel
theorem d_Lk_take_82 : decode b_Lk_take 82 = .ok (.iload_n 2, 1) := by decide +kernel
theorem d_Lk_take_83 : decode b_Lk_take 83 = .ok (.iaload, 1) := by decide +kernel
theorem d_Lk_take_84 : decode b_Lk_take 84 = .ok (.iadd, 1) := by decide +kernel
theorem d_Lk_take_85 : decode b_Lk_take 85 = .ok (.invokevirtual 149, 3) := by decide +kernel
theorem d_Lk_take_88 : decode b_Lk_take 88 = .ok (.goto 46, 3) := by decide +kernel
theorem d_Lk_take_91 : decode b_Lk_take 91 = .ok (.aload_n 0, 1) := by decide +kernel
theorem d_Lk_take_92 : decode b_Lk_take 92 = .ok (.aload_n 0, 1) := by decide +kernel
theorem d_Lk_take_93 : decode b_Lk_take 93 = .ok (.getfield 38, 3) := by decide +kernel
theorem d_Lk_take_96 : decode b_Lk_take 96 = .ok (.iconst 3, 1) := by decide +kernel
theorem d_Lk_take_97 : decode b_Lk_take 97 = .ok (.aload_n 0, 1) := by decide +kernel
theorem d_Lk_take_98 : decode b_Lk_take 98 = .ok (.getfield 34, 3) := by decide +kernel
theorem d_Lk_take_101 : decode b_Lk_take 101 = .ok (.getfield 146, 3) := by decide +kernel
theorem d_Lk_take_104 : decode b_Lk_take 104 = .ok (.iload_n 2, 1) := by decide +kernel
theorem d_Lk_take_105 : decode b_Lk_take 105 = .ok (.iaload, 1) := by decide +kernel
theorem d_Lk_take_106 : decode b_Lk_take 106 = .ok (.invokevirtual 66, 3) := by decide +kernel
theorem d_Lk_take_109 : decode b_Lk_take 109 = .ok (.invokevirtual 149, 3) := by decide +kernel
theorem d_Lk_take_112 : decode b_Lk_take 112 = .ok (.goto 22, 3) := by decide +kernel
theorem d_Lk_take_115 : decode b_Lk_take 115 = .ok (.goto 19, 3) := by decide +kernel
theorem d_Lk_take_118 : decode b_Lk_take 118 = .ok (.aload_n 0, 1) := by decide +kernel
theorem d_Lk_take_119 : decode b_Lk_take 119 = .ok (.iload_n 1, 1) := by decide +kernel
theorem d_Lk_take_120 : decode b_Lk_take 120 = .ok (.iload_n 2, 1) := by decide +kernel
theorem d_Lk_take_121 : decode b_Lk_take 121 = .ok (.invokevirtual 152, 3) := by decide +kernel
theorem d_Lk_take_124 : decode b_Lk_take 124 = .ok (.goto 10, 3) := by decide +kernel
theorem d_Lk_take_127 : decode b_Lk_take 127 = .ok (.aload_n 0, 1) := by decide +kernel
theorem d_Lk_take_128 : decode b_Lk_take 128 = .ok (.iload_n 1, 1) := by decide +kernel
theorem d_Lk_take_129 : decode b_Lk_take 129 = .ok (.iload_n 2, 1) := by decide +kernel
theorem d_Lk_take_130 : decode b_Lk_take 130 = .ok (.iload_n 3, 1) := by decide +kernel
theorem d_Lk_take_131 : decode b_Lk_take 131 = .ok (.invokevirtual 155, 3) := by decide +kernel
theorem d_Lk_take_134 : decode b_Lk_take 134 = .ok (.return_, 1) := by decide +kernel
abbrev mt_Lk_take : MT := (R_Lk, b_Lk_take, 4, none)
theorem vf_Lk_take : VF y_Lk_take mt_Lk_take 4 2 := ⟨im_Lk_take, se_Lk_take, in_Lk, co_Lk_take, by decide +kernel, _, _, rfl⟩
def f_Lk_take (γ : St) (a0 : Int) (a1 : Int) : Option (Int × St) :=
  chk (inb a1 65537) (ap (γ 38 a1) fun x4 =>
  if x4 = 2 then
  (chk (inb a0 59) (chk (inb a1 65537) (chk (i32 ((γ 64 a0) + (γ 39 a1))) (bndN (f_Lk_push γ ((γ 64 a0) + (γ 39 a1))) fun _ γ12 =>
  some (0, γ12)))))
  else if x4 = 3 then
  (chk (inb a1 65537) (bndN (f_Sl_add γ 3 (γ 39 a1)) fun r18 γ19 =>
  bndN (f_Lk_push γ19 r18) fun _ γ21 =>
  some (0, γ21)))
  else if x4 = 27 then
  (some (0, γ))
  else if x4 = 40 then
  (chk (inb a1 65537) (bndN (f_Sl_add γ 3 (γ 39 a1)) fun r28 γ29 =>
  bndN (f_Lk_push γ29 r28) fun _ γ31 =>
  some (0, γ31)))
  else if x4 = 41 then
  (chk (inb a1 65537) (bndN (f_Sl_add γ 3 (γ 39 a1)) fun r37 γ38 =>
  bndN (f_Lk_push γ38 r37) fun _ γ40 =>
  some (0, γ40)))
  else if x4 = 43 then
  (bndN (f_Lk_takeCall γ a0 a1) fun _ γ43 =>
  some (0, γ43))
  else (bndN (f_Lk_takeOperator γ a0 a1 x4) fun _ γ46 =>
  some (0, γ46)))
set_option maxHeartbeats 4000000 in
theorem c_Lk_take {Γ : Ctx} (γ : St) (a0 : Int) (a1 : Int) (ha0 : i32 a0) (ha1 : i32 a1) : NC Γ BS y_Lk_take mt_Lk_take 9 315 [vR Γ 9, vI a0, vI a1] γ (f_Lk_take γ a0 a1) := by
  refine nc_of (by decide) rfl (Nat.le_of_ble_eq_true rfl) ?_
  show SB Γ BS mt_Lk_take (RmN 9 315) 0 0 (KN Γ BS mt_Lk_take.2.2.2) 0 [(0, vR Γ 9), (1, vI a0), (2, vI a1)] [] γ _
  unfold f_Lk_take
  refine sb_aload_n 0 d_Lk_take_0 rfl ?_
  refine g_Lk_34 d_Lk_take_1 ?_
  refine g_Lk_143 d_Lk_take_4 ?_
  refine sb_iload_n 2 d_Lk_take_7 rfl ?_
  refine al_S_38 d_Lk_take_8 (fun _ c3 => ?_)
  refine sb_istore_n [(3, vI (γ 38 a1)), (0, vR Γ 9), (1, vI a0), (2, vI a1)] d_Lk_take_9 (by decide) rfl ?_
  refine sb_nme (e := γ 38 a1) (fun x4 => [(3, vI x4), (0, vR Γ 9), (1, vI a0), (2, vI a1)]) c3 (fun x4 hx4 => ?_)
  refine sb_iload_n 0 d_Lk_take_10 rfl ?_
  refine sb_lc (off := 57) 2 68 hx4 d_Lk_take_11 (by decide) (by decide) (fun _ => ?_) (fun n13 => ?_)
  · refine sb_aload_n 1 d_Lk_take_68 rfl ?_
    refine sb_aload_n 1 d_Lk_take_69 rfl ?_
    refine g_Lk_15 d_Lk_take_70 ?_
    refine sb_iload_n 2 d_Lk_take_73 rfl ?_
    refine al_S_64 d_Lk_take_74 (fun _ c6 => ?_)
    refine sb_aload_n 1 d_Lk_take_75 rfl ?_
    refine g_Lk_34 d_Lk_take_76 ?_
    refine g_Lk_146 d_Lk_take_79 ?_
    refine sb_iload_n 3 d_Lk_take_82 rfl ?_
    refine al_S_39 d_Lk_take_83 (fun _ c9 => ?_)
    refine sb_iadd d_Lk_take_84 ?_
    refine sb_chk (fun c10 => ?_)
    refine sb_cVv vf_Lk_push (c_Lk_push γ ((γ 64 a0) + (γ 39 a1)) c10) rfl ml_Lk_149 (As := [vI ((γ 64 a0) + (γ 39 a1))]) rfl rfl (Nat.le_of_ble_eq_true rfl) ⟨by decide, by decide⟩ d_Lk_take_85 (fun _ γ12 => ?_)
    refine sb_goto 134 d_Lk_take_88 (by decide) ?_
    exact sn_v rfl d_Lk_take_134
  refine sb_lc (off := 80) 3 91 hx4 d_Lk_take_11 (by decide) (by decide) (fun _ => ?_) (fun n22 => ?_)
  · refine sb_aload_n 1 d_Lk_take_91 rfl ?_
    refine sb_aload_n 1 d_Lk_take_92 rfl ?_
    refine g_Lk_38 d_Lk_take_93 ?_
    refine sb_iconst d_Lk_take_96 ?_
    refine sb_aload_n 1 d_Lk_take_97 rfl ?_
    refine g_Lk_34 d_Lk_take_98 ?_
    refine g_Lk_146 d_Lk_take_101 ?_
    refine sb_iload_n 3 d_Lk_take_104 rfl ?_
    refine al_S_39 d_Lk_take_105 (fun _ c17 => ?_)
    refine sb_cVi vf_Sl_add (c_Sl_add γ 3 (γ 39 a1) (by decide) c17) rfl ml_Lk_66 (As := [vI 3, vI (γ 39 a1)]) rfl rfl (Nat.le_of_ble_eq_true rfl) ⟨by decide, by decide⟩ d_Lk_take_106 (fun r18 γ19 hr18 => ?_)
    refine sb_cVv vf_Lk_push (c_Lk_push γ19 r18 hr18) rfl ml_Lk_149 (As := [vI r18]) rfl rfl (Nat.le_of_ble_eq_true rfl) ⟨by decide, by decide⟩ d_Lk_take_109 (fun _ γ21 => ?_)
    refine sb_goto 134 d_Lk_take_112 (by decide) ?_
    exact sn_v rfl d_Lk_take_134
  refine sb_lc (off := 104) 27 115 hx4 d_Lk_take_11 (by decide) (by decide) (fun _ => ?_) (fun n23 => ?_)
  · refine sb_goto 134 d_Lk_take_115 (by decide) ?_
    exact sn_v rfl d_Lk_take_134
  refine sb_lc (off := 80) 40 91 hx4 d_Lk_take_11 (by decide) (by decide) (fun _ => ?_) (fun n32 => ?_)
  · refine sb_aload_n 1 d_Lk_take_91 rfl ?_
    refine sb_aload_n 1 d_Lk_take_92 rfl ?_
    refine g_Lk_38 d_Lk_take_93 ?_
    refine sb_iconst d_Lk_take_96 ?_
    refine sb_aload_n 1 d_Lk_take_97 rfl ?_
    refine g_Lk_34 d_Lk_take_98 ?_
    refine g_Lk_146 d_Lk_take_101 ?_
    refine sb_iload_n 3 d_Lk_take_104 rfl ?_
    refine al_S_39 d_Lk_take_105 (fun _ c27 => ?_)
    refine sb_cVi vf_Sl_add (c_Sl_add γ 3 (γ 39 a1) (by decide) c27) rfl ml_Lk_66 (As := [vI 3, vI (γ 39 a1)]) rfl rfl (Nat.le_of_ble_eq_true rfl) ⟨by decide, by decide⟩ d_Lk_take_106 (fun r28 γ29 hr28 => ?_)
    refine sb_cVv vf_Lk_push (c_Lk_push γ29 r28 hr28) rfl ml_Lk_149 (As := [vI r28]) rfl rfl (Nat.le_of_ble_eq_true rfl) ⟨by decide, by decide⟩ d_Lk_take_109 (fun _ γ31 => ?_)
    refine sb_goto 134 d_Lk_take_112 (by decide) ?_
    exact sn_v rfl d_Lk_take_134
  refine sb_lc (off := 80) 41 91 hx4 d_Lk_take_11 (by decide) (by decide) (fun _ => ?_) (fun n41 => ?_)
  · refine sb_aload_n 1 d_Lk_take_91 rfl ?_
    refine sb_aload_n 1 d_Lk_take_92 rfl ?_
    refine g_Lk_38 d_Lk_take_93 ?_
    refine sb_iconst d_Lk_take_96 ?_
    refine sb_aload_n 1 d_Lk_take_97 rfl ?_
    refine g_Lk_34 d_Lk_take_98 ?_
    refine g_Lk_146 d_Lk_take_101 ?_
    refine sb_iload_n 3 d_Lk_take_104 rfl ?_
    refine al_S_39 d_Lk_take_105 (fun _ c36 => ?_)
    refine sb_cVi vf_Sl_add (c_Sl_add γ 3 (γ 39 a1) (by decide) c36) rfl ml_Lk_66 (As := [vI 3, vI (γ 39 a1)]) rfl rfl (Nat.le_of_ble_eq_true rfl) ⟨by decide, by decide⟩ d_Lk_take_106 (fun r37 γ38 hr37 => ?_)
    refine sb_cVv vf_Lk_push (c_Lk_push γ38 r37 hr37) rfl ml_Lk_149 (As := [vI r37]) rfl rfl (Nat.le_of_ble_eq_true rfl) ⟨by decide, by decide⟩ d_Lk_take_109 (fun _ γ40 => ?_)
    refine sb_goto 134 d_Lk_take_112 (by decide) ?_
    exact sn_v rfl d_Lk_take_134
  refine sb_lc (off := 107) 43 118 hx4 d_Lk_take_11 (by decide) (by decide) (fun _ => ?_) (fun n44 => ?_)
  · refine sb_aload_n 1 d_Lk_take_118 rfl ?_
    refine sb_iload_n 2 d_Lk_take_119 rfl ?_
    refine sb_iload_n 3 d_Lk_take_120 rfl ?_
    refine sb_cVv vf_Lk_takeCall (c_Lk_takeCall γ a0 a1 ha0 ha1) rfl ml_Lk_152 (As := [vI a0, vI a1]) rfl rfl (Nat.le_of_ble_eq_true rfl) ⟨by decide, by decide⟩ d_Lk_take_121 (fun _ γ43 => ?_)
    refine sb_goto 134 d_Lk_take_124 (by decide) ?_
    exact sn_v rfl d_Lk_take_134
  refine sb_ld 127 hx4 d_Lk_take_11 (by decide) (lk_cons n13 (lk_cons n22 (lk_cons n23 (lk_cons n32 (lk_cons n41 (lk_cons n44 (fun _ h9 => absurd h9 List.not_mem_nil))))))) (by decide) ?_
  refine sb_aload_n 1 d_Lk_take_127 rfl ?_
  refine sb_iload_n 2 d_Lk_take_128 rfl ?_
  refine sb_iload_n 3 d_Lk_take_129 rfl ?_
  refine sb_iload_n 0 d_Lk_take_130 rfl ?_
  refine sb_cVv vf_Lk_takeOperator (c_Lk_takeOperator γ a0 a1 x4 ha0 ha1 hx4) rfl ml_Lk_155 (As := [vI a0, vI a1, vI x4]) rfl rfl (Nat.le_of_ble_eq_true rfl) ⟨by decide, by decide⟩ d_Lk_take_131 (fun _ γ46 => ?_)
  exact sn_v rfl d_Lk_take_134
theorem d_Lk_define_0 : decode b_Lk_define 0 = .ok (.aload_n 0, 1) := by decide +kernel
theorem d_Lk_define_1 : decode b_Lk_define 1 = .ok (.getfield 34, 3) := by decide +kernel
theorem d_Lk_define_4 : decode b_Lk_define 4 = .ok (.getfield 131, 3) := by decide +kernel
theorem d_Lk_define_7 : decode b_Lk_define 7 = .ok (.iload_n 2, 1) := by decide +kernel
theorem d_Lk_define_8 : decode b_Lk_define 8 = .ok (.iaload, 1) := by decide +kernel
theorem d_Lk_define_9 : decode b_Lk_define 9 = .ok (.istore_n 3, 1) := by decide +kernel
theorem d_Lk_define_10 : decode b_Lk_define 10 = .ok (.aload_n 0, 1) := by decide +kernel
theorem d_Lk_define_11 : decode b_Lk_define 11 = .ok (.dup, 1) := by decide +kernel
theorem d_Lk_define_12 : decode b_Lk_define 12 = .ok (.getfield 60, 3) := by decide +kernel
theorem d_Lk_define_15 : decode b_Lk_define 15 = .ok (.iload_n 3, 1) := by decide +kernel
theorem d_Lk_define_16 : decode b_Lk_define 16 = .ok (.isub, 1) := by decide +kernel
theorem d_Lk_define_17 : decode b_Lk_define 17 = .ok (.putfield 60, 3) := by decide +kernel
theorem d_Lk_define_20 : decode b_Lk_define 20 = .ok (.iconst 0, 1) := by decide +kernel
theorem d_Lk_define_21 : decode b_Lk_define 21 = .ok (.istore 4, 2) := by decide +kernel
theorem d_Lk_define_23 : decode b_Lk_define 23 = .ok (.iload 4, 2) := by decide +kernel
theorem d_Lk_define_25 : decode b_Lk_define 25 = .ok (.iload_n 3, 1) := by decide +kernel
theorem d_Lk_define_26 : decode b_Lk_define 26 = .ok (.if_icmp .ge 56, 3) := by decide +kernel
theorem d_Lk_define_29 : decode b_Lk_define 29 = .ok (.aload_n 0, 1) := by decide +kernel
theorem d_Lk_define_30 : decode b_Lk_define 30 = .ok (.getfield 38, 3) := by decide +kernel
theorem d_Lk_define_33 : decode b_Lk_define 33 = .ok (.getfield 134, 3) := by decide +kernel
theorem d_Lk_define_36 : decode b_Lk_define 36 = .ok (.aload_n 0, 1) := by decide +kernel
theorem d_Lk_define_37 : decode b_Lk_define 37 = .ok (.getfield 15, 3) := by decide +kernel
theorem d_Lk_define_40 : decode b_Lk_define 40 = .ok (.iload_n 1, 1) := by decide +kernel
theorem d_Lk_define_41 : decode b_Lk_define 41 = .ok (.iaload, 1) := by decide +kernel
theorem d_Lk_define_42 : decode b_Lk_define 42 = .ok (.aload_n 0, 1) := by decide +kernel
theorem d_Lk_define_43 : decode b_Lk_define 43 = .ok (.getfield 34, 3) := by decide +kernel
theorem d_Lk_define_46 : decode b_Lk_define 46 = .ok (.getfield 137, 3) := by decide +kernel
theorem d_Lk_define_49 : decode b_Lk_define 49 = .ok (.aload_n 0, 1) := by decide +kernel
theorem d_Lk_define_50 : decode b_Lk_define 50 = .ok (.getfield 34, 3) := by decide +kernel
theorem d_Lk_define_53 : decode b_Lk_define 53 = .ok (.getfield 140, 3) := by decide +kernel
theorem d_Lk_define_56 : decode b_Lk_define 56 = .ok (.iload_n 2, 1) := by decide +kernel
theorem d_Lk_define_57 : decode b_Lk_define 57 = .ok (.iaload, 1) := by decide +kernel
theorem d_Lk_define_58 : decode b_Lk_define 58 = .ok (.iload 4, 2) := by decide +kernel
theorem d_Lk_define_60 : decode b_Lk_define 60 = .ok (.iadd, 1) := by decide +kernel
theorem d_Lk_define_61 : decode b_Lk_define 61 = .ok (.iaload, 1) := by decide +kernel
theorem d_Lk_define_62 : decode b_Lk_define 62 = .ok (.iadd, 1) := by decide +kernel
theorem d_Lk_define_63 : decode b_Lk_define 63 = .ok (.aload_n 0, 1) := by decide +kernel
theorem d_Lk_define_64 : decode b_Lk_define 64 = .ok (.getfield 27, 3) := by decide +kernel
theorem d_Lk_define_67 : decode b_Lk_define 67 = .ok (.aload_n 0, 1) := by decide +kernel
theorem d_Lk_define_68 : decode b_Lk_define 68 = .ok (.getfield 60, 3) := by decide +kernel
theorem d_Lk_define_71 : decode b_Lk_define 71 = .ok (.iload 4, 2) := by decide +kernel
theorem d_Lk_define_73 : decode b_Lk_define 73 = .ok (.iadd, 1) := by decide +kernel
theorem d_Lk_define_74 : decode b_Lk_define 74 = .ok (.iaload, 1) := by decide +kernel
theorem d_Lk_define_75 : decode b_Lk_define 75 = .ok (.iastore, 1) := by decide +kernel
theorem d_Lk_define_76 : decode b_Lk_define 76 = .ok (.iinc 4 1, 3) := by decide +kernel
theorem d_Lk_define_79 : decode b_Lk_define 79 = .ok (.goto (-56), 3) := by decide +kernel
theorem d_Lk_define_82 : decode b_Lk_define 82 = .ok (.return_, 1) := by decide +kernel
abbrev mt_Lk_define : MT := (R_Lk, b_Lk_define, 5, none)
theorem vf_Lk_define : VF y_Lk_define mt_Lk_define 4 2 := ⟨im_Lk_define, se_Lk_define, in_Lk, co_Lk_define, by decide +kernel, _, _, rfl⟩
def f_Lk_define_L23 : Nat → St → Int → Int → Int → Int → Option (Int × St)
  | 0, _, _, _, _, _ => none
  | n + 1, γ, x1, x2, x3, x4 =>
  if x3 ≤ x4 then
  (some (0, γ))
  else
  (chk (inb x1 59) (chk (inb x2 16385) (chk (i32 ((γ 45 x2) + x4)) (chk (inb ((γ 45 x2) + x4) 32769) (chk (i32 ((γ 64 x1) + (γ 47 ((γ 45 x2) + x4)))) (chk (i32 ((γ 9 10) + x4)) (chk (inb ((γ 9 10) + x4) 9000) (chk (inb ((γ 64 x1) + (γ 47 ((γ 45 x2) + x4))) 9001) (ap (setA γ 55 ((γ 64 x1) + (γ 47 ((γ 45 x2) + x4))) (γ 68 ((γ 9 10) + x4))) fun γ21 =>
  chk (i32 (x4 + 1)) ((f_Lk_define_L23 n) γ21 x1 x2 x3 (x4 + 1)))))))))))
def f_Lk_define (γ : St) (a0 : Int) (a1 : Int) : Option (Int × St) :=
  chk (inb a1 16385) (ap (γ 46 a1) fun x26 =>
  chk (i32 ((γ 9 10) - x26)) (ap (setA γ 9 10 ((γ 9 10) - x26)) fun γ29 =>
  f_Lk_define_L23  FU γ29 a0 a1 x26 0))
set_option maxHeartbeats 4000000 in
theorem s_Lk_define_L23 {Γ : Ctx} : ∀ (n : Nat) (γ : St) (x1 : Int) (x2 : Int) (x3 : Int) (x4 : Int), i32 x1 → i32 x2 → i32 x3 → i32 x4 → SB Γ BS mt_Lk_define (RmN 6 240) 0 0 (KN Γ BS mt_Lk_define.2.2.2) 23 [(0, vR Γ 9), (1, vI x1), (2, vI x2), (3, vI x3), (4, vI x4)] [] γ (f_Lk_define_L23 n γ x1 x2 x3 x4) := by
  intro n
  induction n with
  | zero => intros; exact sb_none
  | succ n ih =>
    intro γ x1 x2 x3 x4 hx1 hx2 hx3 hx4
    unfold f_Lk_define_L23
    refine sb_iload 4 d_Lk_define_23 rfl ?_
    refine sb_iload_n 3 d_Lk_define_25 rfl ?_
    refine sb_icmp_ge 82 hx4 hx3 d_Lk_define_26 (by decide) (fun _ => ?_) (fun _ => ?_)
    · exact sn_v rfl d_Lk_define_82
    · refine sb_aload_n 0 d_Lk_define_29 rfl ?_
      refine g_Lk_38 d_Lk_define_30 ?_
      refine g_Lk_134 d_Lk_define_33 ?_
      refine sb_aload_n 0 d_Lk_define_36 rfl ?_
      refine g_Lk_15 d_Lk_define_37 ?_
      refine sb_iload_n 1 d_Lk_define_40 rfl ?_
      refine al_S_64 d_Lk_define_41 (fun _ c8 => ?_)
      refine sb_aload_n 0 d_Lk_define_42 rfl ?_
      refine g_Lk_34 d_Lk_define_43 ?_
      refine g_Lk_137 d_Lk_define_46 ?_
      refine sb_aload_n 0 d_Lk_define_49 rfl ?_
      refine g_Lk_34 d_Lk_define_50 ?_
      refine g_Lk_140 d_Lk_define_53 ?_
      refine sb_iload_n 2 d_Lk_define_56 rfl ?_
      refine al_S_45 d_Lk_define_57 (fun _ c13 => ?_)
      refine sb_iload 4 d_Lk_define_58 rfl ?_
      refine sb_iadd d_Lk_define_60 ?_
      refine sb_chk (fun c14 => ?_)
      refine al_S_47 d_Lk_define_61 (fun _ c15 => ?_)
      refine sb_iadd d_Lk_define_62 ?_
      refine sb_chk (fun c16 => ?_)
      refine sb_aload_n 0 d_Lk_define_63 rfl ?_
      refine g_Lk_27 d_Lk_define_64 ?_
      refine sb_aload_n 0 d_Lk_define_67 rfl ?_
      refine g_Lk_60 d_Lk_define_68 (fun c18 => ?_)
      refine sb_iload 4 d_Lk_define_71 rfl ?_
      refine sb_iadd d_Lk_define_73 ?_
      refine sb_chk (fun c19 => ?_)
      refine al_S_68 d_Lk_define_74 (fun _ c20 => ?_)
      refine as_S_55 c20 d_Lk_define_75 (fun _ => ?_)
      refine sb_aps (fun γ21 => ?_)
      refine sb_iinc 4 [(4, vI (x4 + 1)), (0, vR Γ 9), (1, vI x1), (2, vI x2), (3, vI x3)] d_Lk_define_76 rfl (by decide) rfl ?_
      refine sb_chk (fun c22 => ?_)
      refine sb_goto 23 d_Lk_define_79 (by decide) ?_
      exact sb_lv [1, 2, 3, 4, 0] rfl (ih γ21 x1 x2 x3 (x4 + 1) hx1 hx2 hx3 c22)
set_option maxHeartbeats 4000000 in
theorem c_Lk_define {Γ : Ctx} (γ : St) (a0 : Int) (a1 : Int) (ha0 : i32 a0) (ha1 : i32 a1) : NC Γ BS y_Lk_define mt_Lk_define 6 240 [vR Γ 9, vI a0, vI a1] γ (f_Lk_define γ a0 a1) := by
  refine nc_of (by decide) rfl (Nat.le_of_ble_eq_true rfl) ?_
  show SB Γ BS mt_Lk_define (RmN 6 240) 0 0 (KN Γ BS mt_Lk_define.2.2.2) 0 [(0, vR Γ 9), (1, vI a0), (2, vI a1)] [] γ _
  unfold f_Lk_define
  refine sb_aload_n 0 d_Lk_define_0 rfl ?_
  refine g_Lk_34 d_Lk_define_1 ?_
  refine g_Lk_131 d_Lk_define_4 ?_
  refine sb_iload_n 2 d_Lk_define_7 rfl ?_
  refine al_S_46 d_Lk_define_8 (fun _ c25 => ?_)
  refine sb_istore_n [(3, vI (γ 46 a1)), (0, vR Γ 9), (1, vI a0), (2, vI a1)] d_Lk_define_9 (by decide) rfl ?_
  refine sb_nme (e := γ 46 a1) (fun x26 => [(3, vI x26), (0, vR Γ 9), (1, vI a0), (2, vI a1)]) c25 (fun x26 hx26 => ?_)
  refine sb_aload_n 1 d_Lk_define_10 rfl ?_
  refine sb_dup d_Lk_define_11 rfl ?_
  refine g_Lk_60 d_Lk_define_12 (fun c27 => ?_)
  refine sb_iload_n 0 d_Lk_define_15 rfl ?_
  refine sb_isub d_Lk_define_16 ?_
  refine sb_chk (fun c28 => ?_)
  refine p_Lk_60 c28 d_Lk_define_17 ?_
  refine sb_aps (fun γ29 => ?_)
  refine sb_iconst d_Lk_define_20 ?_
  refine sb_istore [(4, vI 0), (3, vI x26), (0, vR Γ 9), (1, vI a0), (2, vI a1)] d_Lk_define_21 (by decide) rfl ?_
  exact sb_lv [2, 3, 4, 1, 0] rfl (s_Lk_define_L23  FU γ29 a0 a1 x26 0 ha0 ha1 hx26 (by decide))
theorem d_Lk_goOn_0 : decode b_Lk_goOn 0 = .ok (.aload_n 0, 1) := by decide +kernel
theorem d_Lk_goOn_1 : decode b_Lk_goOn 1 = .ok (.getfield 21, 3) := by decide +kernel
theorem d_Lk_goOn_4 : decode b_Lk_goOn 4 = .ok (.iload_n 1, 1) := by decide +kernel
theorem d_Lk_goOn_5 : decode b_Lk_goOn 5 = .ok (.iaload, 1) := by decide +kernel
theorem d_Lk_goOn_6 : decode b_Lk_goOn 6 = .ok (.istore_n 2, 1) := by decide +kernel
theorem d_Lk_goOn_7 : decode b_Lk_goOn 7 = .ok (.aload_n 0, 1) := by decide +kernel
theorem d_Lk_goOn_8 : decode b_Lk_goOn 8 = .ok (.getfield 9, 3) := by decide +kernel
theorem d_Lk_goOn_11 : decode b_Lk_goOn 11 = .ok (.iload_n 1, 1) := by decide +kernel
theorem d_Lk_goOn_12 : decode b_Lk_goOn 12 = .ok (.iaload, 1) := by decide +kernel
theorem d_Lk_goOn_13 : decode b_Lk_goOn 13 = .ok (.istore_n 3, 1) := by decide +kernel
theorem d_Lk_goOn_14 : decode b_Lk_goOn 14 = .ok (.iload_n 2, 1) := by decide +kernel
theorem d_Lk_goOn_15 : decode b_Lk_goOn 15 = .ok (.aload_n 0, 1) := by decide +kernel
theorem d_Lk_goOn_16 : decode b_Lk_goOn 16 = .ok (.getfield 30, 3) := by decide +kernel
theorem d_Lk_goOn_19 : decode b_Lk_goOn 19 = .ok (.getfield 80, 3) := by decide +kernel
theorem d_Lk_goOn_22 : decode b_Lk_goOn 22 = .ok (.iload_n 3, 1) := by decide +kernel
theorem d_Lk_goOn_23 : decode b_Lk_goOn 23 = .ok (.iaload, 1) := by decide +kernel
theorem d_Lk_goOn_24 : decode b_Lk_goOn 24 = .ok (.aload_n 0, 1) := by decide +kernel
theorem d_Lk_goOn_25 : decode b_Lk_goOn 25 = .ok (.getfield 30, 3) := by decide +kernel
theorem d_Lk_goOn_28 : decode b_Lk_goOn 28 = .ok (.getfield 83, 3) := by decide +kernel
theorem d_Lk_goOn_31 : decode b_Lk_goOn 31 = .ok (.iload_n 3, 1) := by decide +kernel
theorem d_Lk_goOn_32 : decode b_Lk_goOn 32 = .ok (.iaload, 1) := by decide +kernel
theorem d_Lk_goOn_33 : decode b_Lk_goOn 33 = .ok (.iadd, 1) := by decide +kernel
theorem d_Lk_goOn_34 : decode b_Lk_goOn 34 = .ok (.if_icmp .ne 16, 3) := by decide +kernel
theorem d_Lk_goOn_37 : decode b_Lk_goOn 37 = .ok (.aload_n 0, 1) := by decide +kernel
theorem d_Lk_goOn_38 : decode b_Lk_goOn 38 = .ok (.dup, 1) := by decide +kernel
theorem d_Lk_goOn_39 : decode b_Lk_goOn 39 = .ok (.getfield 56, 3) := by decide +kernel
theorem d_Lk_goOn_42 : decode b_Lk_goOn 42 = .ok (.iconst 1, 1) := by decide +kernel
theorem d_Lk_goOn_43 : decode b_Lk_goOn 43 = .ok (.isub, 1) := by decide +kernel
theorem d_Lk_goOn_44 : decode b_Lk_goOn 44 = .ok (.putfield 56, 3) := by decide +kernel
theorem d_Lk_goOn_47 : decode b_Lk_goOn 47 = .ok (.goto 63, 3) := by decide +kernel
theorem d_Lk_goOn_50 : decode b_Lk_goOn 50 = .ok (.aload_n 0, 1) := by decide +kernel
theorem d_Lk_goOn_51 : decode b_Lk_goOn 51 = .ok (.getfield 24, 3) := by decide +kernel
theorem d_Lk_goOn_54 : decode b_Lk_goOn 54 = .ok (.iload_n 1, 1) := by decide +kernel
theorem d_Lk_goOn_55 : decode b_Lk_goOn 55 = .ok (.iaload, 1) := by decide +kernel
theorem d_Lk_goOn_56 : decode b_Lk_goOn 56 = .ok (.aload_n 0, 1) := by decide +kernel
theorem d_Lk_goOn_57 : decode b_Lk_goOn 57 = .ok (.getfield 34, 3) := by decide +kernel
theorem d_Lk_goOn_60 : decode b_Lk_goOn 60 = .ok (.getfield 86, 3) := by decide +kernel
theorem d_Lk_goOn_63 : decode b_Lk_goOn 63 = .ok (.iload_n 2, 1) := by decide +kernel
theorem d_Lk_goOn_64 : decode b_Lk_goOn 64 = .ok (.iaload, 1) := by decide +kernel
theorem d_Lk_goOn_65 : decode b_Lk_goOn 65 = .ok (.if_icmp .ge 29, 3) := by decide +kernel
theorem d_Lk_goOn_68 : decode b_Lk_goOn 68 = .ok (.aload_n 0, 1) := by decide +kernel
theorem d_Lk_goOn_69 : decode b_Lk_goOn 69 = .ok (.getfield 24, 3) := by decide +kernel
theorem d_Lk_goOn_72 : decode b_Lk_goOn 72 = .ok (.iload_n 1, 1) := by decide +kernel
theorem d_Lk_goOn_73 : decode b_Lk_goOn 73 = .ok (.dup2, 1) := by decide +kernel
theorem d_Lk_goOn_74 : decode b_Lk_goOn 74 = .ok (.iaload, 1) := by decide +kernel
theorem d_Lk_goOn_75 : decode b_Lk_goOn 75 = .ok (.iconst 1, 1) := by decide +kernel
theorem d_Lk_goOn_76 : decode b_Lk_goOn 76 = .ok (.iadd, 1) := by decide +kernel
theorem d_Lk_goOn_77 : decode b_Lk_goOn 77 = .ok (.iastore, 1) := by decide +kernel
theorem d_Lk_goOn_78 : decode b_Lk_goOn 78 = .ok (.aload_n 0, 1) := by decide +kernel
theorem d_Lk_goOn_79 : decode b_Lk_goOn 79 = .ok (.iload_n 1, 1) := by decide +kernel
theorem d_Lk_goOn_80 : decode b_Lk_goOn 80 = .ok (.aload_n 0, 1) := by decide +kernel
theorem d_Lk_goOn_81 : decode b_Lk_goOn 81 = .ok (.getfield 24, 3) := by decide +kernel
theorem d_Lk_goOn_84 : decode b_Lk_goOn 84 = .ok (.iload_n 1, 1) := by decide +kernel
theorem d_Lk_goOn_85 : decode b_Lk_goOn 85 = .ok (.iaload, 1) := by decide +kernel
theorem d_Lk_goOn_86 : decode b_Lk_goOn 86 = .ok (.iconst 1, 1) := by decide +kernel
theorem d_Lk_goOn_87 : decode b_Lk_goOn 87 = .ok (.isub, 1) := by decide +kernel
theorem d_Lk_goOn_88 : decode b_Lk_goOn 88 = .ok (.invokevirtual 91, 3) := by decide +kernel
theorem d_Lk_goOn_91 : decode b_Lk_goOn 91 = .ok (.goto 19, 3) := by decide +kernel
theorem d_Lk_goOn_94 : decode b_Lk_goOn 94 = .ok (.aload_n 0, 1) := by decide +kernel
theorem d_Lk_goOn_95 : decode b_Lk_goOn 95 = .ok (.iload_n 1, 1) := by decide +kernel
theorem d_Lk_goOn_96 : decode b_Lk_goOn 96 = .ok (.iload_n 2, 1) := by decide +kernel
theorem d_Lk_goOn_97 : decode b_Lk_goOn 97 = .ok (.invokevirtual 95, 3) := by decide +kernel
theorem d_Lk_goOn_100 : decode b_Lk_goOn 100 = .ok (.aload_n 0, 1) := by decide +kernel
theorem d_Lk_goOn_101 : decode b_Lk_goOn 101 = .ok (.getfield 21, 3) := by decide +kernel
theorem d_Lk_goOn_104 : decode b_Lk_goOn 104 = .ok (.iload_n 1, 1) := by decide +kernel
theorem d_Lk_goOn_105 : decode b_Lk_goOn 105 = .ok (.dup2, 1) := by decide +kernel
theorem d_Lk_goOn_106 : decode b_Lk_goOn 106 = .ok (.iaload, 1) := by decide +kernel
theorem d_Lk_goOn_107 : decode b_Lk_goOn 107 = .ok (.iconst 1, 1) := by decide +kernel
theorem d_Lk_goOn_108 : decode b_Lk_goOn 108 = .ok (.iadd, 1) := by decide +kernel
theorem d_Lk_goOn_109 : decode b_Lk_goOn 109 = .ok (.iastore, 1) := by decide +kernel
theorem d_Lk_goOn_110 : decode b_Lk_goOn 110 = .ok (.return_, 1) := by decide +kernel
abbrev mt_Lk_goOn : MT := (R_Lk, b_Lk_goOn, 4, none)
theorem vf_Lk_goOn : VF y_Lk_goOn mt_Lk_goOn 4 1 := ⟨im_Lk_goOn, se_Lk_goOn, in_Lk, co_Lk_goOn, by decide +kernel, _, _, rfl⟩
def f_Lk_goOn (γ : St) (a0 : Int) : Option (Int × St) :=
  chk (inb a0 59) (ap (γ 66 a0) fun x3 =>
  chk (inb a0 59) (ap (γ 63 a0) fun x6 =>
  chk (inb x6 59) (chk (inb x6 59) (chk (i32 ((γ 29 x6) + (γ 30 x6))) (if x3 ≠ ((γ 29 x6) + (γ 30 x6)) then
  (chk (inb a0 59) (chk (inb x3 16385) (if (γ 44 x3) ≤ (γ 67 a0) then
  (bndN (f_Lk_define γ a0 x3) fun _ γ20 =>
  chk (inb a0 59) (chk (i32 ((γ20 66 a0) + 1)) (chk (inb a0 59) (ap (setA γ20 66 a0 ((γ20 66 a0) + 1)) fun γ24 =>
  some (0, γ24)))))
  else
  (chk (inb a0 59) (chk (i32 ((γ 67 a0) + 1)) (chk (inb a0 59) (ap (setA γ 67 a0 ((γ 67 a0) + 1)) fun γ28 =>
  chk (inb a0 59) (chk (i32 ((γ28 67 a0) - 1)) (bndN (f_Lk_take γ28 a0 ((γ28 67 a0) - 1)) fun _ γ33 =>
  some (0, γ33))))))))))
  else
  (chk (i32 ((γ 9 8) - 1)) (ap (setA γ 9 8 ((γ 9 8) - 1)) fun γ36 =>
  some (0, γ36))))))))
set_option maxHeartbeats 4000000 in
theorem c_Lk_goOn {Γ : Ctx} (γ : St) (a0 : Int) (ha0 : i32 a0) : NC Γ BS y_Lk_goOn mt_Lk_goOn 10 338 [vR Γ 9, vI a0] γ (f_Lk_goOn γ a0) := by
  refine nc_of (by decide) rfl (Nat.le_of_ble_eq_true rfl) ?_
  show SB Γ BS mt_Lk_goOn (RmN 10 338) 0 0 (KN Γ BS mt_Lk_goOn.2.2.2) 0 [(0, vR Γ 9), (1, vI a0)] [] γ _
  unfold f_Lk_goOn
  refine sb_aload_n 0 d_Lk_goOn_0 rfl ?_
  refine g_Lk_21 d_Lk_goOn_1 ?_
  refine sb_iload_n 1 d_Lk_goOn_4 rfl ?_
  refine al_S_66 d_Lk_goOn_5 (fun _ c2 => ?_)
  refine sb_istore_n [(2, vI (γ 66 a0)), (0, vR Γ 9), (1, vI a0)] d_Lk_goOn_6 (by decide) rfl ?_
  refine sb_nme (e := γ 66 a0) (fun x3 => [(2, vI x3), (0, vR Γ 9), (1, vI a0)]) c2 (fun x3 hx3 => ?_)
  refine sb_aload_n 1 d_Lk_goOn_7 rfl ?_
  refine g_Lk_9 d_Lk_goOn_8 ?_
  refine sb_iload_n 2 d_Lk_goOn_11 rfl ?_
  refine al_S_63 d_Lk_goOn_12 (fun _ c5 => ?_)
  refine sb_istore_n [(3, vI (γ 63 a0)), (2, vI x3), (0, vR Γ 9), (1, vI a0)] d_Lk_goOn_13 (by decide) rfl ?_
  refine sb_nme (e := γ 63 a0) (fun x6 => [(3, vI x6), (2, vI x3), (0, vR Γ 9), (1, vI a0)]) c5 (fun x6 hx6 => ?_)
  refine sb_iload_n 1 d_Lk_goOn_14 rfl ?_
  refine sb_aload_n 2 d_Lk_goOn_15 rfl ?_
  refine g_Lk_30 d_Lk_goOn_16 ?_
  refine g_Lk_80 d_Lk_goOn_19 ?_
  refine sb_iload_n 0 d_Lk_goOn_22 rfl ?_
  refine al_S_29 d_Lk_goOn_23 (fun _ c9 => ?_)
  refine sb_aload_n 2 d_Lk_goOn_24 rfl ?_
  refine g_Lk_30 d_Lk_goOn_25 ?_
  refine g_Lk_83 d_Lk_goOn_28 ?_
  refine sb_iload_n 0 d_Lk_goOn_31 rfl ?_
  refine al_S_30 d_Lk_goOn_32 (fun _ c12 => ?_)
  refine sb_iadd d_Lk_goOn_33 ?_
  refine sb_chk (fun c13 => ?_)
  refine sb_icmp_ne 50 hx3 c13 d_Lk_goOn_34 (by decide) (fun _ => ?_) (fun _ => ?_)
  · refine sb_aload_n 2 d_Lk_goOn_50 rfl ?_
    refine g_Lk_24 d_Lk_goOn_51 ?_
    refine sb_iload_n 3 d_Lk_goOn_54 rfl ?_
    refine al_S_67 d_Lk_goOn_55 (fun _ c15 => ?_)
    refine sb_aload_n 2 d_Lk_goOn_56 rfl ?_
    refine g_Lk_34 d_Lk_goOn_57 ?_
    refine g_Lk_86 d_Lk_goOn_60 ?_
    refine sb_iload_n 1 d_Lk_goOn_63 rfl ?_
    refine al_S_44 d_Lk_goOn_64 (fun _ c18 => ?_)
    refine sb_icmp_ge 94 c15 c18 d_Lk_goOn_65 (by decide) (fun _ => ?_) (fun _ => ?_)
    · refine sb_aload_n 2 d_Lk_goOn_94 rfl ?_
      refine sb_iload_n 3 d_Lk_goOn_95 rfl ?_
      refine sb_iload_n 1 d_Lk_goOn_96 rfl ?_
      refine sb_cVv vf_Lk_define (c_Lk_define γ a0 x3 ha0 hx3) rfl ml_Lk_95 (As := [vI a0, vI x3]) rfl rfl (Nat.le_of_ble_eq_true rfl) ⟨by decide, by decide⟩ d_Lk_goOn_97 (fun _ γ20 => ?_)
      refine sb_aload_n 2 d_Lk_goOn_100 rfl ?_
      refine g_Lk_21 d_Lk_goOn_101 ?_
      refine sb_iload_n 3 d_Lk_goOn_104 rfl ?_
      refine sb_dup2 d_Lk_goOn_105 rfl rfl ?_
      refine al_S_66 d_Lk_goOn_106 (fun _ c22 => ?_)
      refine sb_iconst d_Lk_goOn_107 ?_
      refine sb_iadd d_Lk_goOn_108 ?_
      refine sb_chk (fun c23 => ?_)
      refine as_S_66 c23 d_Lk_goOn_109 (fun _ => ?_)
      refine sb_aps (fun γ24 => ?_)
      exact sn_v rfl d_Lk_goOn_110
    · refine sb_aload_n 2 d_Lk_goOn_68 rfl ?_
      refine g_Lk_24 d_Lk_goOn_69 ?_
      refine sb_iload_n 3 d_Lk_goOn_72 rfl ?_
      refine sb_dup2 d_Lk_goOn_73 rfl rfl ?_
      refine al_S_67 d_Lk_goOn_74 (fun _ c26 => ?_)
      refine sb_iconst d_Lk_goOn_75 ?_
      refine sb_iadd d_Lk_goOn_76 ?_
      refine sb_chk (fun c27 => ?_)
      refine as_S_67 c27 d_Lk_goOn_77 (fun _ => ?_)
      refine sb_aps (fun γ28 => ?_)
      refine sb_aload_n 2 d_Lk_goOn_78 rfl ?_
      refine sb_iload_n 3 d_Lk_goOn_79 rfl ?_
      refine sb_aload_n 2 d_Lk_goOn_80 rfl ?_
      refine g_Lk_24 d_Lk_goOn_81 ?_
      refine sb_iload_n 3 d_Lk_goOn_84 rfl ?_
      refine al_S_67 d_Lk_goOn_85 (fun _ c30 => ?_)
      refine sb_iconst d_Lk_goOn_86 ?_
      refine sb_isub d_Lk_goOn_87 ?_
      refine sb_chk (fun c31 => ?_)
      refine sb_cVv vf_Lk_take (c_Lk_take γ28 a0 ((γ28 67 a0) - 1) ha0 c31) rfl ml_Lk_91 (As := [vI a0, vI ((γ28 67 a0) - 1)]) rfl rfl (Nat.le_of_ble_eq_true rfl) ⟨by decide, by decide⟩ d_Lk_goOn_88 (fun _ γ33 => ?_)
      refine sb_goto 110 d_Lk_goOn_91 (by decide) ?_
      exact sn_v rfl d_Lk_goOn_110
  · refine sb_aload_n 2 d_Lk_goOn_37 rfl ?_
    refine sb_dup d_Lk_goOn_38 rfl ?_
    refine g_Lk_56 d_Lk_goOn_39 (fun c34 => ?_)
    refine sb_iconst d_Lk_goOn_42 ?_
    refine sb_isub d_Lk_goOn_43 ?_
    refine sb_chk (fun c35 => ?_)
    refine p_Lk_56 c35 d_Lk_goOn_44 ?_
    refine sb_aps (fun γ36 => ?_)
    refine sb_goto 110 d_Lk_goOn_47 (by decide) ?_
    exact sn_v rfl d_Lk_goOn_110
theorem d_Lk_link_0 : decode b_Lk_link 0 = .ok (.aload_n 0, 1) := by decide +kernel
theorem d_Lk_link_1 : decode b_Lk_link 1 = .ok (.getfield 30, 3) := by decide +kernel
theorem d_Lk_link_4 : decode b_Lk_link 4 = .ok (.getfield 42, 3) := by decide +kernel
theorem d_Lk_link_7 : decode b_Lk_link 7 = .ok (.iload_n 1, 1) := by decide +kernel
theorem d_Lk_link_8 : decode b_Lk_link 8 = .ok (.iaload, 1) := by decide +kernel
theorem d_Lk_link_9 : decode b_Lk_link 9 = .ok (.istore_n 2, 1) := by decide +kernel
theorem d_Lk_link_10 : decode b_Lk_link 10 = .ok (.aload_n 0, 1) := by decide +kernel
theorem d_Lk_link_11 : decode b_Lk_link 11 = .ok (.getfield 38, 3) := by decide +kernel
theorem d_Lk_link_14 : decode b_Lk_link 14 = .ok (.aload_n 0, 1) := by decide +kernel
theorem d_Lk_link_15 : decode b_Lk_link 15 = .ok (.getfield 30, 3) := by decide +kernel
theorem d_Lk_link_18 : decode b_Lk_link 18 = .ok (.getfield 47, 3) := by decide +kernel
theorem d_Lk_link_21 : decode b_Lk_link 21 = .ok (.iload_n 1, 1) := by decide +kernel
theorem d_Lk_link_22 : decode b_Lk_link 22 = .ok (.iaload, 1) := by decide +kernel
theorem d_Lk_link_23 : decode b_Lk_link 23 = .ok (.invokevirtual 50, 3) := by decide +kernel
theorem d_Lk_link_26 : decode b_Lk_link 26 = .ok (.aload_n 0, 1) := by decide +kernel
theorem d_Lk_link_27 : decode b_Lk_link 27 = .ok (.iconst 0, 1) := by decide +kernel
theorem d_Lk_link_28 : decode b_Lk_link 28 = .ok (.putfield 56, 3) := by decide +kernel
theorem d_Lk_link_31 : decode b_Lk_link 31 = .ok (.aload_n 0, 1) := by decide +kernel
theorem d_Lk_link_32 : decode b_Lk_link 32 = .ok (.iconst 0, 1) := by decide +kernel
theorem d_Lk_link_33 : decode b_Lk_link 33 = .ok (.putfield 60, 3) := by decide +kernel
theorem d_Lk_link_36 : decode b_Lk_link 36 = .ok (.aload_n 0, 1) := by decide +kernel
theorem d_Lk_link_37 : decode b_Lk_link 37 = .ok (.iconst 0, 1) := by decide +kernel
theorem d_Lk_link_38 : decode b_Lk_link 38 = .ok (.putfield 63, 3) := by decide +kernel
theorem d_Lk_link_41 : decode b_Lk_link 41 = .ok (.aload_n 0, 1) := by decide +kernel
theorem d_Lk_link_42 : decode b_Lk_link 42 = .ok (.aload_n 0, 1) := by decide +kernel
theorem d_Lk_link_43 : decode b_Lk_link 43 = .ok (.getfield 38, 3) := by decide +kernel
theorem d_Lk_link_46 : decode b_Lk_link 46 = .ok (.iconst 3, 1) := by decide +kernel
theorem d_Lk_link_47 : decode b_Lk_link 47 = .ok (.iconst 1, 1) := by decide +kernel
theorem d_Lk_link_48 : decode b_Lk_link 48 = .ok (.invokevirtual 66, 3) := by decide +kernel
theorem d_Lk_link_51 : decode b_Lk_link 51 = .ok (.putfield 70, 3) := by decide +kernel
theorem d_Lk_link_54 : decode b_Lk_link 54 = .ok (.aload_n 0, 1) := by decide +kernel
theorem d_Lk_link_55 : decode b_Lk_link 55 = .ok (.iload_n 1, 1) := by decide +kernel
theorem d_Lk_link_56 : decode b_Lk_link 56 = .ok (.iconst 0, 1) := by decide +kernel
theorem d_Lk_link_57 : decode b_Lk_link 57 = .ok (.iconst 0, 1) := by decide +kernel
theorem d_Lk_link_58 : decode b_Lk_link 58 = .ok (.invokevirtual 73, 3) := by decide +kernel
theorem d_Lk_link_61 : decode b_Lk_link 61 = .ok (.iconst 0, 1) := by decide +kernel
theorem d_Lk_link_62 : decode b_Lk_link 62 = .ok (.istore_n 3, 1) := by decide +kernel
theorem d_Lk_link_63 : decode b_Lk_link 63 = .ok (.aload_n 0, 1) := by decide +kernel
theorem d_Lk_link_64 : decode b_Lk_link 64 = .ok (.getfield 56, 3) := by decide +kernel
theorem d_Lk_link_67 : decode b_Lk_link 67 = .ok (.ifCond .le 26, 3) := by decide +kernel
theorem d_Lk_link_70 : decode b_Lk_link 70 = .ok (.iload_n 3, 1) := by decide +kernel
theorem d_Lk_link_71 : decode b_Lk_link 71 = .ok (.iconst 3, 1) := by decide +kernel
theorem d_Lk_link_72 : decode b_Lk_link 72 = .ok (.iload_n 2, 1) := by decide +kernel
theorem d_Lk_link_73 : decode b_Lk_link 73 = .ok (.imul, 1) := by decide +kernel
theorem d_Lk_link_74 : decode b_Lk_link 74 = .ok (.if_icmp .gt 19, 3) := by decide +kernel
theorem d_Lk_link_77 : decode b_Lk_link 77 = .ok (.aload_n 0, 1) := by decide +kernel
theorem d_Lk_link_78 : decode b_Lk_link 78 = .ok (.aload_n 0, 1) := by decide +kernel
theorem d_Lk_link_79 : decode b_Lk_link 79 = .ok (.getfield 56, 3) := by decide +kernel
theorem d_Lk_link_82 : decode b_Lk_link 82 = .ok (.iconst 1, 1) := by decide +kernel
theorem d_Lk_link_83 : decode b_Lk_link 83 = .ok (.isub, 1) := by decide +kernel
theorem d_Lk_link_84 : decode b_Lk_link 84 = .ok (.invokevirtual 77, 3) := by decide +kernel
theorem d_Lk_link_87 : decode b_Lk_link 87 = .ok (.iinc 3 1, 3) := by decide +kernel
theorem d_Lk_link_90 : decode b_Lk_link 90 = .ok (.goto (-27), 3) := by decide +kernel
theorem d_Lk_link_93 : decode b_Lk_link 93 = .ok (.return_, 1) := by decide +kernel
abbrev mt_Lk_link : MT := (R_Lk, b_Lk_link, 4, none)
theorem vf_Lk_link : VF y_Lk_link mt_Lk_link 4 1 := ⟨im_Lk_link, se_Lk_link, in_Lk, co_Lk_link, by decide +kernel, _, _, rfl⟩
def f_Lk_link_L63 : Nat → St → Int → Int → Option (Int × St)
  | 0, _, _, _ => none
  | n + 1, γ, x1, x2 =>
  if (γ 9 8) ≤ 0 then
  (some (0, γ))
  else
  (chk (i32 (3 * x1)) (if (3 * x1) < x2 then
  (some (0, γ))
  else
  (chk (i32 ((γ 9 8) - 1)) (bndN (f_Lk_goOn γ ((γ 9 8) - 1)) fun _ γ8 =>
  chk (i32 (x2 + 1)) ((f_Lk_link_L63 n) γ8 x1 (x2 + 1))))))
def f_Lk_link (γ : St) (a0 : Int) : Option (Int × St) :=
  chk (inb a0 59) (ap (γ 31 a0) fun x13 =>
  chk (inb a0 59) (bndN (f_Sl_begin γ (γ 32 a0)) fun _ γ19 =>
  ap (setA γ19 9 8 0) fun γ20 =>
  ap (setA γ20 9 10 0) fun γ21 =>
  ap (setA γ21 9 11 0) fun γ22 =>
  bndN (f_Sl_add γ22 3 1) fun r24 γ25 =>
  ap (setA γ25 9 12 r24) fun γ26 =>
  bndN (f_Lk_openNode γ26 a0 0 0) fun _ γ28 =>
  f_Lk_link_L63  FU γ28 x13 0))
set_option maxHeartbeats 4000000 in
theorem s_Lk_link_L63 {Γ : Ctx} : ∀ (n : Nat) (γ : St) (x1 : Int) (x2 : Int), i32 x1 → i32 x2 → SB Γ BS mt_Lk_link (RmN 11 361) 0 0 (KN Γ BS mt_Lk_link.2.2.2) 63 [(0, vR Γ 9), (2, vI x1), (3, vI x2)] [] γ (f_Lk_link_L63 n γ x1 x2) := by
  intro n
  induction n with
  | zero => intros; exact sb_none
  | succ n ih =>
    intro γ x1 x2 hx1 hx2
    unfold f_Lk_link_L63
    refine sb_aload_n 0 d_Lk_link_63 rfl ?_
    refine g_Lk_56 d_Lk_link_64 (fun c3 => ?_)
    refine sb_if_le 93 c3 d_Lk_link_67 (by decide) (fun _ => ?_) (fun _ => ?_)
    · exact sn_v rfl d_Lk_link_93
    · refine sb_iload_n 2 d_Lk_link_70 rfl ?_
      refine sb_iconst d_Lk_link_71 ?_
      refine sb_iload_n 1 d_Lk_link_72 rfl ?_
      refine sb_imul d_Lk_link_73 ?_
      refine sb_chk (fun c4 => ?_)
      refine sb_icmp_gt 93 hx2 c4 d_Lk_link_74 (by decide) (fun _ => ?_) (fun _ => ?_)
      · exact sn_v rfl d_Lk_link_93
      · refine sb_aload_n 0 d_Lk_link_77 rfl ?_
        refine sb_aload_n 0 d_Lk_link_78 rfl ?_
        refine g_Lk_56 d_Lk_link_79 (fun c5 => ?_)
        refine sb_iconst d_Lk_link_82 ?_
        refine sb_isub d_Lk_link_83 ?_
        refine sb_chk (fun c6 => ?_)
        refine sb_cVv vf_Lk_goOn (c_Lk_goOn γ ((γ 9 8) - 1) c6) rfl ml_Lk_77 (As := [vI ((γ 9 8) - 1)]) rfl rfl (Nat.le_of_ble_eq_true rfl) ⟨by decide, by decide⟩ d_Lk_link_84 (fun _ γ8 => ?_)
        refine sb_iinc 2 [(3, vI (x2 + 1)), (0, vR Γ 9), (2, vI x1)] d_Lk_link_87 rfl (by decide) rfl ?_
        refine sb_chk (fun c9 => ?_)
        refine sb_goto 63 d_Lk_link_90 (by decide) ?_
        exact sb_lv [1, 2, 0] rfl (ih γ8 x1 (x2 + 1) hx1 c9)
set_option maxHeartbeats 4000000 in
theorem c_Lk_link {Γ : Ctx} (γ : St) (a0 : Int) (ha0 : i32 a0) : NC Γ BS y_Lk_link mt_Lk_link 11 361 [vR Γ 9, vI a0] γ (f_Lk_link γ a0) := by
  refine nc_of (by decide) rfl (Nat.le_of_ble_eq_true rfl) ?_
  show SB Γ BS mt_Lk_link (RmN 11 361) 0 0 (KN Γ BS mt_Lk_link.2.2.2) 0 [(0, vR Γ 9), (1, vI a0)] [] γ _
  unfold f_Lk_link
  refine sb_aload_n 0 d_Lk_link_0 rfl ?_
  refine g_Lk_30 d_Lk_link_1 ?_
  refine g_Lk_42 d_Lk_link_4 ?_
  refine sb_iload_n 1 d_Lk_link_7 rfl ?_
  refine al_S_31 d_Lk_link_8 (fun _ c12 => ?_)
  refine sb_istore_n [(2, vI (γ 31 a0)), (0, vR Γ 9), (1, vI a0)] d_Lk_link_9 (by decide) rfl ?_
  refine sb_nme (e := γ 31 a0) (fun x13 => [(2, vI x13), (0, vR Γ 9), (1, vI a0)]) c12 (fun x13 hx13 => ?_)
  refine sb_aload_n 1 d_Lk_link_10 rfl ?_
  refine g_Lk_38 d_Lk_link_11 ?_
  refine sb_aload_n 1 d_Lk_link_14 rfl ?_
  refine g_Lk_30 d_Lk_link_15 ?_
  refine g_Lk_47 d_Lk_link_18 ?_
  refine sb_iload_n 2 d_Lk_link_21 rfl ?_
  refine al_S_32 d_Lk_link_22 (fun _ c17 => ?_)
  refine sb_cVv vf_Sl_begin (c_Sl_begin γ (γ 32 a0) c17) rfl ml_Lk_50 (As := [vI (γ 32 a0)]) rfl rfl (Nat.le_of_ble_eq_true rfl) ⟨by decide, by decide⟩ d_Lk_link_23 (fun _ γ19 => ?_)
  refine sb_aload_n 1 d_Lk_link_26 rfl ?_
  refine sb_iconst d_Lk_link_27 ?_
  refine p_Lk_56 (by decide) d_Lk_link_28 ?_
  refine sb_aps (fun γ20 => ?_)
  refine sb_aload_n 1 d_Lk_link_31 rfl ?_
  refine sb_iconst d_Lk_link_32 ?_
  refine p_Lk_60 (by decide) d_Lk_link_33 ?_
  refine sb_aps (fun γ21 => ?_)
  refine sb_aload_n 1 d_Lk_link_36 rfl ?_
  refine sb_iconst d_Lk_link_37 ?_
  refine p_Lk_63 (by decide) d_Lk_link_38 ?_
  refine sb_aps (fun γ22 => ?_)
  refine sb_aload_n 1 d_Lk_link_41 rfl ?_
  refine sb_aload_n 1 d_Lk_link_42 rfl ?_
  refine g_Lk_38 d_Lk_link_43 ?_
  refine sb_iconst d_Lk_link_46 ?_
  refine sb_iconst d_Lk_link_47 ?_
  refine sb_cVi vf_Sl_add (c_Sl_add γ22 3 1 (by decide) (by decide)) rfl ml_Lk_66 (As := [vI 3, vI 1]) rfl rfl (Nat.le_of_ble_eq_true rfl) ⟨by decide, by decide⟩ d_Lk_link_48 (fun r24 γ25 hr24 => ?_)
  refine p_Lk_70 hr24 d_Lk_link_51 ?_
  refine sb_aps (fun γ26 => ?_)
  refine sb_aload_n 1 d_Lk_link_54 rfl ?_
  refine sb_iload_n 2 d_Lk_link_55 rfl ?_
  refine sb_iconst d_Lk_link_56 ?_
  refine sb_iconst d_Lk_link_57 ?_
  refine sb_cVv vf_Lk_openNode (c_Lk_openNode γ26 a0 0 0 ha0 (by decide) (by decide)) rfl ml_Lk_73 (As := [vI a0, vI 0, vI 0]) rfl rfl (Nat.le_of_ble_eq_true rfl) ⟨by decide, by decide⟩ d_Lk_link_58 (fun _ γ28 => ?_)
  refine sb_iconst d_Lk_link_61 ?_
  refine sb_istore_n [(3, vI 0), (2, vI x13), (0, vR Γ 9), (1, vI a0)] d_Lk_link_62 (by decide) rfl ?_
  exact sb_lv [2, 1, 0] rfl (s_Lk_link_L63  FU γ28 x13 0 hx13 (by decide))
theorem d_Od_openSlot_0 : decode b_Od_openSlot 0 = .ok (.aload_n 0, 1) := by decide +kernel
theorem d_Od_openSlot_1 : decode b_Od_openSlot 1 = .ok (.dup, 1) := by decide +kernel
theorem d_Od_openSlot_2 : decode b_Od_openSlot 2 = .ok (.getfield 49, 3) := by decide +kernel
theorem d_Od_openSlot_5 : decode b_Od_openSlot 5 = .ok (.iconst 1, 1) := by decide +kernel
theorem d_Od_openSlot_6 : decode b_Od_openSlot 6 = .ok (.iadd, 1) := by decide +kernel
theorem d_Od_openSlot_7 : decode b_Od_openSlot 7 = .ok (.putfield 49, 3) := by decide +kernel
theorem d_Od_openSlot_10 : decode b_Od_openSlot 10 = .ok (.aload_n 0, 1) := by decide +kernel
theorem d_Od_openSlot_11 : decode b_Od_openSlot 11 = .ok (.getfield 9, 3) := by decide +kernel
theorem d_Od_openSlot_14 : decode b_Od_openSlot 14 = .ok (.iload_n 1, 1) := by decide +kernel
theorem d_Od_openSlot_15 : decode b_Od_openSlot 15 = .ok (.aload_n 0, 1) := by decide +kernel
theorem d_Od_openSlot_16 : decode b_Od_openSlot 16 = .ok (.getfield 49, 3) := by decide +kernel
theorem d_Od_openSlot_19 : decode b_Od_openSlot 19 = .ok (.iastore, 1) := by decide +kernel
theorem d_Od_openSlot_20 : decode b_Od_openSlot 20 = .ok (.aload_n 0, 1) := by decide +kernel
theorem d_Od_openSlot_21 : decode b_Od_openSlot 21 = .ok (.getfield 15, 3) := by decide +kernel
theorem d_Od_openSlot_24 : decode b_Od_openSlot 24 = .ok (.iload_n 1, 1) := by decide +kernel
theorem d_Od_openSlot_25 : decode b_Od_openSlot 25 = .ok (.aload_n 0, 1) := by decide +kernel
theorem d_Od_openSlot_26 : decode b_Od_openSlot 26 = .ok (.getfield 49, 3) := by decide +kernel
theorem d_Od_openSlot_29 : decode b_Od_openSlot 29 = .ok (.iastore, 1) := by decide +kernel
theorem d_Od_openSlot_30 : decode b_Od_openSlot 30 = .ok (.aload_n 0, 1) := by decide +kernel
theorem d_Od_openSlot_31 : decode b_Od_openSlot 31 = .ok (.getfield 18, 3) := by decide +kernel
theorem d_Od_openSlot_34 : decode b_Od_openSlot 34 = .ok (.iload_n 1, 1) := by decide +kernel
theorem d_Od_openSlot_35 : decode b_Od_openSlot 35 = .ok (.iconst 0, 1) := by decide +kernel
theorem d_Od_openSlot_36 : decode b_Od_openSlot 36 = .ok (.iastore, 1) := by decide +kernel
theorem d_Od_openSlot_37 : decode b_Od_openSlot 37 = .ok (.aload_n 0, 1) := by decide +kernel
theorem d_Od_openSlot_38 : decode b_Od_openSlot 38 = .ok (.getfield 21, 3) := by decide +kernel
theorem d_Od_openSlot_41 : decode b_Od_openSlot 41 = .ok (.aload_n 0, 1) := by decide +kernel
theorem d_Od_openSlot_42 : decode b_Od_openSlot 42 = .ok (.getfield 52, 3) := by decide +kernel
theorem d_Od_openSlot_45 : decode b_Od_openSlot 45 = .ok (.iload_n 1, 1) := by decide +kernel
theorem d_Od_openSlot_46 : decode b_Od_openSlot 46 = .ok (.iastore, 1) := by decide +kernel
theorem d_Od_openSlot_47 : decode b_Od_openSlot 47 = .ok (.aload_n 0, 1) := by decide +kernel
theorem d_Od_openSlot_48 : decode b_Od_openSlot 48 = .ok (.dup, 1) := by decide +kernel
theorem d_Od_openSlot_49 : decode b_Od_openSlot 49 = .ok (.getfield 52, 3) := by decide +kernel
theorem d_Od_openSlot_52 : decode b_Od_openSlot 52 = .ok (.iconst 1, 1) := by decide +kernel
theorem d_Od_openSlot_53 : decode b_Od_openSlot 53 = .ok (.iadd, 1) := by decide +kernel
theorem d_Od_openSlot_54 : decode b_Od_openSlot 54 = .ok (.putfield 52, 3) := by decide +kernel
theorem d_Od_openSlot_57 : decode b_Od_openSlot 57 = .ok (.aload_n 0, 1) := by decide +kernel
theorem d_Od_openSlot_58 : decode b_Od_openSlot 58 = .ok (.getfield 24, 3) := by decide +kernel
theorem d_Od_openSlot_61 : decode b_Od_openSlot 61 = .ok (.aload_n 0, 1) := by decide +kernel
theorem d_Od_openSlot_62 : decode b_Od_openSlot 62 = .ok (.getfield 55, 3) := by decide +kernel
theorem d_Od_openSlot_65 : decode b_Od_openSlot 65 = .ok (.iload_n 1, 1) := by decide +kernel
theorem d_Od_openSlot_66 : decode b_Od_openSlot 66 = .ok (.iastore, 1) := by decide +kernel
theorem d_Od_openSlot_67 : decode b_Od_openSlot 67 = .ok (.aload_n 0, 1) := by decide +kernel
theorem d_Od_openSlot_68 : decode b_Od_openSlot 68 = .ok (.dup, 1) := by decide +kernel
theorem d_Od_openSlot_69 : decode b_Od_openSlot 69 = .ok (.getfield 55, 3) := by decide +kernel
theorem d_Od_openSlot_72 : decode b_Od_openSlot 72 = .ok (.iconst 1, 1) := by decide +kernel
theorem d_Od_openSlot_73 : decode b_Od_openSlot 73 = .ok (.iadd, 1) := by decide +kernel
theorem d_Od_openSlot_74 : decode b_Od_openSlot 74 = .ok (.putfield 55, 3) := by decide +kernel
theorem d_Od_openSlot_77 : decode b_Od_openSlot 77 = .ok (.return_, 1) := by decide +kernel
abbrev mt_Od_openSlot : MT := (R_Od, b_Od_openSlot, 2, none)
theorem vf_Od_openSlot : VF y_Od_openSlot mt_Od_openSlot 7 1 := ⟨im_Od_openSlot, se_Od_openSlot, in_Od, co_Od_openSlot, by decide +kernel, _, _, rfl⟩
def f_Od_openSlot (γ : St) (a0 : Int) : Option (Int × St) :=
  chk (i32 ((γ 10 8) + 1)) (ap (setA γ 10 8 ((γ 10 8) + 1)) fun γ3 =>
  chk (inb a0 9001) (ap (setA γ3 69 a0 (γ3 10 8)) fun γ6 =>
  chk (inb a0 9001) (ap (setA γ6 70 a0 (γ6 10 8)) fun γ9 =>
  chk (inb a0 9001) (ap (setA γ9 71 a0 0) fun γ11 =>
  chk (inb (γ11 10 9) 9001) (ap (setA γ11 72 (γ11 10 9) a0) fun γ14 =>
  chk (i32 ((γ14 10 9) + 1)) (ap (setA γ14 10 9 ((γ14 10 9) + 1)) fun γ17 =>
  chk (inb (γ17 10 10) 9001) (ap (setA γ17 73 (γ17 10 10) a0) fun γ20 =>
  chk (i32 ((γ20 10 10) + 1)) (ap (setA γ20 10 10 ((γ20 10 10) + 1)) fun γ23 =>
  some (0, γ23)))))))))
set_option maxHeartbeats 4000000 in
theorem c_Od_openSlot {Γ : Ctx} (γ : St) (a0 : Int) (ha0 : i32 a0) : NC Γ BS y_Od_openSlot mt_Od_openSlot 6 240 [vR Γ 10, vI a0] γ (f_Od_openSlot γ a0) := by
  refine nc_of (by decide) rfl (Nat.le_of_ble_eq_true rfl) ?_
  show SB Γ BS mt_Od_openSlot (RmN 6 240) 0 0 (KN Γ BS mt_Od_openSlot.2.2.2) 0 [(0, vR Γ 10), (1, vI a0)] [] γ _
  unfold f_Od_openSlot
  refine sb_aload_n 0 d_Od_openSlot_0 rfl ?_
  refine sb_dup d_Od_openSlot_1 rfl ?_
  refine g_Od_49 d_Od_openSlot_2 (fun c1 => ?_)
  refine sb_iconst d_Od_openSlot_5 ?_
  refine sb_iadd d_Od_openSlot_6 ?_
  refine sb_chk (fun c2 => ?_)
  refine p_Od_49 c2 d_Od_openSlot_7 ?_
  refine sb_aps (fun γ3 => ?_)
  refine sb_aload_n 0 d_Od_openSlot_10 rfl ?_
  refine g_Od_9 d_Od_openSlot_11 ?_
  refine sb_iload_n 1 d_Od_openSlot_14 rfl ?_
  refine sb_aload_n 0 d_Od_openSlot_15 rfl ?_
  refine g_Od_49 d_Od_openSlot_16 (fun c5 => ?_)
  refine as_S_69 c5 d_Od_openSlot_19 (fun _ => ?_)
  refine sb_aps (fun γ6 => ?_)
  refine sb_aload_n 0 d_Od_openSlot_20 rfl ?_
  refine g_Od_15 d_Od_openSlot_21 ?_
  refine sb_iload_n 1 d_Od_openSlot_24 rfl ?_
  refine sb_aload_n 0 d_Od_openSlot_25 rfl ?_
  refine g_Od_49 d_Od_openSlot_26 (fun c8 => ?_)
  refine as_S_70 c8 d_Od_openSlot_29 (fun _ => ?_)
  refine sb_aps (fun γ9 => ?_)
  refine sb_aload_n 0 d_Od_openSlot_30 rfl ?_
  refine g_Od_18 d_Od_openSlot_31 ?_
  refine sb_iload_n 1 d_Od_openSlot_34 rfl ?_
  refine sb_iconst d_Od_openSlot_35 ?_
  refine as_S_71 (by decide) d_Od_openSlot_36 (fun _ => ?_)
  refine sb_aps (fun γ11 => ?_)
  refine sb_aload_n 0 d_Od_openSlot_37 rfl ?_
  refine g_Od_21 d_Od_openSlot_38 ?_
  refine sb_aload_n 0 d_Od_openSlot_41 rfl ?_
  refine g_Od_52 d_Od_openSlot_42 (fun c13 => ?_)
  refine sb_iload_n 1 d_Od_openSlot_45 rfl ?_
  refine as_S_72 ha0 d_Od_openSlot_46 (fun _ => ?_)
  refine sb_aps (fun γ14 => ?_)
  refine sb_aload_n 0 d_Od_openSlot_47 rfl ?_
  refine sb_dup d_Od_openSlot_48 rfl ?_
  refine g_Od_52 d_Od_openSlot_49 (fun c15 => ?_)
  refine sb_iconst d_Od_openSlot_52 ?_
  refine sb_iadd d_Od_openSlot_53 ?_
  refine sb_chk (fun c16 => ?_)
  refine p_Od_52 c16 d_Od_openSlot_54 ?_
  refine sb_aps (fun γ17 => ?_)
  refine sb_aload_n 0 d_Od_openSlot_57 rfl ?_
  refine g_Od_24 d_Od_openSlot_58 ?_
  refine sb_aload_n 0 d_Od_openSlot_61 rfl ?_
  refine g_Od_55 d_Od_openSlot_62 (fun c19 => ?_)
  refine sb_iload_n 1 d_Od_openSlot_65 rfl ?_
  refine as_S_73 ha0 d_Od_openSlot_66 (fun _ => ?_)
  refine sb_aps (fun γ20 => ?_)
  refine sb_aload_n 0 d_Od_openSlot_67 rfl ?_
  refine sb_dup d_Od_openSlot_68 rfl ?_
  refine g_Od_55 d_Od_openSlot_69 (fun c21 => ?_)
  refine sb_iconst d_Od_openSlot_72 ?_
  refine sb_iadd d_Od_openSlot_73 ?_
  refine sb_chk (fun c22 => ?_)
  refine p_Od_55 c22 d_Od_openSlot_74 ?_
  refine sb_aps (fun γ23 => ?_)
  exact sn_v rfl d_Od_openSlot_77
theorem d_Od_noteOwnCause_0 : decode b_Od_noteOwnCause 0 = .ok (.aload_n 0, 1) := by decide +kernel
theorem d_Od_noteOwnCause_1 : decode b_Od_noteOwnCause 1 = .ok (.getfield 64, 3) := by decide +kernel
theorem d_Od_noteOwnCause_4 : decode b_Od_noteOwnCause 4 = .ok (.ifCond .lt 11, 3) := by decide +kernel
theorem d_Od_noteOwnCause_7 : decode b_Od_noteOwnCause 7 = .ok (.iload_n 1, 1) := by decide +kernel
theorem d_Od_noteOwnCause_8 : decode b_Od_noteOwnCause 8 = .ok (.aload_n 0, 1) := by decide +kernel
theorem d_Od_noteOwnCause_9 : decode b_Od_noteOwnCause 9 = .ok (.getfield 64, 3) := by decide +kernel
theorem d_Od_noteOwnCause_12 : decode b_Od_noteOwnCause 12 = .ok (.if_icmp .ge 8, 3) := by decide +kernel
theorem d_Od_noteOwnCause_15 : decode b_Od_noteOwnCause 15 = .ok (.aload_n 0, 1) := by decide +kernel
theorem d_Od_noteOwnCause_16 : decode b_Od_noteOwnCause 16 = .ok (.iload_n 1, 1) := by decide +kernel
theorem d_Od_noteOwnCause_17 : decode b_Od_noteOwnCause 17 = .ok (.putfield 64, 3) := by decide +kernel
theorem d_Od_noteOwnCause_20 : decode b_Od_noteOwnCause 20 = .ok (.return_, 1) := by decide +kernel
abbrev mt_Od_noteOwnCause : MT := (R_Od, b_Od_noteOwnCause, 2, none)
theorem vf_Od_noteOwnCause : VF y_Od_noteOwnCause mt_Od_noteOwnCause 7 1 := ⟨im_Od_noteOwnCause, se_Od_noteOwnCause, in_Od, co_Od_noteOwnCause, by decide +kernel, _, _, rfl⟩
def f_Od_noteOwnCause (γ : St) (a0 : Int) : Option (Int × St) :=
  if (γ 10 13) < 0 then
  (ap (setA γ 10 13 a0) fun γ2 =>
  some (0, γ2))
  else
  (if (γ 10 13) ≤ a0 then
  (some (0, γ))
  else
  (ap (setA γ 10 13 a0) fun γ4 =>
  some (0, γ4)))
set_option maxHeartbeats 4000000 in
theorem c_Od_noteOwnCause {Γ : Ctx} (γ : St) (a0 : Int) (ha0 : i32 a0) : NC Γ BS y_Od_noteOwnCause mt_Od_noteOwnCause 6 240 [vR Γ 10, vI a0] γ (f_Od_noteOwnCause γ a0) := by
  refine nc_of (by decide) rfl (Nat.le_of_ble_eq_true rfl) ?_
  show SB Γ BS mt_Od_noteOwnCause (RmN 6 240) 0 0 (KN Γ BS mt_Od_noteOwnCause.2.2.2) 0 [(0, vR Γ 10), (1, vI a0)] [] γ _
  unfold f_Od_noteOwnCause
  refine sb_aload_n 0 d_Od_noteOwnCause_0 rfl ?_
  refine g_Od_64 d_Od_noteOwnCause_1 (fun c1 => ?_)
  refine sb_if_lt 15 c1 d_Od_noteOwnCause_4 (by decide) (fun _ => ?_) (fun _ => ?_)
  · refine sb_aload_n 0 d_Od_noteOwnCause_15 rfl ?_
    refine sb_iload_n 1 d_Od_noteOwnCause_16 rfl ?_
    refine p_Od_64 ha0 d_Od_noteOwnCause_17 ?_
    refine sb_aps (fun γ2 => ?_)
    exact sn_v rfl d_Od_noteOwnCause_20
  · refine sb_iload_n 1 d_Od_noteOwnCause_7 rfl ?_
    refine sb_aload_n 0 d_Od_noteOwnCause_8 rfl ?_
    refine g_Od_64 d_Od_noteOwnCause_9 (fun c3 => ?_)
    refine sb_icmp_ge 20 ha0 c3 d_Od_noteOwnCause_12 (by decide) (fun _ => ?_) (fun _ => ?_)
    · exact sn_v rfl d_Od_noteOwnCause_20
    · refine sb_aload_n 0 d_Od_noteOwnCause_15 rfl ?_
      refine sb_iload_n 1 d_Od_noteOwnCause_16 rfl ?_
      refine p_Od_64 ha0 d_Od_noteOwnCause_17 ?_
      refine sb_aps (fun γ4 => ?_)
      exact sn_v rfl d_Od_noteOwnCause_20
theorem d_Od_takeCircle_0 : decode b_Od_takeCircle 0 = .ok (.aload_n 0, 1) := by decide +kernel
theorem d_Od_takeCircle_1 : decode b_Od_takeCircle 1 = .ok (.getfield 21, 3) := by decide +kernel
theorem d_Od_takeCircle_4 : decode b_Od_takeCircle 4 = .ok (.aload_n 0, 1) := by decide +kernel
theorem d_Od_takeCircle_5 : decode b_Od_takeCircle 5 = .ok (.getfield 52, 3) := by decide +kernel
theorem d_Od_takeCircle_8 : decode b_Od_takeCircle 8 = .ok (.iconst 1, 1) := by decide +kernel
theorem d_Od_takeCircle_9 : decode b_Od_takeCircle 9 = .ok (.isub, 1) := by decide +kernel
theorem d_Od_takeCircle_10 : decode b_Od_takeCircle 10 = .ok (.iaload, 1) := by decide +kernel
theorem d_Od_takeCircle_11 : decode b_Od_takeCircle 11 = .ok (.iload_n 1, 1) := by decide +kernel
theorem d_Od_takeCircle_12 : decode b_Od_takeCircle 12 = .ok (.if_icmp .ne 7, 3) := by decide +kernel
theorem d_Od_takeCircle_15 : decode b_Od_takeCircle 15 = .ok (.iconst 1, 1) := by decide +kernel
theorem d_Od_takeCircle_16 : decode b_Od_takeCircle 16 = .ok (.goto 4, 3) := by decide +kernel
theorem d_Od_takeCircle_19 : decode b_Od_takeCircle 19 = .ok (.iconst 0, 1) := by decide +kernel
theorem d_Od_takeCircle_20 : decode b_Od_takeCircle 20 = .ok (.istore_n 2, 1) := by decide +kernel
theorem d_Od_takeCircle_21 : decode b_Od_takeCircle 21 = .ok (.iconst 0, 1) := by decide +kernel
theorem d_Od_takeCircle_22 : decode b_Od_takeCircle 22 = .ok (.istore_n 3, 1) := by decide +kernel
theorem d_Od_takeCircle_23 : decode b_Od_takeCircle 23 = .ok (.iload_n 3, 1) := by decide +kernel
theorem d_Od_takeCircle_24 : decode b_Od_takeCircle 24 = .ok (.ifCond .ne 93, 3) := by decide +kernel
theorem d_Od_takeCircle_27 : decode b_Od_takeCircle 27 = .ok (.aload_n 0, 1) := by decide +kernel
theorem d_Od_takeCircle_28 : decode b_Od_takeCircle 28 = .ok (.getfield 52, 3) := by decide +kernel
theorem d_Od_takeCircle_31 : decode b_Od_takeCircle 31 = .ok (.ifCond .le 86, 3) := by decide +kernel
theorem d_Od_takeCircle_34 : decode b_Od_takeCircle 34 = .ok (.aload_n 0, 1) := by decide +kernel
theorem d_Od_takeCircle_35 : decode b_Od_takeCircle 35 = .ok (.dup, 1) := by decide +kernel
theorem d_Od_takeCircle_36 : decode b_Od_takeCircle 36 = .ok (.getfield 52, 3) := by decide +kernel
theorem d_Od_takeCircle_39 : decode b_Od_takeCircle 39 = .ok (.iconst 1, 1) := by decide +kernel
theorem d_Od_takeCircle_40 : decode b_Od_takeCircle 40 = .ok (.isub, 1) := by decide +kernel
theorem d_Od_takeCircle_41 : decode b_Od_takeCircle 41 = .ok (.putfield 52, 3) := by decide +kernel
theorem d_Od_takeCircle_44 : decode b_Od_takeCircle 44 = .ok (.aload_n 0, 1) := by decide +kernel
theorem d_Od_takeCircle_45 : decode b_Od_takeCircle 45 = .ok (.getfield 21, 3) := by decide +kernel
theorem d_Od_takeCircle_48 : decode b_Od_takeCircle 48 = .ok (.aload_n 0, 1) := by decide +kernel
theorem d_Od_takeCircle_49 : decode b_Od_takeCircle 49 = .ok (.getfield 52, 3) := by decide +kernel
theorem d_Od_takeCircle_52 : decode b_Od_takeCircle 52 = .ok (.iaload, 1) := by decide +kernel
theorem d_Od_takeCircle_53 : decode b_Od_takeCircle 53 = .ok (.istore 4, 2) := by decide +kernel
theorem d_Od_takeCircle_55 : decode b_Od_takeCircle 55 = .ok (.iload_n 2, 1) := by decide +kernel
theorem d_Od_takeCircle_56 : decode b_Od_takeCircle 56 = .ok (.ifCond .ne 9, 3) := by decide +kernel
theorem d_Od_takeCircle_59 : decode b_Od_takeCircle 59 = .ok (.aload_n 0, 1) := by decide +kernel
theorem d_Od_takeCircle_60 : decode b_Od_takeCircle 60 = .ok (.iload 4, 2) := by decide +kernel
theorem d_Od_takeCircle_62 : decode b_Od_takeCircle 62 = .ok (.invokevirtual 80, 3) := by decide +kernel
theorem d_Od_takeCircle_65 : decode b_Od_takeCircle 65 = .ok (.aload_n 0, 1) := by decide +kernel
theorem d_Od_takeCircle_66 : decode b_Od_takeCircle 66 = .ok (.getfield 9, 3) := by decide +kernel
theorem d_Od_takeCircle_69 : decode b_Od_takeCircle 69 = .ok (.iload 4, 2) := by decide +kernel
theorem d_Od_takeCircle_71 : decode b_Od_takeCircle 71 = .ok (.aload_n 0, 1) := by decide +kernel
theorem d_Od_takeCircle_72 : decode b_Od_takeCircle 72 = .ok (.getfield 33, 3) := by decide +kernel
theorem d_Od_takeCircle_75 : decode b_Od_takeCircle 75 = .ok (.getfield 37, 3) := by decide +kernel
theorem d_Od_takeCircle_78 : decode b_Od_takeCircle 78 = .ok (.iconst 1, 1) := by decide +kernel
theorem d_Od_takeCircle_79 : decode b_Od_takeCircle 79 = .ok (.iadd, 1) := by decide +kernel
theorem d_Od_takeCircle_80 : decode b_Od_takeCircle 80 = .ok (.iastore, 1) := by decide +kernel
theorem d_Od_takeCircle_81 : decode b_Od_takeCircle 81 = .ok (.aload_n 0, 1) := by decide +kernel
theorem d_Od_takeCircle_82 : decode b_Od_takeCircle 82 = .ok (.getfield 30, 3) := by decide +kernel
theorem d_Od_takeCircle_85 : decode b_Od_takeCircle 85 = .ok (.aload_n 0, 1) := by decide +kernel
theorem d_Od_takeCircle_86 : decode b_Od_takeCircle 86 = .ok (.getfield 58, 3) := by decide +kernel
theorem d_Od_takeCircle_89 : decode b_Od_takeCircle 89 = .ok (.iload 4, 2) := by decide +kernel
theorem d_Od_takeCircle_91 : decode b_Od_takeCircle 91 = .ok (.iastore, 1) := by decide +kernel
theorem d_Od_takeCircle_92 : decode b_Od_takeCircle 92 = .ok (.aload_n 0, 1) := by decide +kernel
theorem d_Od_takeCircle_93 : decode b_Od_takeCircle 93 = .ok (.dup, 1) := by decide +kernel
theorem d_Od_takeCircle_94 : decode b_Od_takeCircle 94 = .ok (.getfield 58, 3) := by decide +kernel
theorem d_Od_takeCircle_97 : decode b_Od_takeCircle 97 = .ok (.iconst 1, 1) := by decide +kernel
theorem d_Od_takeCircle_98 : decode b_Od_takeCircle 98 = .ok (.iadd, 1) := by decide +kernel
theorem d_Od_takeCircle_99 : decode b_Od_takeCircle 99 = .ok (.putfield 58, 3) := by decide +kernel
theorem d_Od_takeCircle_102 : decode b_Od_takeCircle 102 = .ok (.iload 4, 2) := by decide +kernel
theorem d_Od_takeCircle_104 : decode b_Od_takeCircle 104 = .ok (.iload_n 1, 1) := by decide +kernel
theorem d_Od_takeCircle_105 : decode b_Od_takeCircle 105 = .ok (.if_icmp .ne 7, 3) := by decide +kernel
theorem d_Od_takeCircle_108 : decode b_Od_takeCircle 108 = .ok (.iconst 1, 1) := by decide +kernel
theorem d_Od_takeCircle_109 : decode b_Od_takeCircle 109 = .ok (.goto 4, 3) := by decide +kernel
theorem d_Od_takeCircle_112 : decode b_Od_takeCircle 112 = .ok (.iconst 0, 1) := by decide +kernel
theorem d_Od_takeCircle_113 : decode b_Od_takeCircle 113 = .ok (.istore_n 3, 1) := by decide +kernel
theorem d_Od_takeCircle_114 : decode b_Od_takeCircle 114 = .ok (.goto (-91), 3) := by decide +kernel
theorem d_Od_takeCircle_117 : decode b_Od_takeCircle 117 = .ok (.return_, 1) := by decide +kernel
abbrev mt_Od_takeCircle : MT := (R_Od, b_Od_takeCircle, 5, none)
theorem vf_Od_takeCircle : VF y_Od_takeCircle mt_Od_takeCircle 7 1 := ⟨im_Od_takeCircle, se_Od_takeCircle, in_Od, co_Od_takeCircle, by decide +kernel, _, _, rfl⟩
def f_Od_takeCircle_b113 (k23 : St → Int → Int → Int → Option (Int × St)) (γ : St) (x1 : Int) (x2 : Int) (x3 : Int) : Option (Int × St) :=
  k23 γ x1 x2 x3
def f_Od_takeCircle_b65 (k23 : St → Int → Int → Int → Option (Int × St)) (γ : St) (x7 : Int) (x8 : Int) (x9 : Int) : Option (Int × St) :=
  chk (i32 ((γ 8 5) + 1)) (chk (inb x9 9001) (ap (setA γ 69 x9 ((γ 8 5) + 1)) fun γ14 =>
  chk (inb (γ14 10 11) 9001) (ap (setA γ14 75 (γ14 10 11) x9) fun γ17 =>
  chk (i32 ((γ17 10 11) + 1)) (ap (setA γ17 10 11 ((γ17 10 11) + 1)) fun γ20 =>
  if x9 ≠ x7 then
  (f_Od_takeCircle_b113 k23 γ20 x7 x8 0)
  else
  (f_Od_takeCircle_b113 k23 γ20 x7 x8 1)))))
def f_Od_takeCircle_L23 : Nat → St → Int → Int → Int → Option (Int × St)
  | 0, _, _, _, _ => none
  | n + 1, γ, x24, x25, x26 =>
  if x26 ≠ 0 then
  (some (0, γ))
  else
  (if (γ 10 9) ≤ 0 then
  (some (0, γ))
  else
  (chk (i32 ((γ 10 9) - 1)) (ap (setA γ 10 9 ((γ 10 9) - 1)) fun γ30 =>
  chk (inb (γ30 10 9) 9001) (ap (γ30 72 (γ30 10 9)) fun x34 =>
  if x25 ≠ 0 then
  (f_Od_takeCircle_b65 (f_Od_takeCircle_L23 n) γ30 x24 x25 x34)
  else
  (bndN (f_Od_noteOwnCause γ30 x34) fun _ γ36 =>
  f_Od_takeCircle_b65 (f_Od_takeCircle_L23 n) γ36 x24 x25 x34)))))
def f_Od_takeCircle_b20 (γ : St) (x37 : Int) (x38 : Int) : Option (Int × St) :=
  f_Od_takeCircle_L23  FU γ x37 x38 0
def f_Od_takeCircle (γ : St) (a0 : Int) : Option (Int × St) :=
  chk (i32 ((γ 10 9) - 1)) (chk (inb ((γ 10 9) - 1) 9001) (if (γ 72 ((γ 10 9) - 1)) ≠ a0 then
  (f_Od_takeCircle_b20 γ a0 0)
  else
  (f_Od_takeCircle_b20 γ a0 1)))
set_option maxHeartbeats 4000000 in
theorem s_Od_takeCircle_b113 {Γ : Ctx} {k23 : St → Int → Int → Int → Option (Int × St)} (hk23 : ∀ (γ : St) (x4 : Int) (x5 : Int) (x6 : Int), i32 x4 → i32 x5 → i32 x6 → SB Γ BS mt_Od_takeCircle (RmN 7 261) 0 0 (KN Γ BS mt_Od_takeCircle.2.2.2) 23 [(0, vR Γ 10), (1, vI x4), (2, vI x5), (3, vI x6)] [] γ (k23 γ x4 x5 x6)) : ∀ (γ : St) (x1 : Int) (x2 : Int) (x3 : Int), i32 x1 → i32 x2 → i32 x3 → SB Γ BS mt_Od_takeCircle (RmN 7 261) 0 0 (KN Γ BS mt_Od_takeCircle.2.2.2) 113 [(0, vR Γ 10), (1, vI x1), (2, vI x2)] [vI x3] γ (f_Od_takeCircle_b113 k23 γ x1 x2 x3) := by
  intro γ x1 x2 x3 hx1 hx2 hx3
  unfold f_Od_takeCircle_b113
  refine sb_istore_n [(3, vI x3), (0, vR Γ 10), (1, vI x1), (2, vI x2)] d_Od_takeCircle_113 (by decide) rfl ?_
  refine sb_goto 23 d_Od_takeCircle_114 (by decide) ?_
  exact sb_lv [1, 2, 3, 0] rfl (hk23 γ x1 x2 x3 hx1 hx2 hx3)
set_option maxHeartbeats 4000000 in
theorem s_Od_takeCircle_b65 {Γ : Ctx} {k23 : St → Int → Int → Int → Option (Int × St)} (hk23 : ∀ (γ : St) (x21 : Int) (x22 : Int) (x23 : Int), i32 x21 → i32 x22 → i32 x23 → SB Γ BS mt_Od_takeCircle (RmN 7 261) 0 0 (KN Γ BS mt_Od_takeCircle.2.2.2) 23 [(0, vR Γ 10), (1, vI x21), (2, vI x22), (3, vI x23)] [] γ (k23 γ x21 x22 x23)) : ∀ (γ : St) (x7 : Int) (x8 : Int) (x9 : Int), i32 x7 → i32 x8 → i32 x9 → SB Γ BS mt_Od_takeCircle (RmN 7 261) 0 0 (KN Γ BS mt_Od_takeCircle.2.2.2) 65 [(0, vR Γ 10), (1, vI x7), (2, vI x8), (4, vI x9)] [] γ (f_Od_takeCircle_b65 k23 γ x7 x8 x9) := by
  intro γ x7 x8 x9 hx7 hx8 hx9
  unfold f_Od_takeCircle_b65
  refine sb_aload_n 0 d_Od_takeCircle_65 rfl ?_
  refine g_Od_9 d_Od_takeCircle_66 ?_
  refine sb_iload 3 d_Od_takeCircle_69 rfl ?_
  refine sb_aload_n 0 d_Od_takeCircle_71 rfl ?_
  refine g_Od_33 d_Od_takeCircle_72 ?_
  refine g_Od_37 d_Od_takeCircle_75 (fun c12 => ?_)
  refine sb_iconst d_Od_takeCircle_78 ?_
  refine sb_iadd d_Od_takeCircle_79 ?_
  refine sb_chk (fun c13 => ?_)
  refine as_S_69 c13 d_Od_takeCircle_80 (fun _ => ?_)
  refine sb_aps (fun γ14 => ?_)
  refine sb_aload_n 0 d_Od_takeCircle_81 rfl ?_
  refine g_Od_30 d_Od_takeCircle_82 ?_
  refine sb_aload_n 0 d_Od_takeCircle_85 rfl ?_
  refine g_Od_58 d_Od_takeCircle_86 (fun c16 => ?_)
  refine sb_iload 3 d_Od_takeCircle_89 rfl ?_
  refine as_S_75 hx9 d_Od_takeCircle_91 (fun _ => ?_)
  refine sb_aps (fun γ17 => ?_)
  refine sb_aload_n 0 d_Od_takeCircle_92 rfl ?_
  refine sb_dup d_Od_takeCircle_93 rfl ?_
  refine g_Od_58 d_Od_takeCircle_94 (fun c18 => ?_)
  refine sb_iconst d_Od_takeCircle_97 ?_
  refine sb_iadd d_Od_takeCircle_98 ?_
  refine sb_chk (fun c19 => ?_)
  refine p_Od_58 c19 d_Od_takeCircle_99 ?_
  refine sb_aps (fun γ20 => ?_)
  refine sb_iload 3 d_Od_takeCircle_102 rfl ?_
  refine sb_iload_n 1 d_Od_takeCircle_104 rfl ?_
  refine sb_icmp_ne 112 hx9 hx7 d_Od_takeCircle_105 (by decide) (fun _ => ?_) (fun _ => ?_)
  · refine sb_iconst d_Od_takeCircle_112 ?_
    exact sb_lv [0, 1, 2] rfl (s_Od_takeCircle_b113 hk23 γ20 x7 x8 0 hx7 hx8 (by decide))
  · refine sb_iconst d_Od_takeCircle_108 ?_
    refine sb_goto 113 d_Od_takeCircle_109 (by decide) ?_
    exact sb_lv [0, 1, 2] rfl (s_Od_takeCircle_b113 hk23 γ20 x7 x8 1 hx7 hx8 (by decide))
set_option maxHeartbeats 4000000 in
theorem s_Od_takeCircle_L23 {Γ : Ctx} : ∀ (n : Nat) (γ : St) (x24 : Int) (x25 : Int) (x26 : Int), i32 x24 → i32 x25 → i32 x26 → SB Γ BS mt_Od_takeCircle (RmN 7 261) 0 0 (KN Γ BS mt_Od_takeCircle.2.2.2) 23 [(0, vR Γ 10), (1, vI x24), (2, vI x25), (3, vI x26)] [] γ (f_Od_takeCircle_L23 n γ x24 x25 x26) := by
  intro n
  induction n with
  | zero => intros; exact sb_none
  | succ n ih =>
    intro γ x24 x25 x26 hx24 hx25 hx26
    unfold f_Od_takeCircle_L23
    refine sb_iload_n 3 d_Od_takeCircle_23 rfl ?_
    refine sb_if_ne 117 hx26 d_Od_takeCircle_24 (by decide) (fun _ => ?_) (fun _ => ?_)
    · exact sn_v rfl d_Od_takeCircle_117
    · refine sb_aload_n 0 d_Od_takeCircle_27 rfl ?_
      refine g_Od_52 d_Od_takeCircle_28 (fun c27 => ?_)
      refine sb_if_le 117 c27 d_Od_takeCircle_31 (by decide) (fun _ => ?_) (fun _ => ?_)
      · exact sn_v rfl d_Od_takeCircle_117
      · refine sb_aload_n 0 d_Od_takeCircle_34 rfl ?_
        refine sb_dup d_Od_takeCircle_35 rfl ?_
        refine g_Od_52 d_Od_takeCircle_36 (fun c28 => ?_)
        refine sb_iconst d_Od_takeCircle_39 ?_
        refine sb_isub d_Od_takeCircle_40 ?_
        refine sb_chk (fun c29 => ?_)
        refine p_Od_52 c29 d_Od_takeCircle_41 ?_
        refine sb_aps (fun γ30 => ?_)
        refine sb_aload_n 0 d_Od_takeCircle_44 rfl ?_
        refine g_Od_21 d_Od_takeCircle_45 ?_
        refine sb_aload_n 0 d_Od_takeCircle_48 rfl ?_
        refine g_Od_52 d_Od_takeCircle_49 (fun c32 => ?_)
        refine al_S_72 d_Od_takeCircle_52 (fun _ c33 => ?_)
        refine sb_istore [(4, vI (γ30 72 (γ30 10 9))), (0, vR Γ 10), (1, vI x24), (2, vI x25), (3, vI x26)] d_Od_takeCircle_53 (by decide) rfl ?_
        refine sb_nme (e := γ30 72 (γ30 10 9)) (fun x34 => [(4, vI x34), (0, vR Γ 10), (1, vI x24), (2, vI x25), (3, vI x26)]) c33 (fun x34 hx34 => ?_)
        refine sb_iload_n 3 d_Od_takeCircle_55 rfl ?_
        refine sb_if_ne 65 hx25 d_Od_takeCircle_56 (by decide) (fun _ => ?_) (fun _ => ?_)
        · exact sb_lv [1, 2, 3, 0] rfl (s_Od_takeCircle_b65 ih γ30 x24 x25 x34 hx24 hx25 hx34)
        · refine sb_aload_n 1 d_Od_takeCircle_59 rfl ?_
          refine sb_iload 0 d_Od_takeCircle_60 rfl ?_
          refine sb_cVv vf_Od_noteOwnCause (c_Od_noteOwnCause γ30 x34 hx34) rfl ml_Od_80 (As := [vI x34]) rfl rfl (Nat.le_of_ble_eq_true rfl) ⟨by decide, by decide⟩ d_Od_takeCircle_62 (fun _ γ36 => ?_)
          exact sb_lv [1, 2, 3, 0] rfl (s_Od_takeCircle_b65 ih γ36 x24 x25 x34 hx24 hx25 hx34)
set_option maxHeartbeats 4000000 in
theorem s_Od_takeCircle_b20 {Γ : Ctx} : ∀ (γ : St) (x37 : Int) (x38 : Int), i32 x37 → i32 x38 → SB Γ BS mt_Od_takeCircle (RmN 7 261) 0 0 (KN Γ BS mt_Od_takeCircle.2.2.2) 20 [(0, vR Γ 10), (1, vI x37)] [vI x38] γ (f_Od_takeCircle_b20 γ x37 x38) := by
  intro γ x37 x38 hx37 hx38
  unfold f_Od_takeCircle_b20
  refine sb_istore_n [(2, vI x38), (0, vR Γ 10), (1, vI x37)] d_Od_takeCircle_20 (by decide) rfl ?_
  refine sb_iconst d_Od_takeCircle_21 ?_
  refine sb_istore_n [(3, vI 0), (2, vI x38), (0, vR Γ 10), (1, vI x37)] d_Od_takeCircle_22 (by decide) rfl ?_
  exact sb_lv [2, 3, 1, 0] rfl (s_Od_takeCircle_L23  FU γ x37 x38 0 hx37 hx38 (by decide))
set_option maxHeartbeats 4000000 in
theorem c_Od_takeCircle {Γ : Ctx} (γ : St) (a0 : Int) (ha0 : i32 a0) : NC Γ BS y_Od_takeCircle mt_Od_takeCircle 7 261 [vR Γ 10, vI a0] γ (f_Od_takeCircle γ a0) := by
  refine nc_of (by decide) rfl (Nat.le_of_ble_eq_true rfl) ?_
  show SB Γ BS mt_Od_takeCircle (RmN 7 261) 0 0 (KN Γ BS mt_Od_takeCircle.2.2.2) 0 [(0, vR Γ 10), (1, vI a0)] [] γ _
  unfold f_Od_takeCircle
  refine sb_aload_n 0 d_Od_takeCircle_0 rfl ?_
  refine g_Od_21 d_Od_takeCircle_1 ?_
  refine sb_aload_n 0 d_Od_takeCircle_4 rfl ?_
  refine g_Od_52 d_Od_takeCircle_5 (fun c40 => ?_)
  refine sb_iconst d_Od_takeCircle_8 ?_
  refine sb_isub d_Od_takeCircle_9 ?_
  refine sb_chk (fun c41 => ?_)
  refine al_S_72 d_Od_takeCircle_10 (fun _ c42 => ?_)
  refine sb_iload_n 1 d_Od_takeCircle_11 rfl ?_
  refine sb_icmp_ne 19 c42 ha0 d_Od_takeCircle_12 (by decide) (fun _ => ?_) (fun _ => ?_)
  · refine sb_iconst d_Od_takeCircle_19 ?_
    exact sb_lv [0, 1] rfl (s_Od_takeCircle_b20 γ a0 0 ha0 (by decide))
  · refine sb_iconst d_Od_takeCircle_15 ?_
    refine sb_goto 20 d_Od_takeCircle_16 (by decide) ?_
    exact sb_lv [0, 1] rfl (s_Od_takeCircle_b20 γ a0 1 ha0 (by decide))
theorem d_Od_closeSlot_0 : decode b_Od_closeSlot 0 = .ok (.aload_n 0, 1) := by decide +kernel
theorem d_Od_closeSlot_1 : decode b_Od_closeSlot 1 = .ok (.dup, 1) := by decide +kernel
theorem d_Od_closeSlot_2 : decode b_Od_closeSlot 2 = .ok (.getfield 55, 3) := by decide +kernel
theorem d_Od_closeSlot_5 : decode b_Od_closeSlot 5 = .ok (.iconst 1, 1) := by decide +kernel
theorem d_Od_closeSlot_6 : decode b_Od_closeSlot 6 = .ok (.isub, 1) := by decide +kernel
theorem d_Od_closeSlot_7 : decode b_Od_closeSlot 7 = .ok (.putfield 55, 3) := by decide +kernel
theorem d_Od_closeSlot_10 : decode b_Od_closeSlot 10 = .ok (.aload_n 0, 1) := by decide +kernel
theorem d_Od_closeSlot_11 : decode b_Od_closeSlot 11 = .ok (.getfield 55, 3) := by decide +kernel
theorem d_Od_closeSlot_14 : decode b_Od_closeSlot 14 = .ok (.ifCond .le 36, 3) := by decide +kernel
theorem d_Od_closeSlot_17 : decode b_Od_closeSlot 17 = .ok (.aload_n 0, 1) := by decide +kernel
theorem d_Od_closeSlot_18 : decode b_Od_closeSlot 18 = .ok (.getfield 24, 3) := by decide +kernel
theorem d_Od_closeSlot_21 : decode b_Od_closeSlot 21 = .ok (.aload_n 0, 1) := by decide +kernel
theorem d_Od_closeSlot_22 : decode b_Od_closeSlot 22 = .ok (.getfield 55, 3) := by decide +kernel
theorem d_Od_closeSlot_25 : decode b_Od_closeSlot 25 = .ok (.iconst 1, 1) := by decide +kernel
theorem d_Od_closeSlot_26 : decode b_Od_closeSlot 26 = .ok (.isub, 1) := by decide +kernel
theorem d_Od_closeSlot_27 : decode b_Od_closeSlot 27 = .ok (.iaload, 1) := by decide +kernel
theorem d_Od_closeSlot_28 : decode b_Od_closeSlot 28 = .ok (.istore_n 2, 1) := by decide +kernel
theorem d_Od_closeSlot_29 : decode b_Od_closeSlot 29 = .ok (.aload_n 0, 1) := by decide +kernel
theorem d_Od_closeSlot_30 : decode b_Od_closeSlot 30 = .ok (.getfield 15, 3) := by decide +kernel
theorem d_Od_closeSlot_33 : decode b_Od_closeSlot 33 = .ok (.iload_n 2, 1) := by decide +kernel
theorem d_Od_closeSlot_34 : decode b_Od_closeSlot 34 = .ok (.aload_n 0, 1) := by decide +kernel
theorem d_Od_closeSlot_35 : decode b_Od_closeSlot 35 = .ok (.getfield 15, 3) := by decide +kernel
theorem d_Od_closeSlot_38 : decode b_Od_closeSlot 38 = .ok (.iload_n 2, 1) := by decide +kernel
theorem d_Od_closeSlot_39 : decode b_Od_closeSlot 39 = .ok (.iaload, 1) := by decide +kernel
theorem d_Od_closeSlot_40 : decode b_Od_closeSlot 40 = .ok (.aload_n 0, 1) := by decide +kernel
theorem d_Od_closeSlot_41 : decode b_Od_closeSlot 41 = .ok (.getfield 15, 3) := by decide +kernel
theorem d_Od_closeSlot_44 : decode b_Od_closeSlot 44 = .ok (.iload_n 1, 1) := by decide +kernel
theorem d_Od_closeSlot_45 : decode b_Od_closeSlot 45 = .ok (.iaload, 1) := by decide +kernel
theorem d_Od_closeSlot_46 : decode b_Od_closeSlot 46 = .ok (.invokestatic 83, 3) := by decide +kernel
theorem d_Od_closeSlot_49 : decode b_Od_closeSlot 49 = .ok (.iastore, 1) := by decide +kernel
theorem d_Od_closeSlot_50 : decode b_Od_closeSlot 50 = .ok (.aload_n 0, 1) := by decide +kernel
theorem d_Od_closeSlot_51 : decode b_Od_closeSlot 51 = .ok (.getfield 15, 3) := by decide +kernel
theorem d_Od_closeSlot_54 : decode b_Od_closeSlot 54 = .ok (.iload_n 1, 1) := by decide +kernel
theorem d_Od_closeSlot_55 : decode b_Od_closeSlot 55 = .ok (.iaload, 1) := by decide +kernel
theorem d_Od_closeSlot_56 : decode b_Od_closeSlot 56 = .ok (.aload_n 0, 1) := by decide +kernel
theorem d_Od_closeSlot_57 : decode b_Od_closeSlot 57 = .ok (.getfield 9, 3) := by decide +kernel
theorem d_Od_closeSlot_60 : decode b_Od_closeSlot 60 = .ok (.iload_n 1, 1) := by decide +kernel
theorem d_Od_closeSlot_61 : decode b_Od_closeSlot 61 = .ok (.iaload, 1) := by decide +kernel
theorem d_Od_closeSlot_62 : decode b_Od_closeSlot 62 = .ok (.if_icmp .ne 8, 3) := by decide +kernel
theorem d_Od_closeSlot_65 : decode b_Od_closeSlot 65 = .ok (.aload_n 0, 1) := by decide +kernel
theorem d_Od_closeSlot_66 : decode b_Od_closeSlot 66 = .ok (.iload_n 1, 1) := by decide +kernel
theorem d_Od_closeSlot_67 : decode b_Od_closeSlot 67 = .ok (.invokevirtual 88, 3) := by decide +kernel
theorem d_Od_closeSlot_70 : decode b_Od_closeSlot 70 = .ok (.return_, 1) := by decide +kernel
abbrev mt_Od_closeSlot : MT := (R_Od, b_Od_closeSlot, 3, none)
theorem vf_Od_closeSlot : VF y_Od_closeSlot mt_Od_closeSlot 7 1 := ⟨im_Od_closeSlot, se_Od_closeSlot, in_Od, co_Od_closeSlot, by decide +kernel, _, _, rfl⟩
def f_Od_closeSlot_b50 (γ : St) (x1 : Int) : Option (Int × St) :=
  chk (inb x1 9001) (chk (inb x1 9001) (if (γ 70 x1) ≠ (γ 69 x1) then
  (some (0, γ))
  else
  (bndN (f_Od_takeCircle γ x1) fun _ γ7 =>
  some (0, γ7))))
def f_Od_closeSlot (γ : St) (a0 : Int) : Option (Int × St) :=
  chk (i32 ((γ 10 10) - 1)) (ap (setA γ 10 10 ((γ 10 10) - 1)) fun γ10 =>
  if (γ10 10 10) ≤ 0 then
  (f_Od_closeSlot_b50 γ10 a0)
  else
  (chk (i32 ((γ10 10 10) - 1)) (chk (inb ((γ10 10 10) - 1) 9001) (ap (γ10 73 ((γ10 10 10) - 1)) fun x16 =>
  chk (inb x16 9001) (chk (inb a0 9001) (chk (inb x16 9001) (ap (setA γ10 70 x16 (min (γ10 70 x16) (γ10 70 a0))) fun γ22 =>
  f_Od_closeSlot_b50 γ22 a0)))))))
set_option maxHeartbeats 4000000 in
theorem s_Od_closeSlot_b50 {Γ : Ctx} : ∀ (γ : St) (x1 : Int), i32 x1 → SB Γ BS mt_Od_closeSlot (RmN 8 285) 0 0 (KN Γ BS mt_Od_closeSlot.2.2.2) 50 [(0, vR Γ 10), (1, vI x1)] [] γ (f_Od_closeSlot_b50 γ x1) := by
  intro γ x1 hx1
  unfold f_Od_closeSlot_b50
  refine sb_aload_n 0 d_Od_closeSlot_50 rfl ?_
  refine g_Od_15 d_Od_closeSlot_51 ?_
  refine sb_iload_n 1 d_Od_closeSlot_54 rfl ?_
  refine al_S_70 d_Od_closeSlot_55 (fun _ c3 => ?_)
  refine sb_aload_n 0 d_Od_closeSlot_56 rfl ?_
  refine g_Od_9 d_Od_closeSlot_57 ?_
  refine sb_iload_n 1 d_Od_closeSlot_60 rfl ?_
  refine al_S_69 d_Od_closeSlot_61 (fun _ c5 => ?_)
  refine sb_icmp_ne 70 c3 c5 d_Od_closeSlot_62 (by decide) (fun _ => ?_) (fun _ => ?_)
  · exact sn_v rfl d_Od_closeSlot_70
  · refine sb_aload_n 0 d_Od_closeSlot_65 rfl ?_
    refine sb_iload_n 1 d_Od_closeSlot_66 rfl ?_
    refine sb_cVv vf_Od_takeCircle (c_Od_takeCircle γ x1 hx1) rfl ml_Od_88 (As := [vI x1]) rfl rfl (Nat.le_of_ble_eq_true rfl) ⟨by decide, by decide⟩ d_Od_closeSlot_67 (fun _ γ7 => ?_)
    exact sn_v rfl d_Od_closeSlot_70
set_option maxHeartbeats 4000000 in
theorem c_Od_closeSlot {Γ : Ctx} (γ : St) (a0 : Int) (ha0 : i32 a0) : NC Γ BS y_Od_closeSlot mt_Od_closeSlot 8 285 [vR Γ 10, vI a0] γ (f_Od_closeSlot γ a0) := by
  refine nc_of (by decide) rfl (Nat.le_of_ble_eq_true rfl) ?_
  show SB Γ BS mt_Od_closeSlot (RmN 8 285) 0 0 (KN Γ BS mt_Od_closeSlot.2.2.2) 0 [(0, vR Γ 10), (1, vI a0)] [] γ _
  unfold f_Od_closeSlot
  refine sb_aload_n 0 d_Od_closeSlot_0 rfl ?_
  refine sb_dup d_Od_closeSlot_1 rfl ?_
  refine g_Od_55 d_Od_closeSlot_2 (fun c8 => ?_)
  refine sb_iconst d_Od_closeSlot_5 ?_
  refine sb_isub d_Od_closeSlot_6 ?_
  refine sb_chk (fun c9 => ?_)
  refine p_Od_55 c9 d_Od_closeSlot_7 ?_
  refine sb_aps (fun γ10 => ?_)
  refine sb_aload_n 0 d_Od_closeSlot_10 rfl ?_
  refine g_Od_55 d_Od_closeSlot_11 (fun c11 => ?_)
  refine sb_if_le 50 c11 d_Od_closeSlot_14 (by decide) (fun _ => ?_) (fun _ => ?_)
  · exact sb_lv [0, 1] rfl (s_Od_closeSlot_b50 γ10 a0 ha0)
  · refine sb_aload_n 0 d_Od_closeSlot_17 rfl ?_
    refine g_Od_24 d_Od_closeSlot_18 ?_
    refine sb_aload_n 0 d_Od_closeSlot_21 rfl ?_
    refine g_Od_55 d_Od_closeSlot_22 (fun c13 => ?_)
    refine sb_iconst d_Od_closeSlot_25 ?_
    refine sb_isub d_Od_closeSlot_26 ?_
    refine sb_chk (fun c14 => ?_)
    refine al_S_73 d_Od_closeSlot_27 (fun _ c15 => ?_)
    refine sb_istore_n [(2, vI (γ10 73 ((γ10 10 10) - 1))), (0, vR Γ 10), (1, vI a0)] d_Od_closeSlot_28 (by decide) rfl ?_
    refine sb_nme (e := γ10 73 ((γ10 10 10) - 1)) (fun x16 => [(2, vI x16), (0, vR Γ 10), (1, vI a0)]) c15 (fun x16 hx16 => ?_)
    refine sb_aload_n 1 d_Od_closeSlot_29 rfl ?_
    refine g_Od_15 d_Od_closeSlot_30 ?_
    refine sb_iload_n 0 d_Od_closeSlot_33 rfl ?_
    refine sb_aload_n 1 d_Od_closeSlot_34 rfl ?_
    refine g_Od_15 d_Od_closeSlot_35 ?_
    refine sb_iload_n 0 d_Od_closeSlot_38 rfl ?_
    refine al_S_70 d_Od_closeSlot_39 (fun _ c19 => ?_)
    refine sb_aload_n 1 d_Od_closeSlot_40 rfl ?_
    refine g_Od_15 d_Od_closeSlot_41 ?_
    refine sb_iload_n 2 d_Od_closeSlot_44 rfl ?_
    refine al_S_70 d_Od_closeSlot_45 (fun _ c21 => ?_)
    refine sb_mmin c19 c21 ml_Od_83 sm_java_lang_Math_min in_java_lang_Math co_java_lang_Math_min ⟨by first | decide | (simp only [RmT, RmN]; omega), by first | exact Nat.le_of_ble_eq_true rfl | (simp [RmT, RmN, Value.category] <;> omega)⟩ d_Od_closeSlot_46 ?_
    refine as_S_70 ((mm_b c19 c21).2) d_Od_closeSlot_49 (fun _ => ?_)
    refine sb_aps (fun γ22 => ?_)
    exact sb_lv [1, 2] rfl (s_Od_closeSlot_b50 γ22 a0 ha0)
theorem d_Sl_side_0 : decode b_Sl_side 0 = .ok (.iload_n 2, 1) := by decide +kernel
theorem d_Sl_side_1 : decode b_Sl_side 1 = .ok (.ifCond .ne 12, 3) := by decide +kernel
theorem d_Sl_side_4 : decode b_Sl_side 4 = .ok (.aload_n 0, 1) := by decide +kernel
theorem d_Sl_side_5 : decode b_Sl_side 5 = .ok (.getfield 15, 3) := by decide +kernel
theorem d_Sl_side_8 : decode b_Sl_side 8 = .ok (.iload_n 1, 1) := by decide +kernel
theorem d_Sl_side_9 : decode b_Sl_side 9 = .ok (.iaload, 1) := by decide +kernel
theorem d_Sl_side_10 : decode b_Sl_side 10 = .ok (.goto 23, 3) := by decide +kernel
theorem d_Sl_side_13 : decode b_Sl_side 13 = .ok (.iload_n 2, 1) := by decide +kernel
theorem d_Sl_side_14 : decode b_Sl_side 14 = .ok (.iconst 1, 1) := by decide +kernel
theorem d_Sl_side_15 : decode b_Sl_side 15 = .ok (.if_icmp .ne 12, 3) := by decide +kernel
theorem d_Sl_side_18 : decode b_Sl_side 18 = .ok (.aload_n 0, 1) := by decide +kernel
theorem d_Sl_side_19 : decode b_Sl_side 19 = .ok (.getfield 18, 3) := by decide +kernel
theorem d_Sl_side_22 : decode b_Sl_side 22 = .ok (.iload_n 1, 1) := by decide +kernel
theorem d_Sl_side_23 : decode b_Sl_side 23 = .ok (.iaload, 1) := by decide +kernel
theorem d_Sl_side_24 : decode b_Sl_side 24 = .ok (.goto 9, 3) := by decide +kernel
theorem d_Sl_side_27 : decode b_Sl_side 27 = .ok (.aload_n 0, 1) := by decide +kernel
theorem d_Sl_side_28 : decode b_Sl_side 28 = .ok (.getfield 21, 3) := by decide +kernel
theorem d_Sl_side_31 : decode b_Sl_side 31 = .ok (.iload_n 1, 1) := by decide +kernel
theorem d_Sl_side_32 : decode b_Sl_side 32 = .ok (.iaload, 1) := by decide +kernel
theorem d_Sl_side_33 : decode b_Sl_side 33 = .ok (.ireturn, 1) := by decide +kernel
abbrev mt_Sl_side : MT := (R_Sl, b_Sl_side, 3, some .int)
theorem vf_Sl_side : VF y_Sl_side mt_Sl_side 9 2 := ⟨im_Sl_side, se_Sl_side, in_Sl, co_Sl_side, by decide +kernel, _, _, rfl⟩
def f_Sl_side (γ : St) (a0 : Int) (a1 : Int) : Option (Int × St) :=
  if a1 ≠ 0 then
  (if a1 ≠ 1 then
  (chk (inb a0 9001) (some (γ 57 a0, γ)))
  else
  (chk (inb a0 9001) (some (γ 56 a0, γ))))
  else
  (chk (inb a0 9001) (some (γ 55 a0, γ)))
set_option maxHeartbeats 4000000 in
theorem c_Sl_side {Γ : Ctx} (γ : St) (a0 : Int) (a1 : Int) (ha0 : i32 a0) (ha1 : i32 a1) : NC Γ BS y_Sl_side mt_Sl_side 6 240 [vR Γ 8, vI a0, vI a1] γ (f_Sl_side γ a0 a1) := by
  refine nc_of (by decide) rfl (Nat.le_of_ble_eq_true rfl) ?_
  show SB Γ BS mt_Sl_side (RmN 6 240) 0 0 (KN Γ BS mt_Sl_side.2.2.2) 0 [(0, vR Γ 8), (1, vI a0), (2, vI a1)] [] γ _
  unfold f_Sl_side
  refine sb_iload_n 2 d_Sl_side_0 rfl ?_
  refine sb_if_ne 13 ha1 d_Sl_side_1 (by decide) (fun _ => ?_) (fun _ => ?_)
  · refine sb_iload_n 2 d_Sl_side_13 rfl ?_
    refine sb_iconst d_Sl_side_14 ?_
    refine sb_icmp_ne 27 ha1 (by decide) d_Sl_side_15 (by decide) (fun _ => ?_) (fun _ => ?_)
    · refine sb_aload_n 0 d_Sl_side_27 rfl ?_
      refine g_Sl_21 d_Sl_side_28 ?_
      refine sb_iload_n 1 d_Sl_side_31 rfl ?_
      refine al_S_57 d_Sl_side_32 (fun _ c2 => ?_)
      exact sn_i rfl c2 d_Sl_side_33
    · refine sb_aload_n 0 d_Sl_side_18 rfl ?_
      refine g_Sl_18 d_Sl_side_19 ?_
      refine sb_iload_n 1 d_Sl_side_22 rfl ?_
      refine al_S_56 d_Sl_side_23 (fun _ c4 => ?_)
      refine sb_goto 33 d_Sl_side_24 (by decide) ?_
      exact sn_i rfl c4 d_Sl_side_33
  · refine sb_aload_n 0 d_Sl_side_4 rfl ?_
    refine g_Sl_15 d_Sl_side_5 ?_
    refine sb_iload_n 1 d_Sl_side_8 rfl ?_
    refine al_S_55 d_Sl_side_9 (fun _ c6 => ?_)
    refine sb_goto 33 d_Sl_side_10 (by decide) ?_
    exact sn_i rfl c6 d_Sl_side_33
theorem d_Od_advance_0 : decode b_Od_advance 0 = .ok (.aload_n 0, 1) := by decide +kernel
theorem d_Od_advance_1 : decode b_Od_advance 1 = .ok (.getfield 18, 3) := by decide +kernel
theorem d_Od_advance_4 : decode b_Od_advance 4 = .ok (.iload_n 1, 1) := by decide +kernel
theorem d_Od_advance_5 : decode b_Od_advance 5 = .ok (.iaload, 1) := by decide +kernel
theorem d_Od_advance_6 : decode b_Od_advance 6 = .ok (.iconst 3, 1) := by decide +kernel
theorem d_Od_advance_7 : decode b_Od_advance 7 = .ok (.if_icmp .ne 9, 3) := by decide +kernel
theorem d_Od_advance_10 : decode b_Od_advance 10 = .ok (.aload_n 0, 1) := by decide +kernel
theorem d_Od_advance_11 : decode b_Od_advance 11 = .ok (.iload_n 1, 1) := by decide +kernel
theorem d_Od_advance_12 : decode b_Od_advance 12 = .ok (.invokevirtual 74, 3) := by decide +kernel
theorem d_Od_advance_15 : decode b_Od_advance 15 = .ok (.return_, 1) := by decide +kernel
theorem d_Od_advance_16 : decode b_Od_advance 16 = .ok (.aload_n 0, 1) := by decide +kernel
theorem d_Od_advance_17 : decode b_Od_advance 17 = .ok (.getfield 33, 3) := by decide +kernel
theorem d_Od_advance_20 : decode b_Od_advance 20 = .ok (.iload_n 1, 1) := by decide +kernel
theorem d_Od_advance_21 : decode b_Od_advance 21 = .ok (.aload_n 0, 1) := by decide +kernel
theorem d_Od_advance_22 : decode b_Od_advance 22 = .ok (.getfield 18, 3) := by decide +kernel
theorem d_Od_advance_25 : decode b_Od_advance 25 = .ok (.iload_n 1, 1) := by decide +kernel
theorem d_Od_advance_26 : decode b_Od_advance 26 = .ok (.iaload, 1) := by decide +kernel
theorem d_Od_advance_27 : decode b_Od_advance 27 = .ok (.invokevirtual 77, 3) := by decide +kernel
theorem d_Od_advance_30 : decode b_Od_advance 30 = .ok (.istore_n 2, 1) := by decide +kernel
theorem d_Od_advance_31 : decode b_Od_advance 31 = .ok (.aload_n 0, 1) := by decide +kernel
theorem d_Od_advance_32 : decode b_Od_advance 32 = .ok (.getfield 18, 3) := by decide +kernel
theorem d_Od_advance_35 : decode b_Od_advance 35 = .ok (.iload_n 1, 1) := by decide +kernel
theorem d_Od_advance_36 : decode b_Od_advance 36 = .ok (.dup2, 1) := by decide +kernel
theorem d_Od_advance_37 : decode b_Od_advance 37 = .ok (.iaload, 1) := by decide +kernel
theorem d_Od_advance_38 : decode b_Od_advance 38 = .ok (.iconst 1, 1) := by decide +kernel
theorem d_Od_advance_39 : decode b_Od_advance 39 = .ok (.iadd, 1) := by decide +kernel
theorem d_Od_advance_40 : decode b_Od_advance 40 = .ok (.iastore, 1) := by decide +kernel
theorem d_Od_advance_41 : decode b_Od_advance 41 = .ok (.iload_n 2, 1) := by decide +kernel
theorem d_Od_advance_42 : decode b_Od_advance 42 = .ok (.ifCond .ge 4, 3) := by decide +kernel
theorem d_Od_advance_45 : decode b_Od_advance 45 = .ok (.return_, 1) := by decide +kernel
theorem d_Od_advance_46 : decode b_Od_advance 46 = .ok (.iload_n 2, 1) := by decide +kernel
theorem d_Od_advance_47 : decode b_Od_advance 47 = .ok (.iload_n 1, 1) := by decide +kernel
theorem d_Od_advance_48 : decode b_Od_advance 48 = .ok (.if_icmp .ne 8, 3) := by decide +kernel
theorem d_Od_advance_51 : decode b_Od_advance 51 = .ok (.aload_n 0, 1) := by decide +kernel
theorem d_Od_advance_52 : decode b_Od_advance 52 = .ok (.iload_n 1, 1) := by decide +kernel
theorem d_Od_advance_53 : decode b_Od_advance 53 = .ok (.invokevirtual 80, 3) := by decide +kernel
theorem d_Od_advance_56 : decode b_Od_advance 56 = .ok (.aload_n 0, 1) := by decide +kernel
theorem d_Od_advance_57 : decode b_Od_advance 57 = .ok (.getfield 9, 3) := by decide +kernel
theorem d_Od_advance_60 : decode b_Od_advance 60 = .ok (.iload_n 2, 1) := by decide +kernel
theorem d_Od_advance_61 : decode b_Od_advance 61 = .ok (.iaload, 1) := by decide +kernel
theorem d_Od_advance_62 : decode b_Od_advance 62 = .ok (.ifCond .ne 11, 3) := by decide +kernel
theorem d_Od_advance_65 : decode b_Od_advance 65 = .ok (.aload_n 0, 1) := by decide +kernel
theorem d_Od_advance_66 : decode b_Od_advance 66 = .ok (.iload_n 2, 1) := by decide +kernel
theorem d_Od_advance_67 : decode b_Od_advance 67 = .ok (.invokevirtual 67, 3) := by decide +kernel
theorem d_Od_advance_70 : decode b_Od_advance 70 = .ok (.goto 24, 3) := by decide +kernel
theorem d_Od_advance_73 : decode b_Od_advance 73 = .ok (.aload_n 0, 1) := by decide +kernel
theorem d_Od_advance_74 : decode b_Od_advance 74 = .ok (.getfield 15, 3) := by decide +kernel
theorem d_Od_advance_77 : decode b_Od_advance 77 = .ok (.iload_n 1, 1) := by decide +kernel
theorem d_Od_advance_78 : decode b_Od_advance 78 = .ok (.aload_n 0, 1) := by decide +kernel
theorem d_Od_advance_79 : decode b_Od_advance 79 = .ok (.getfield 15, 3) := by decide +kernel
theorem d_Od_advance_82 : decode b_Od_advance 82 = .ok (.iload_n 1, 1) := by decide +kernel
theorem d_Od_advance_83 : decode b_Od_advance 83 = .ok (.iaload, 1) := by decide +kernel
theorem d_Od_advance_84 : decode b_Od_advance 84 = .ok (.aload_n 0, 1) := by decide +kernel
theorem d_Od_advance_85 : decode b_Od_advance 85 = .ok (.getfield 9, 3) := by decide +kernel
theorem d_Od_advance_88 : decode b_Od_advance 88 = .ok (.iload_n 2, 1) := by decide +kernel
theorem d_Od_advance_89 : decode b_Od_advance 89 = .ok (.iaload, 1) := by decide +kernel
theorem d_Od_advance_90 : decode b_Od_advance 90 = .ok (.invokestatic 83, 3) := by decide +kernel
theorem d_Od_advance_93 : decode b_Od_advance 93 = .ok (.iastore, 1) := by decide +kernel
theorem d_Od_advance_94 : decode b_Od_advance 94 = .ok (.return_, 1) := by decide +kernel
abbrev mt_Od_advance : MT := (R_Od, b_Od_advance, 3, none)
theorem vf_Od_advance : VF y_Od_advance mt_Od_advance 7 1 := ⟨im_Od_advance, se_Od_advance, in_Od, co_Od_advance, by decide +kernel, _, _, rfl⟩
def f_Od_advance_b56 (γ : St) (x1 : Int) (x2 : Int) : Option (Int × St) :=
  chk (inb x2 9001) (if (γ 69 x2) ≠ 0 then
  (chk (inb x1 9001) (chk (inb x2 9001) (chk (inb x1 9001) (ap (setA γ 70 x1 (min (γ 70 x1) (γ 69 x2))) fun γ10 =>
  some (0, γ10)))))
  else
  (bndN (f_Od_openSlot γ x2) fun _ γ12 =>
  some (0, γ12)))
def f_Od_advance (γ : St) (a0 : Int) : Option (Int × St) :=
  chk (inb a0 9001) (if (γ 71 a0) ≠ 3 then
  (chk (inb a0 9001) (bndN (f_Sl_side γ a0 (γ 71 a0)) fun r18 γ19 =>
  chk (inb a0 9001) (chk (i32 ((γ19 71 a0) + 1)) (chk (inb a0 9001) (ap (setA γ19 71 a0 ((γ19 71 a0) + 1)) fun γ23 =>
  if 0 ≤ r18 then
  (if r18 ≠ a0 then
  (f_Od_advance_b56 γ23 a0 r18)
  else
  (bndN (f_Od_noteOwnCause γ23 a0) fun _ γ25 =>
  f_Od_advance_b56 γ25 a0 r18))
  else
  (some (0, γ23)))))))
  else
  (bndN (f_Od_closeSlot γ a0) fun _ γ27 =>
  some (0, γ27)))
set_option maxHeartbeats 4000000 in
theorem s_Od_advance_b56 {Γ : Ctx} : ∀ (γ : St) (x1 : Int) (x2 : Int), i32 x1 → i32 x2 → SB Γ BS mt_Od_advance (RmN 9 307) 0 0 (KN Γ BS mt_Od_advance.2.2.2) 56 [(0, vR Γ 10), (1, vI x1), (2, vI x2)] [] γ (f_Od_advance_b56 γ x1 x2) := by
  intro γ x1 x2 hx1 hx2
  unfold f_Od_advance_b56
  refine sb_aload_n 0 d_Od_advance_56 rfl ?_
  refine g_Od_9 d_Od_advance_57 ?_
  refine sb_iload_n 2 d_Od_advance_60 rfl ?_
  refine al_S_69 d_Od_advance_61 (fun _ c4 => ?_)
  refine sb_if_ne 73 c4 d_Od_advance_62 (by decide) (fun _ => ?_) (fun _ => ?_)
  · refine sb_aload_n 0 d_Od_advance_73 rfl ?_
    refine g_Od_15 d_Od_advance_74 ?_
    refine sb_iload_n 1 d_Od_advance_77 rfl ?_
    refine sb_aload_n 0 d_Od_advance_78 rfl ?_
    refine g_Od_15 d_Od_advance_79 ?_
    refine sb_iload_n 1 d_Od_advance_82 rfl ?_
    refine al_S_70 d_Od_advance_83 (fun _ c7 => ?_)
    refine sb_aload_n 0 d_Od_advance_84 rfl ?_
    refine g_Od_9 d_Od_advance_85 ?_
    refine sb_iload_n 2 d_Od_advance_88 rfl ?_
    refine al_S_69 d_Od_advance_89 (fun _ c9 => ?_)
    refine sb_mmin c7 c9 ml_Od_83 sm_java_lang_Math_min in_java_lang_Math co_java_lang_Math_min ⟨by first | decide | (simp only [RmT, RmN]; omega), by first | exact Nat.le_of_ble_eq_true rfl | (simp [RmT, RmN, Value.category] <;> omega)⟩ d_Od_advance_90 ?_
    refine as_S_70 ((mm_b c7 c9).2) d_Od_advance_93 (fun _ => ?_)
    refine sb_aps (fun γ10 => ?_)
    exact sn_v rfl d_Od_advance_94
  · refine sb_aload_n 0 d_Od_advance_65 rfl ?_
    refine sb_iload_n 2 d_Od_advance_66 rfl ?_
    refine sb_cVv vf_Od_openSlot (c_Od_openSlot γ x2 hx2) rfl ml_Od_67 (As := [vI x2]) rfl rfl (Nat.le_of_ble_eq_true rfl) ⟨by decide, by decide⟩ d_Od_advance_67 (fun _ γ12 => ?_)
    refine sb_goto 94 d_Od_advance_70 (by decide) ?_
    exact sn_v rfl d_Od_advance_94
set_option maxHeartbeats 4000000 in
theorem c_Od_advance {Γ : Ctx} (γ : St) (a0 : Int) (ha0 : i32 a0) : NC Γ BS y_Od_advance mt_Od_advance 9 307 [vR Γ 10, vI a0] γ (f_Od_advance γ a0) := by
  refine nc_of (by decide) rfl (Nat.le_of_ble_eq_true rfl) ?_
  show SB Γ BS mt_Od_advance (RmN 9 307) 0 0 (KN Γ BS mt_Od_advance.2.2.2) 0 [(0, vR Γ 10), (1, vI a0)] [] γ _
  unfold f_Od_advance
  refine sb_aload_n 0 d_Od_advance_0 rfl ?_
  refine g_Od_18 d_Od_advance_1 ?_
  refine sb_iload_n 1 d_Od_advance_4 rfl ?_
  refine al_S_71 d_Od_advance_5 (fun _ c14 => ?_)
  refine sb_iconst d_Od_advance_6 ?_
  refine sb_icmp_ne 16 c14 (by decide) d_Od_advance_7 (by decide) (fun _ => ?_) (fun _ => ?_)
  · refine sb_aload_n 0 d_Od_advance_16 rfl ?_
    refine g_Od_33 d_Od_advance_17 ?_
    refine sb_iload_n 1 d_Od_advance_20 rfl ?_
    refine sb_aload_n 0 d_Od_advance_21 rfl ?_
    refine g_Od_18 d_Od_advance_22 ?_
    refine sb_iload_n 1 d_Od_advance_25 rfl ?_
    refine al_S_71 d_Od_advance_26 (fun _ c17 => ?_)
    refine sb_cVi vf_Sl_side (c_Sl_side γ a0 (γ 71 a0) ha0 c17) rfl ml_Od_77 (As := [vI a0, vI (γ 71 a0)]) rfl rfl (Nat.le_of_ble_eq_true rfl) ⟨by decide, by decide⟩ d_Od_advance_27 (fun r18 γ19 hr18 => ?_)
    refine sb_istore_n [(2, vI r18), (0, vR Γ 10), (1, vI a0)] d_Od_advance_30 (by decide) rfl ?_
    refine sb_aload_n 1 d_Od_advance_31 rfl ?_
    refine g_Od_18 d_Od_advance_32 ?_
    refine sb_iload_n 2 d_Od_advance_35 rfl ?_
    refine sb_dup2 d_Od_advance_36 rfl rfl ?_
    refine al_S_71 d_Od_advance_37 (fun _ c21 => ?_)
    refine sb_iconst d_Od_advance_38 ?_
    refine sb_iadd d_Od_advance_39 ?_
    refine sb_chk (fun c22 => ?_)
    refine as_S_71 c22 d_Od_advance_40 (fun _ => ?_)
    refine sb_aps (fun γ23 => ?_)
    refine sb_iload_n 0 d_Od_advance_41 rfl ?_
    refine sb_if_ge 46 hr18 d_Od_advance_42 (by decide) (fun _ => ?_) (fun _ => ?_)
    · refine sb_iload_n 0 d_Od_advance_46 rfl ?_
      refine sb_iload_n 2 d_Od_advance_47 rfl ?_
      refine sb_icmp_ne 56 hr18 ha0 d_Od_advance_48 (by decide) (fun _ => ?_) (fun _ => ?_)
      · exact sb_lv [1, 2, 0] rfl (s_Od_advance_b56 γ23 a0 r18 ha0 hr18)
      · refine sb_aload_n 1 d_Od_advance_51 rfl ?_
        refine sb_iload_n 2 d_Od_advance_52 rfl ?_
        refine sb_cVv vf_Od_noteOwnCause (c_Od_noteOwnCause γ23 a0 ha0) rfl ml_Od_80 (As := [vI a0]) rfl rfl (Nat.le_of_ble_eq_true rfl) ⟨by decide, by decide⟩ d_Od_advance_53 (fun _ γ25 => ?_)
        exact sb_lv [1, 2, 0] rfl (s_Od_advance_b56 γ25 a0 r18 ha0 hr18)
    · exact sn_v rfl d_Od_advance_45
  · refine sb_aload_n 0 d_Od_advance_10 rfl ?_
    refine sb_iload_n 1 d_Od_advance_11 rfl ?_
    refine sb_cVv vf_Od_closeSlot (c_Od_closeSlot γ a0 ha0) rfl ml_Od_74 (As := [vI a0]) rfl rfl (Nat.le_of_ble_eq_true rfl) ⟨by decide, by decide⟩ d_Od_advance_12 (fun _ γ27 => ?_)
    exact sn_v rfl d_Od_advance_15
theorem d_Od_sort_0 : decode b_Od_sort 0 = .ok (.aload_n 0, 1) := by decide +kernel
theorem d_Od_sort_1 : decode b_Od_sort 1 = .ok (.getfield 33, 3) := by decide +kernel
theorem d_Od_sort_4 : decode b_Od_sort 4 = .ok (.getfield 37, 3) := by decide +kernel
theorem d_Od_sort_7 : decode b_Od_sort 7 = .ok (.istore_n 1, 1) := by decide +kernel
theorem d_Od_sort_8 : decode b_Od_sort 8 = .ok (.aload_n 0, 1) := by decide +kernel
theorem d_Od_sort_9 : decode b_Od_sort 9 = .ok (.getfield 9, 3) := by decide +kernel
theorem d_Od_sort_12 : decode b_Od_sort 12 = .ok (.iconst 0, 1) := by decide +kernel
theorem d_Od_sort_13 : decode b_Od_sort 13 = .ok (.iload_n 1, 1) := by decide +kernel
theorem d_Od_sort_14 : decode b_Od_sort 14 = .ok (.iconst 0, 1) := by decide +kernel
theorem d_Od_sort_15 : decode b_Od_sort 15 = .ok (.invokestatic 43, 3) := by decide +kernel
theorem d_Od_sort_18 : decode b_Od_sort 18 = .ok (.aload_n 0, 1) := by decide +kernel
theorem d_Od_sort_19 : decode b_Od_sort 19 = .ok (.getfield 27, 3) := by decide +kernel
theorem d_Od_sort_22 : decode b_Od_sort 22 = .ok (.iconst 0, 1) := by decide +kernel
theorem d_Od_sort_23 : decode b_Od_sort 23 = .ok (.iload_n 1, 1) := by decide +kernel
theorem d_Od_sort_24 : decode b_Od_sort 24 = .ok (.iconst 0, 1) := by decide +kernel
theorem d_Od_sort_25 : decode b_Od_sort 25 = .ok (.invokestatic 43, 3) := by decide +kernel
theorem d_Od_sort_28 : decode b_Od_sort 28 = .ok (.aload_n 0, 1) := by decide +kernel
theorem d_Od_sort_29 : decode b_Od_sort 29 = .ok (.iconst 0, 1) := by decide +kernel
theorem d_Od_sort_30 : decode b_Od_sort 30 = .ok (.putfield 49, 3) := by decide +kernel
theorem d_Od_sort_33 : decode b_Od_sort 33 = .ok (.aload_n 0, 1) := by decide +kernel
theorem d_Od_sort_34 : decode b_Od_sort 34 = .ok (.iconst 0, 1) := by decide +kernel
theorem d_Od_sort_35 : decode b_Od_sort 35 = .ok (.putfield 52, 3) := by decide +kernel
theorem d_Od_sort_38 : decode b_Od_sort 38 = .ok (.aload_n 0, 1) := by decide +kernel
theorem d_Od_sort_39 : decode b_Od_sort 39 = .ok (.iconst 0, 1) := by decide +kernel
theorem d_Od_sort_40 : decode b_Od_sort 40 = .ok (.putfield 55, 3) := by decide +kernel
theorem d_Od_sort_43 : decode b_Od_sort 43 = .ok (.aload_n 0, 1) := by decide +kernel
theorem d_Od_sort_44 : decode b_Od_sort 44 = .ok (.iconst 0, 1) := by decide +kernel
theorem d_Od_sort_45 : decode b_Od_sort 45 = .ok (.putfield 58, 3) := by decide +kernel
theorem d_Od_sort_48 : decode b_Od_sort 48 = .ok (.aload_n 0, 1) := by decide +kernel
theorem d_Od_sort_49 : decode b_Od_sort 49 = .ok (.iconst 0, 1) := by decide +kernel
theorem d_Od_sort_50 : decode b_Od_sort 50 = .ok (.putfield 61, 3) := by decide +kernel
theorem d_Od_sort_53 : decode b_Od_sort 53 = .ok (.aload_n 0, 1) := by decide +kernel
theorem d_Od_sort_54 : decode b_Od_sort 54 = .ok (.iconst (-1), 1) := by decide +kernel
theorem d_Od_sort_55 : decode b_Od_sort 55 = .ok (.putfield 64, 3) := by decide +kernel
theorem d_Od_sort_58 : decode b_Od_sort 58 = .ok (.iconst 0, 1) := by decide +kernel
theorem d_Od_sort_59 : decode b_Od_sort 59 = .ok (.istore_n 2, 1) := by decide +kernel
theorem d_Od_sort_60 : decode b_Od_sort 60 = .ok (.iload_n 2, 1) := by decide +kernel
theorem d_Od_sort_61 : decode b_Od_sort 61 = .ok (.iload_n 1, 1) := by decide +kernel
theorem d_Od_sort_62 : decode b_Od_sort 62 = .ok (.if_icmp .ge 60, 3) := by decide +kernel
theorem d_Od_sort_65 : decode b_Od_sort 65 = .ok (.aload_n 0, 1) := by decide +kernel
theorem d_Od_sort_66 : decode b_Od_sort 66 = .ok (.getfield 9, 3) := by decide +kernel
theorem d_Od_sort_69 : decode b_Od_sort 69 = .ok (.iload_n 2, 1) := by decide +kernel
theorem d_Od_sort_70 : decode b_Od_sort 70 = .ok (.iaload, 1) := by decide +kernel
theorem d_Od_sort_71 : decode b_Od_sort 71 = .ok (.ifCond .ne 8, 3) := by decide +kernel
theorem d_Od_sort_74 : decode b_Od_sort 74 = .ok (.aload_n 0, 1) := by decide +kernel
theorem d_Od_sort_75 : decode b_Od_sort 75 = .ok (.iload_n 2, 1) := by decide +kernel
theorem d_Od_sort_76 : decode b_Od_sort 76 = .ok (.invokevirtual 67, 3) := by decide +kernel
theorem d_Od_sort_79 : decode b_Od_sort 79 = .ok (.iconst 0, 1) := by decide +kernel
theorem d_Od_sort_80 : decode b_Od_sort 80 = .ok (.istore_n 3, 1) := by decide +kernel
theorem d_Od_sort_81 : decode b_Od_sort 81 = .ok (.aload_n 0, 1) := by decide +kernel
theorem d_Od_sort_82 : decode b_Od_sort 82 = .ok (.getfield 55, 3) := by decide +kernel
theorem d_Od_sort_85 : decode b_Od_sort 85 = .ok (.ifCond .le 31, 3) := by decide +kernel
theorem d_Od_sort_88 : decode b_Od_sort 88 = .ok (.iload_n 3, 1) := by decide +kernel
theorem d_Od_sort_89 : decode b_Od_sort 89 = .ok (.iconst 5, 1) := by decide +kernel
theorem d_Od_sort_90 : decode b_Od_sort 90 = .ok (.iload_n 1, 1) := by decide +kernel
theorem d_Od_sort_91 : decode b_Od_sort 91 = .ok (.imul, 1) := by decide +kernel
theorem d_Od_sort_92 : decode b_Od_sort 92 = .ok (.if_icmp .gt 24, 3) := by decide +kernel
theorem d_Od_sort_95 : decode b_Od_sort 95 = .ok (.aload_n 0, 1) := by decide +kernel
theorem d_Od_sort_96 : decode b_Od_sort 96 = .ok (.aload_n 0, 1) := by decide +kernel
theorem d_Od_sort_97 : decode b_Od_sort 97 = .ok (.getfield 24, 3) := by decide +kernel
theorem d_Od_sort_100 : decode b_Od_sort 100 = .ok (.aload_n 0, 1) := by decide +kernel
theorem d_Od_sort_101 : decode b_Od_sort 101 = .ok (.getfield 55, 3) := by decide +kernel
theorem d_Od_sort_104 : decode b_Od_sort 104 = .ok (.iconst 1, 1) := by decide +kernel
theorem d_Od_sort_105 : decode b_Od_sort 105 = .ok (.isub, 1) := by decide +kernel
theorem d_Od_sort_106 : decode b_Od_sort 106 = .ok (.iaload, 1) := by decide +kernel
theorem d_Od_sort_107 : decode b_Od_sort 107 = .ok (.invokevirtual 71, 3) := by decide +kernel
theorem d_Od_sort_110 : decode b_Od_sort 110 = .ok (.iinc 3 1, 3) := by decide +kernel
theorem d_Od_sort_113 : decode b_Od_sort 113 = .ok (.goto (-32), 3) := by decide +kernel
theorem d_Od_sort_116 : decode b_Od_sort 116 = .ok (.iinc 2 1, 3) := by decide +kernel
theorem d_Od_sort_119 : decode b_Od_sort 119 = .ok (.goto (-59), 3) := by decide +kernel
theorem d_Od_sort_122 : decode b_Od_sort 122 = .ok (.return_, 1) := by decide +kernel
abbrev mt_Od_sort : MT := (R_Od, b_Od_sort, 4, none)
theorem vf_Od_sort : VF y_Od_sort mt_Od_sort 7 0 := ⟨im_Od_sort, se_Od_sort, in_Od, co_Od_sort, by decide +kernel, _, _, rfl⟩
def f_Od_sort_b116 (k60 : St → Int → Int → Option (Int × St)) (γ : St) (x1 : Int) (x2 : Int) : Option (Int × St) :=
  chk (i32 (x2 + 1)) (k60 γ x1 (x2 + 1))
def f_Od_sort_L81 (e116 : St → Int → Int → Option (Int × St)) : Nat → St → Int → Int → Int → Option (Int × St)
  | 0, _, _, _, _ => none
  | n + 1, γ, x6, x7, x8 =>
  if (γ 10 10) ≤ 0 then
  (e116 γ x6 x7)
  else
  (chk (i32 (5 * x6)) (if (5 * x6) < x8 then
  (e116 γ x6 x7)
  else
  (chk (i32 ((γ 10 10) - 1)) (chk (inb ((γ 10 10) - 1) 9001) (bndN (f_Od_advance γ (γ 73 ((γ 10 10) - 1))) fun _ γ16 =>
  chk (i32 (x8 + 1)) ((f_Od_sort_L81 e116 n) γ16 x6 x7 (x8 + 1)))))))
def f_Od_sort_b79 (k60 : St → Int → Int → Option (Int × St)) (γ : St) (x20 : Int) (x21 : Int) : Option (Int × St) :=
  f_Od_sort_L81 (f_Od_sort_b116 k60) FU γ x20 x21 0
def f_Od_sort_L60 : Nat → St → Int → Int → Option (Int × St)
  | 0, _, _, _ => none
  | n + 1, γ, x24, x25 =>
  if x24 ≤ x25 then
  (some (0, γ))
  else
  (chk (inb x25 9001) (if (γ 69 x25) ≠ 0 then
  (f_Od_sort_b79 (f_Od_sort_L60 n) γ x24 x25)
  else
  (bndN (f_Od_openSlot γ x25) fun _ γ29 =>
  f_Od_sort_b79 (f_Od_sort_L60 n) γ29 x24 x25)))
def f_Od_sort (γ : St) : Option (Int × St) :=
  ap (γ 8 5) fun x32 =>
  chk (0 ≤ x32 ∧ (0 : Int) ≤ 0 ∧ x32 ≤ 9001) (ap (flA γ 69 0 x32 0) fun γ34 =>
  chk (0 ≤ x32 ∧ (0 : Int) ≤ 0 ∧ x32 ≤ 9001) (ap (flA γ34 74 0 x32 0) fun γ36 =>
  ap (setA γ36 10 8 0) fun γ37 =>
  ap (setA γ37 10 9 0) fun γ38 =>
  ap (setA γ38 10 10 0) fun γ39 =>
  ap (setA γ39 10 11 0) fun γ40 =>
  ap (setA γ40 10 12 0) fun γ41 =>
  ap (setA γ41 10 13 (-1)) fun γ42 =>
  f_Od_sort_L60  FU γ42 x32 0))
set_option maxHeartbeats 4000000 in
theorem s_Od_sort_b116 {Γ : Ctx} {k60 : St → Int → Int → Option (Int × St)} (hk60 : ∀ (γ : St) (x4 : Int) (x5 : Int), i32 x4 → i32 x5 → SB Γ BS mt_Od_sort (RmN 10 329) 0 0 (KN Γ BS mt_Od_sort.2.2.2) 60 [(0, vR Γ 10), (1, vI x4), (2, vI x5)] [] γ (k60 γ x4 x5)) : ∀ (γ : St) (x1 : Int) (x2 : Int), i32 x1 → i32 x2 → SB Γ BS mt_Od_sort (RmN 10 329) 0 0 (KN Γ BS mt_Od_sort.2.2.2) 116 [(0, vR Γ 10), (1, vI x1), (2, vI x2)] [] γ (f_Od_sort_b116 k60 γ x1 x2) := by
  intro γ x1 x2 hx1 hx2
  unfold f_Od_sort_b116
  refine sb_iinc 2 [(2, vI (x2 + 1)), (0, vR Γ 10), (1, vI x1)] d_Od_sort_116 rfl (by decide) rfl ?_
  refine sb_chk (fun c3 => ?_)
  refine sb_goto 60 d_Od_sort_119 (by decide) ?_
  exact sb_lv [1, 2, 0] rfl (hk60 γ x1 (x2 + 1) hx1 c3)
set_option maxHeartbeats 4000000 in
theorem s_Od_sort_L81 {Γ : Ctx} {e116 : St → Int → Int → Option (Int × St)} (he116 : ∀ (γ : St) (x18 : Int) (x19 : Int), i32 x18 → i32 x19 → SB Γ BS mt_Od_sort (RmN 10 329) 0 0 (KN Γ BS mt_Od_sort.2.2.2) 116 [(0, vR Γ 10), (1, vI x18), (2, vI x19)] [] γ (e116 γ x18 x19)) : ∀ (n : Nat) (γ : St) (x6 : Int) (x7 : Int) (x8 : Int), i32 x6 → i32 x7 → i32 x8 → SB Γ BS mt_Od_sort (RmN 10 329) 0 0 (KN Γ BS mt_Od_sort.2.2.2) 81 [(0, vR Γ 10), (1, vI x6), (2, vI x7), (3, vI x8)] [] γ (f_Od_sort_L81 e116 n γ x6 x7 x8) := by
  intro n
  induction n with
  | zero => intros; exact sb_none
  | succ n ih =>
    intro γ x6 x7 x8 hx6 hx7 hx8
    unfold f_Od_sort_L81
    refine sb_aload_n 0 d_Od_sort_81 rfl ?_
    refine g_Od_55 d_Od_sort_82 (fun c9 => ?_)
    refine sb_if_le 116 c9 d_Od_sort_85 (by decide) (fun _ => ?_) (fun _ => ?_)
    · exact sb_lv [0, 1, 2] rfl (he116 γ x6 x7 hx6 hx7)
    · refine sb_iload_n 3 d_Od_sort_88 rfl ?_
      refine sb_iconst d_Od_sort_89 ?_
      refine sb_iload_n 1 d_Od_sort_90 rfl ?_
      refine sb_imul d_Od_sort_91 ?_
      refine sb_chk (fun c10 => ?_)
      refine sb_icmp_gt 116 hx8 c10 d_Od_sort_92 (by decide) (fun _ => ?_) (fun _ => ?_)
      · exact sb_lv [0, 1, 2] rfl (he116 γ x6 x7 hx6 hx7)
      · refine sb_aload_n 0 d_Od_sort_95 rfl ?_
        refine sb_aload_n 0 d_Od_sort_96 rfl ?_
        refine g_Od_24 d_Od_sort_97 ?_
        refine sb_aload_n 0 d_Od_sort_100 rfl ?_
        refine g_Od_55 d_Od_sort_101 (fun c12 => ?_)
        refine sb_iconst d_Od_sort_104 ?_
        refine sb_isub d_Od_sort_105 ?_
        refine sb_chk (fun c13 => ?_)
        refine al_S_73 d_Od_sort_106 (fun _ c14 => ?_)
        refine sb_cVv vf_Od_advance (c_Od_advance γ (γ 73 ((γ 10 10) - 1)) c14) rfl ml_Od_71 (As := [vI (γ 73 ((γ 10 10) - 1))]) rfl rfl (Nat.le_of_ble_eq_true rfl) ⟨by decide, by decide⟩ d_Od_sort_107 (fun _ γ16 => ?_)
        refine sb_iinc 3 [(3, vI (x8 + 1)), (0, vR Γ 10), (1, vI x6), (2, vI x7)] d_Od_sort_110 rfl (by decide) rfl ?_
        refine sb_chk (fun c17 => ?_)
        refine sb_goto 81 d_Od_sort_113 (by decide) ?_
        exact sb_lv [1, 2, 3, 0] rfl (ih γ16 x6 x7 (x8 + 1) hx6 hx7 c17)
set_option maxHeartbeats 4000000 in
theorem s_Od_sort_b79 {Γ : Ctx} {k60 : St → Int → Int → Option (Int × St)} (hk60 : ∀ (γ : St) (x22 : Int) (x23 : Int), i32 x22 → i32 x23 → SB Γ BS mt_Od_sort (RmN 10 329) 0 0 (KN Γ BS mt_Od_sort.2.2.2) 60 [(0, vR Γ 10), (1, vI x22), (2, vI x23)] [] γ (k60 γ x22 x23)) : ∀ (γ : St) (x20 : Int) (x21 : Int), i32 x20 → i32 x21 → SB Γ BS mt_Od_sort (RmN 10 329) 0 0 (KN Γ BS mt_Od_sort.2.2.2) 79 [(0, vR Γ 10), (1, vI x20), (2, vI x21)] [] γ (f_Od_sort_b79 k60 γ x20 x21) := by
  intro γ x20 x21 hx20 hx21
  unfold f_Od_sort_b79
  refine sb_iconst d_Od_sort_79 ?_
  refine sb_istore_n [(3, vI 0), (0, vR Γ 10), (1, vI x20), (2, vI x21)] d_Od_sort_80 (by decide) rfl ?_
  exact sb_lv [1, 2, 3, 0] rfl (s_Od_sort_L81 (s_Od_sort_b116 hk60) FU γ x20 x21 0 hx20 hx21 (by decide))
set_option maxHeartbeats 4000000 in
theorem s_Od_sort_L60 {Γ : Ctx} : ∀ (n : Nat) (γ : St) (x24 : Int) (x25 : Int), i32 x24 → i32 x25 → SB Γ BS mt_Od_sort (RmN 10 329) 0 0 (KN Γ BS mt_Od_sort.2.2.2) 60 [(0, vR Γ 10), (1, vI x24), (2, vI x25)] [] γ (f_Od_sort_L60 n γ x24 x25) := by
  intro n
  induction n with
  | zero => intros; exact sb_none
  | succ n ih =>
    intro γ x24 x25 hx24 hx25
    unfold f_Od_sort_L60
    refine sb_iload_n 2 d_Od_sort_60 rfl ?_
    refine sb_iload_n 1 d_Od_sort_61 rfl ?_
    refine sb_icmp_ge 122 hx25 hx24 d_Od_sort_62 (by decide) (fun _ => ?_) (fun _ => ?_)
    · exact sn_v rfl d_Od_sort_122
    · refine sb_aload_n 0 d_Od_sort_65 rfl ?_
      refine g_Od_9 d_Od_sort_66 ?_
      refine sb_iload_n 2 d_Od_sort_69 rfl ?_
      refine al_S_69 d_Od_sort_70 (fun _ c27 => ?_)
      refine sb_if_ne 79 c27 d_Od_sort_71 (by decide) (fun _ => ?_) (fun _ => ?_)
      · exact sb_lv [0, 1, 2] rfl (s_Od_sort_b79 ih γ x24 x25 hx24 hx25)
      · refine sb_aload_n 0 d_Od_sort_74 rfl ?_
        refine sb_iload_n 2 d_Od_sort_75 rfl ?_
        refine sb_cVv vf_Od_openSlot (c_Od_openSlot γ x25 hx25) rfl ml_Od_67 (As := [vI x25]) rfl rfl (Nat.le_of_ble_eq_true rfl) ⟨by decide, by decide⟩ d_Od_sort_76 (fun _ γ29 => ?_)
        exact sb_lv [0, 1, 2] rfl (s_Od_sort_b79 ih γ29 x24 x25 hx24 hx25)
set_option maxHeartbeats 4000000 in
theorem c_Od_sort {Γ : Ctx} (γ : St) : NC Γ BS y_Od_sort mt_Od_sort 10 329 [vR Γ 10] γ (f_Od_sort γ) := by
  refine nc_of (by decide) rfl (Nat.le_of_ble_eq_true rfl) ?_
  show SB Γ BS mt_Od_sort (RmN 10 329) 0 0 (KN Γ BS mt_Od_sort.2.2.2) 0 [(0, vR Γ 10)] [] γ _
  unfold f_Od_sort
  refine sb_aload_n 0 d_Od_sort_0 rfl ?_
  refine g_Od_33 d_Od_sort_1 ?_
  refine g_Od_37 d_Od_sort_4 (fun c31 => ?_)
  refine sb_istore_n [(1, vI (γ 8 5)), (0, vR Γ 10)] d_Od_sort_7 (by decide) rfl ?_
  refine sb_nme (e := γ 8 5) (fun x32 => [(1, vI x32), (0, vR Γ 10)]) c31 (fun x32 hx32 => ?_)
  refine sb_aload_n 1 d_Od_sort_8 rfl ?_
  refine g_Od_9 d_Od_sort_9 ?_
  refine sb_iconst d_Od_sort_12 ?_
  refine sb_iload_n 0 d_Od_sort_13 rfl ?_
  refine sb_iconst d_Od_sort_14 ?_
  refine sb_fill1 rfl rfl (by decide) (by decide) hx32 (by decide) ml_Od_43 (Nat.le_of_ble_eq_true rfl) ⟨by decide, by decide⟩ d_Od_sort_15 (fun γ34 => ?_)
  refine sb_aload_n 1 d_Od_sort_18 rfl ?_
  refine g_Od_27 d_Od_sort_19 ?_
  refine sb_iconst d_Od_sort_22 ?_
  refine sb_iload_n 0 d_Od_sort_23 rfl ?_
  refine sb_iconst d_Od_sort_24 ?_
  refine sb_fill1 rfl rfl (by decide) (by decide) hx32 (by decide) ml_Od_43 (Nat.le_of_ble_eq_true rfl) ⟨by decide, by decide⟩ d_Od_sort_25 (fun γ36 => ?_)
  refine sb_aload_n 1 d_Od_sort_28 rfl ?_
  refine sb_iconst d_Od_sort_29 ?_
  refine p_Od_49 (by decide) d_Od_sort_30 ?_
  refine sb_aps (fun γ37 => ?_)
  refine sb_aload_n 1 d_Od_sort_33 rfl ?_
  refine sb_iconst d_Od_sort_34 ?_
  refine p_Od_52 (by decide) d_Od_sort_35 ?_
  refine sb_aps (fun γ38 => ?_)
  refine sb_aload_n 1 d_Od_sort_38 rfl ?_
  refine sb_iconst d_Od_sort_39 ?_
  refine p_Od_55 (by decide) d_Od_sort_40 ?_
  refine sb_aps (fun γ39 => ?_)
  refine sb_aload_n 1 d_Od_sort_43 rfl ?_
  refine sb_iconst d_Od_sort_44 ?_
  refine p_Od_58 (by decide) d_Od_sort_45 ?_
  refine sb_aps (fun γ40 => ?_)
  refine sb_aload_n 1 d_Od_sort_48 rfl ?_
  refine sb_iconst d_Od_sort_49 ?_
  refine p_Od_61 (by decide) d_Od_sort_50 ?_
  refine sb_aps (fun γ41 => ?_)
  refine sb_aload_n 1 d_Od_sort_53 rfl ?_
  refine sb_iconst d_Od_sort_54 ?_
  refine p_Od_64 (by decide) d_Od_sort_55 ?_
  refine sb_aps (fun γ42 => ?_)
  refine sb_iconst d_Od_sort_58 ?_
  refine sb_istore_n [(2, vI 0), (1, vI x32), (0, vR Γ 10)] d_Od_sort_59 (by decide) rfl ?_
  exact sb_lv [2, 1, 0] rfl (s_Od_sort_L60  FU γ42 x32 0 hx32 (by decide))
theorem d_Od_reaches_0 : decode b_Od_reaches 0 = .ok (.aload_n 0, 1) := by decide +kernel
theorem d_Od_reaches_1 : decode b_Od_reaches 1 = .ok (.dup, 1) := by decide +kernel
theorem d_Od_reaches_2 : decode b_Od_reaches 2 = .ok (.getfield 61, 3) := by decide +kernel
theorem d_Od_reaches_5 : decode b_Od_reaches 5 = .ok (.iconst 1, 1) := by decide +kernel
theorem d_Od_reaches_6 : decode b_Od_reaches 6 = .ok (.iadd, 1) := by decide +kernel
theorem d_Od_reaches_7 : decode b_Od_reaches 7 = .ok (.putfield 61, 3) := by decide +kernel
theorem d_Od_reaches_10 : decode b_Od_reaches 10 = .ok (.aload_n 0, 1) := by decide +kernel
theorem d_Od_reaches_11 : decode b_Od_reaches 11 = .ok (.getfield 24, 3) := by decide +kernel
theorem d_Od_reaches_14 : decode b_Od_reaches 14 = .ok (.iconst 0, 1) := by decide +kernel
theorem d_Od_reaches_15 : decode b_Od_reaches 15 = .ok (.iload_n 1, 1) := by decide +kernel
theorem d_Od_reaches_16 : decode b_Od_reaches 16 = .ok (.iastore, 1) := by decide +kernel
theorem d_Od_reaches_17 : decode b_Od_reaches 17 = .ok (.aload_n 0, 1) := by decide +kernel
theorem d_Od_reaches_18 : decode b_Od_reaches 18 = .ok (.getfield 27, 3) := by decide +kernel
theorem d_Od_reaches_21 : decode b_Od_reaches 21 = .ok (.iload_n 1, 1) := by decide +kernel
theorem d_Od_reaches_22 : decode b_Od_reaches 22 = .ok (.aload_n 0, 1) := by decide +kernel
theorem d_Od_reaches_23 : decode b_Od_reaches 23 = .ok (.getfield 61, 3) := by decide +kernel
theorem d_Od_reaches_26 : decode b_Od_reaches 26 = .ok (.iastore, 1) := by decide +kernel
theorem d_Od_reaches_27 : decode b_Od_reaches 27 = .ok (.iconst 1, 1) := by decide +kernel
theorem d_Od_reaches_28 : decode b_Od_reaches 28 = .ok (.istore_n 3, 1) := by decide +kernel
theorem d_Od_reaches_29 : decode b_Od_reaches 29 = .ok (.iconst 0, 1) := by decide +kernel
theorem d_Od_reaches_30 : decode b_Od_reaches 30 = .ok (.istore 4, 2) := by decide +kernel
theorem d_Od_reaches_32 : decode b_Od_reaches 32 = .ok (.iload 4, 2) := by decide +kernel
theorem d_Od_reaches_34 : decode b_Od_reaches 34 = .ok (.iload_n 3, 1) := by decide +kernel
theorem d_Od_reaches_35 : decode b_Od_reaches 35 = .ok (.if_icmp .ge 95, 3) := by decide +kernel
theorem d_Od_reaches_38 : decode b_Od_reaches 38 = .ok (.iload 4, 2) := by decide +kernel
theorem d_Od_reaches_40 : decode b_Od_reaches 40 = .ok (.aload_n 0, 1) := by decide +kernel
theorem d_Od_reaches_41 : decode b_Od_reaches 41 = .ok (.getfield 33, 3) := by decide +kernel
theorem d_Od_reaches_44 : decode b_Od_reaches 44 = .ok (.getfield 37, 3) := by decide +kernel
theorem d_Od_reaches_47 : decode b_Od_reaches 47 = .ok (.if_icmp .ge 83, 3) := by decide +kernel
theorem d_Od_reaches_50 : decode b_Od_reaches 50 = .ok (.iconst 0, 1) := by decide +kernel
theorem d_Od_reaches_51 : decode b_Od_reaches 51 = .ok (.istore 5, 2) := by decide +kernel
theorem d_Od_reaches_53 : decode b_Od_reaches 53 = .ok (.iload 5, 2) := by decide +kernel
theorem d_Od_reaches_55 : decode b_Od_reaches 55 = .ok (.iconst 3, 1) := by decide +kernel
theorem d_Od_reaches_56 : decode b_Od_reaches 56 = .ok (.if_icmp .ge 68, 3) := by decide +kernel
theorem d_Od_reaches_59 : decode b_Od_reaches 59 = .ok (.aload_n 0, 1) := by decide +kernel
theorem d_Od_reaches_60 : decode b_Od_reaches 60 = .ok (.getfield 33, 3) := by decide +kernel
theorem d_Od_reaches_63 : decode b_Od_reaches 63 = .ok (.aload_n 0, 1) := by decide +kernel
theorem d_Od_reaches_64 : decode b_Od_reaches 64 = .ok (.getfield 24, 3) := by decide +kernel
theorem d_Od_reaches_67 : decode b_Od_reaches 67 = .ok (.iload 4, 2) := by decide +kernel
theorem d_Od_reaches_69 : decode b_Od_reaches 69 = .ok (.iaload, 1) := by decide +kernel
theorem d_Od_reaches_70 : decode b_Od_reaches 70 = .ok (.iload 5, 2) := by decide +kernel
theorem d_Od_reaches_72 : decode b_Od_reaches 72 = .ok (.invokevirtual 77, 3) := by decide +kernel
theorem d_Od_reaches_75 : decode b_Od_reaches 75 = .ok (.istore 6, 2) := by decide +kernel
theorem d_Od_reaches_77 : decode b_Od_reaches 77 = .ok (.iload 6, 2) := by decide +kernel
theorem d_Od_reaches_79 : decode b_Od_reaches 79 = .ok (.ifCond .lt 39, 3) := by decide +kernel
theorem d_Od_reaches_82 : decode b_Od_reaches 82 = .ok (.aload_n 0, 1) := by decide +kernel
theorem d_Od_reaches_83 : decode b_Od_reaches 83 = .ok (.getfield 27, 3) := by decide +kernel
theorem d_Od_reaches_86 : decode b_Od_reaches 86 = .ok (.iload 6, 2) := by decide +kernel
theorem d_Od_reaches_88 : decode b_Od_reaches 88 = .ok (.iaload, 1) := by decide +kernel
theorem d_Od_reaches_89 : decode b_Od_reaches 89 = .ok (.aload_n 0, 1) := by decide +kernel
theorem d_Od_reaches_90 : decode b_Od_reaches 90 = .ok (.getfield 61, 3) := by decide +kernel
theorem d_Od_reaches_93 : decode b_Od_reaches 93 = .ok (.if_icmp .eq 25, 3) := by decide +kernel
theorem d_Od_reaches_96 : decode b_Od_reaches 96 = .ok (.aload_n 0, 1) := by decide +kernel
theorem d_Od_reaches_97 : decode b_Od_reaches 97 = .ok (.getfield 27, 3) := by decide +kernel
theorem d_Od_reaches_100 : decode b_Od_reaches 100 = .ok (.iload 6, 2) := by decide +kernel
theorem d_Od_reaches_102 : decode b_Od_reaches 102 = .ok (.aload_n 0, 1) := by decide +kernel
theorem d_Od_reaches_103 : decode b_Od_reaches 103 = .ok (.getfield 61, 3) := by decide +kernel
theorem d_Od_reaches_106 : decode b_Od_reaches 106 = .ok (.iastore, 1) := by decide +kernel
theorem d_Od_reaches_107 : decode b_Od_reaches 107 = .ok (.aload_n 0, 1) := by decide +kernel
theorem d_Od_reaches_108 : decode b_Od_reaches 108 = .ok (.getfield 24, 3) := by decide +kernel
theorem d_Od_reaches_111 : decode b_Od_reaches 111 = .ok (.iload_n 3, 1) := by decide +kernel
theorem d_Od_reaches_112 : decode b_Od_reaches 112 = .ok (.iload 6, 2) := by decide +kernel
theorem d_Od_reaches_114 : decode b_Od_reaches 114 = .ok (.iastore, 1) := by decide +kernel
theorem d_Od_reaches_115 : decode b_Od_reaches 115 = .ok (.iinc 3 1, 3) := by decide +kernel
theorem d_Od_reaches_118 : decode b_Od_reaches 118 = .ok (.iinc 5 1, 3) := by decide +kernel
theorem d_Od_reaches_121 : decode b_Od_reaches 121 = .ok (.goto (-68), 3) := by decide +kernel
theorem d_Od_reaches_124 : decode b_Od_reaches 124 = .ok (.iinc 4 1, 3) := by decide +kernel
theorem d_Od_reaches_127 : decode b_Od_reaches 127 = .ok (.goto (-95), 3) := by decide +kernel
theorem d_Od_reaches_130 : decode b_Od_reaches 130 = .ok (.aload_n 0, 1) := by decide +kernel
theorem d_Od_reaches_131 : decode b_Od_reaches 131 = .ok (.getfield 27, 3) := by decide +kernel
theorem d_Od_reaches_134 : decode b_Od_reaches 134 = .ok (.iload_n 2, 1) := by decide +kernel
theorem d_Od_reaches_135 : decode b_Od_reaches 135 = .ok (.iaload, 1) := by decide +kernel
theorem d_Od_reaches_136 : decode b_Od_reaches 136 = .ok (.aload_n 0, 1) := by decide +kernel
theorem d_Od_reaches_137 : decode b_Od_reaches 137 = .ok (.getfield 61, 3) := by decide +kernel
theorem d_Od_reaches_140 : decode b_Od_reaches 140 = .ok (.if_icmp .ne 7, 3) := by decide +kernel
theorem d_Od_reaches_143 : decode b_Od_reaches 143 = .ok (.iconst 1, 1) := by decide +kernel
theorem d_Od_reaches_144 : decode b_Od_reaches 144 = .ok (.goto 4, 3) := by decide +kernel
theorem d_Od_reaches_147 : decode b_Od_reaches 147 = .ok (.iconst 0, 1) := by decide +kernel
theorem d_Od_reaches_148 : decode b_Od_reaches 148 = .ok (.ireturn, 1) := by decide +kernel
abbrev mt_Od_reaches : MT := (R_Od, b_Od_reaches, 7, some .boolean)
theorem vf_Od_reaches : VF y_Od_reaches mt_Od_reaches 7 2 := ⟨im_Od_reaches, se_Od_reaches, in_Od, co_Od_reaches, by decide +kernel, _, _, rfl⟩
def f_Od_reaches_b130 (γ : St) (x1 : Int) : Option (Int × St) :=
  chk (inb x1 9001) (if (γ 74 x1) ≠ (γ 10 12) then
  (some (0, γ))
  else
  (some (1, γ)))
def f_Od_reaches_b124 (k32 : St → Int → Int → Int → Option (Int × St)) (e130 : St → Int → Option (Int × St)) (γ : St) (x5 : Int) (x6 : Int) (x7 : Int) : Option (Int × St) :=
  chk (i32 (x7 + 1)) (k32 γ x5 x6 (x7 + 1))
def f_Od_reaches_b118 (k53 : St → Int → Int → Int → Int → Option (Int × St)) (e124 : St → Int → Int → Int → Option (Int × St)) (γ : St) (x13 : Int) (x14 : Int) (x15 : Int) (x16 : Int) : Option (Int × St) :=
  chk (i32 (x16 + 1)) (k53 γ x13 x14 x15 (x16 + 1))
def f_Od_reaches_L53 (e124 : St → Int → Int → Int → Option (Int × St)) : Nat → St → Int → Int → Int → Int → Option (Int × St)
  | 0, _, _, _, _, _ => none
  | n + 1, γ, x25, x26, x27, x28 =>
  if 3 ≤ x28 then
  (e124 γ x25 x26 x27)
  else
  (chk (inb x27 9001) (bndN (f_Sl_side γ (γ 73 x27) x28) fun r32 γ33 =>
  if r32 < 0 then
  (f_Od_reaches_b118 (f_Od_reaches_L53 e124 n) e124 γ33 x25 x26 x27 x28)
  else
  (chk (inb r32 9001) (if (γ33 74 r32) = (γ33 10 12) then
  (f_Od_reaches_b118 (f_Od_reaches_L53 e124 n) e124 γ33 x25 x26 x27 x28)
  else
  (chk (inb r32 9001) (ap (setA γ33 74 r32 (γ33 10 12)) fun γ39 =>
  chk (inb x26 9001) (ap (setA γ39 73 x26 r32) fun γ41 =>
  chk (i32 (x26 + 1)) (f_Od_reaches_b118 (f_Od_reaches_L53 e124 n) e124 γ41 x25 (x26 + 1) x27 x28))))))))
def f_Od_reaches_L32 (e130 : St → Int → Option (Int × St)) : Nat → St → Int → Int → Int → Option (Int × St)
  | 0, _, _, _, _ => none
  | n + 1, γ, x46, x47, x48 =>
  if x47 ≤ x48 then
  (e130 γ x46)
  else
  (if (γ 8 5) ≤ x48 then
  (e130 γ x46)
  else
  (f_Od_reaches_L53 (f_Od_reaches_b124 (f_Od_reaches_L32 e130 n) e130) FU γ x46 x47 x48 0))
def f_Od_reaches (γ : St) (a0 : Int) (a1 : Int) : Option (Int × St) :=
  chk (i32 ((γ 10 12) + 1)) (ap (setA γ 10 12 ((γ 10 12) + 1)) fun γ54 =>
  chk (inb 0 9001) (ap (setA γ54 73 0 a0) fun γ56 =>
  chk (inb a0 9001) (ap (setA γ56 74 a0 (γ56 10 12)) fun γ59 =>
  f_Od_reaches_L32 (f_Od_reaches_b130) FU γ59 a1 1 0)))
set_option maxHeartbeats 4000000 in
theorem s_Od_reaches_b130 {Γ : Ctx} : ∀ (γ : St) (x1 : Int), i32 x1 → SB Γ BS mt_Od_reaches (RmN 7 262) 0 0 (KN Γ BS mt_Od_reaches.2.2.2) 130 [(0, vR Γ 10), (2, vI x1)] [] γ (f_Od_reaches_b130 γ x1) := by
  intro γ x1 hx1
  unfold f_Od_reaches_b130
  refine sb_aload_n 0 d_Od_reaches_130 rfl ?_
  refine g_Od_27 d_Od_reaches_131 ?_
  refine sb_iload_n 1 d_Od_reaches_134 rfl ?_
  refine al_S_74 d_Od_reaches_135 (fun _ c3 => ?_)
  refine sb_aload_n 0 d_Od_reaches_136 rfl ?_
  refine g_Od_61 d_Od_reaches_137 (fun c4 => ?_)
  refine sb_icmp_ne 147 c3 c4 d_Od_reaches_140 (by decide) (fun _ => ?_) (fun _ => ?_)
  · refine sb_iconst d_Od_reaches_147 ?_
    exact sn_z rfl (by decide) d_Od_reaches_148
  · refine sb_iconst d_Od_reaches_143 ?_
    refine sb_goto 148 d_Od_reaches_144 (by decide) ?_
    exact sn_z rfl (by decide) d_Od_reaches_148
set_option maxHeartbeats 4000000 in
theorem s_Od_reaches_b124 {Γ : Ctx} {k32 : St → Int → Int → Int → Option (Int × St)} {e130 : St → Int → Option (Int × St)} (hk32 : ∀ (γ : St) (x9 : Int) (x10 : Int) (x11 : Int), i32 x9 → i32 x10 → i32 x11 → SB Γ BS mt_Od_reaches (RmN 7 262) 0 0 (KN Γ BS mt_Od_reaches.2.2.2) 32 [(0, vR Γ 10), (2, vI x9), (3, vI x10), (4, vI x11)] [] γ (k32 γ x9 x10 x11)) (he130 : ∀ (γ : St) (x12 : Int), i32 x12 → SB Γ BS mt_Od_reaches (RmN 7 262) 0 0 (KN Γ BS mt_Od_reaches.2.2.2) 130 [(0, vR Γ 10), (2, vI x12)] [] γ (e130 γ x12)) : ∀ (γ : St) (x5 : Int) (x6 : Int) (x7 : Int), i32 x5 → i32 x6 → i32 x7 → SB Γ BS mt_Od_reaches (RmN 7 262) 0 0 (KN Γ BS mt_Od_reaches.2.2.2) 124 [(0, vR Γ 10), (2, vI x5), (3, vI x6), (4, vI x7)] [] γ (f_Od_reaches_b124 k32 e130 γ x5 x6 x7) := by
  intro γ x5 x6 x7 hx5 hx6 hx7
  unfold f_Od_reaches_b124
  refine sb_iinc 3 [(4, vI (x7 + 1)), (0, vR Γ 10), (2, vI x5), (3, vI x6)] d_Od_reaches_124 rfl (by decide) rfl ?_
  refine sb_chk (fun c8 => ?_)
  refine sb_goto 32 d_Od_reaches_127 (by decide) ?_
  exact sb_lv [1, 2, 3, 0] rfl (hk32 γ x5 x6 (x7 + 1) hx5 hx6 c8)
set_option maxHeartbeats 4000000 in
theorem s_Od_reaches_b118 {Γ : Ctx} {k53 : St → Int → Int → Int → Int → Option (Int × St)} {e124 : St → Int → Int → Int → Option (Int × St)} (hk53 : ∀ (γ : St) (x18 : Int) (x19 : Int) (x20 : Int) (x21 : Int), i32 x18 → i32 x19 → i32 x20 → i32 x21 → SB Γ BS mt_Od_reaches (RmN 7 262) 0 0 (KN Γ BS mt_Od_reaches.2.2.2) 53 [(0, vR Γ 10), (2, vI x18), (3, vI x19), (4, vI x20), (5, vI x21)] [] γ (k53 γ x18 x19 x20 x21)) (he124 : ∀ (γ : St) (x22 : Int) (x23 : Int) (x24 : Int), i32 x22 → i32 x23 → i32 x24 → SB Γ BS mt_Od_reaches (RmN 7 262) 0 0 (KN Γ BS mt_Od_reaches.2.2.2) 124 [(0, vR Γ 10), (2, vI x22), (3, vI x23), (4, vI x24)] [] γ (e124 γ x22 x23 x24)) : ∀ (γ : St) (x13 : Int) (x14 : Int) (x15 : Int) (x16 : Int), i32 x13 → i32 x14 → i32 x15 → i32 x16 → SB Γ BS mt_Od_reaches (RmN 7 262) 0 0 (KN Γ BS mt_Od_reaches.2.2.2) 118 [(0, vR Γ 10), (2, vI x13), (3, vI x14), (4, vI x15), (5, vI x16)] [] γ (f_Od_reaches_b118 k53 e124 γ x13 x14 x15 x16) := by
  intro γ x13 x14 x15 x16 hx13 hx14 hx15 hx16
  unfold f_Od_reaches_b118
  refine sb_iinc 4 [(5, vI (x16 + 1)), (0, vR Γ 10), (2, vI x13), (3, vI x14), (4, vI x15)] d_Od_reaches_118 rfl (by decide) rfl ?_
  refine sb_chk (fun c17 => ?_)
  refine sb_goto 53 d_Od_reaches_121 (by decide) ?_
  exact sb_lv [1, 2, 3, 4, 0] rfl (hk53 γ x13 x14 x15 (x16 + 1) hx13 hx14 hx15 c17)
set_option maxHeartbeats 4000000 in
theorem s_Od_reaches_L53 {Γ : Ctx} {e124 : St → Int → Int → Int → Option (Int × St)} (he124 : ∀ (γ : St) (x43 : Int) (x44 : Int) (x45 : Int), i32 x43 → i32 x44 → i32 x45 → SB Γ BS mt_Od_reaches (RmN 7 262) 0 0 (KN Γ BS mt_Od_reaches.2.2.2) 124 [(0, vR Γ 10), (2, vI x43), (3, vI x44), (4, vI x45)] [] γ (e124 γ x43 x44 x45)) : ∀ (n : Nat) (γ : St) (x25 : Int) (x26 : Int) (x27 : Int) (x28 : Int), i32 x25 → i32 x26 → i32 x27 → i32 x28 → SB Γ BS mt_Od_reaches (RmN 7 262) 0 0 (KN Γ BS mt_Od_reaches.2.2.2) 53 [(0, vR Γ 10), (2, vI x25), (3, vI x26), (4, vI x27), (5, vI x28)] [] γ (f_Od_reaches_L53 e124 n γ x25 x26 x27 x28) := by
  intro n
  induction n with
  | zero => intros; exact sb_none
  | succ n ih =>
    intro γ x25 x26 x27 x28 hx25 hx26 hx27 hx28
    unfold f_Od_reaches_L53
    refine sb_iload 4 d_Od_reaches_53 rfl ?_
    refine sb_iconst d_Od_reaches_55 ?_
    refine sb_icmp_ge 124 hx28 (by decide) d_Od_reaches_56 (by decide) (fun _ => ?_) (fun _ => ?_)
    · exact sb_lv [0, 1, 2, 3] rfl (he124 γ x25 x26 x27 hx25 hx26 hx27)
    · refine sb_aload_n 0 d_Od_reaches_59 rfl ?_
      refine g_Od_33 d_Od_reaches_60 ?_
      refine sb_aload_n 0 d_Od_reaches_63 rfl ?_
      refine g_Od_24 d_Od_reaches_64 ?_
      refine sb_iload 3 d_Od_reaches_67 rfl ?_
      refine al_S_73 d_Od_reaches_69 (fun _ c31 => ?_)
      refine sb_iload 4 d_Od_reaches_70 rfl ?_
      refine sb_cVi vf_Sl_side (c_Sl_side γ (γ 73 x27) x28 c31 hx28) rfl ml_Od_77 (As := [vI (γ 73 x27), vI x28]) rfl rfl (Nat.le_of_ble_eq_true rfl) ⟨by decide, by decide⟩ d_Od_reaches_72 (fun r32 γ33 hr32 => ?_)
      refine sb_istore [(6, vI r32), (0, vR Γ 10), (2, vI x25), (3, vI x26), (4, vI x27), (5, vI x28)] d_Od_reaches_75 (by decide) rfl ?_
      refine sb_iload 0 d_Od_reaches_77 rfl ?_
      refine sb_if_lt 118 hr32 d_Od_reaches_79 (by decide) (fun _ => ?_) (fun _ => ?_)
      · exact sb_lv [1, 2, 3, 4, 5] rfl (s_Od_reaches_b118 ih he124 γ33 x25 x26 x27 x28 hx25 hx26 hx27 hx28)
      · refine sb_aload_n 1 d_Od_reaches_82 rfl ?_
        refine g_Od_27 d_Od_reaches_83 ?_
        refine sb_iload 0 d_Od_reaches_86 rfl ?_
        refine al_S_74 d_Od_reaches_88 (fun _ c35 => ?_)
        refine sb_aload_n 1 d_Od_reaches_89 rfl ?_
        refine g_Od_61 d_Od_reaches_90 (fun c36 => ?_)
        refine sb_icmp_eq 118 c35 c36 d_Od_reaches_93 (by decide) (fun _ => ?_) (fun _ => ?_)
        · exact sb_lv [1, 2, 3, 4, 5] rfl (s_Od_reaches_b118 ih he124 γ33 x25 x26 x27 x28 hx25 hx26 hx27 hx28)
        · refine sb_aload_n 1 d_Od_reaches_96 rfl ?_
          refine g_Od_27 d_Od_reaches_97 ?_
          refine sb_iload 0 d_Od_reaches_100 rfl ?_
          refine sb_aload_n 1 d_Od_reaches_102 rfl ?_
          refine g_Od_61 d_Od_reaches_103 (fun c38 => ?_)
          refine as_S_74 c38 d_Od_reaches_106 (fun _ => ?_)
          refine sb_aps (fun γ39 => ?_)
          refine sb_aload_n 1 d_Od_reaches_107 rfl ?_
          refine g_Od_24 d_Od_reaches_108 ?_
          refine sb_iload_n 3 d_Od_reaches_111 rfl ?_
          refine sb_iload 0 d_Od_reaches_112 rfl ?_
          refine as_S_73 hr32 d_Od_reaches_114 (fun _ => ?_)
          refine sb_aps (fun γ41 => ?_)
          refine sb_iinc 3 [(3, vI (x26 + 1)), (6, vI r32), (0, vR Γ 10), (2, vI x25), (4, vI x27), (5, vI x28)] d_Od_reaches_115 rfl (by decide) rfl ?_
          refine sb_chk (fun c42 => ?_)
          exact sb_lv [2, 3, 0, 4, 5] rfl (s_Od_reaches_b118 ih he124 γ41 x25 (x26 + 1) x27 x28 hx25 c42 hx27 hx28)
set_option maxHeartbeats 4000000 in
theorem s_Od_reaches_L32 {Γ : Ctx} {e130 : St → Int → Option (Int × St)} (he130 : ∀ (γ : St) (x51 : Int), i32 x51 → SB Γ BS mt_Od_reaches (RmN 7 262) 0 0 (KN Γ BS mt_Od_reaches.2.2.2) 130 [(0, vR Γ 10), (2, vI x51)] [] γ (e130 γ x51)) : ∀ (n : Nat) (γ : St) (x46 : Int) (x47 : Int) (x48 : Int), i32 x46 → i32 x47 → i32 x48 → SB Γ BS mt_Od_reaches (RmN 7 262) 0 0 (KN Γ BS mt_Od_reaches.2.2.2) 32 [(0, vR Γ 10), (2, vI x46), (3, vI x47), (4, vI x48)] [] γ (f_Od_reaches_L32 e130 n γ x46 x47 x48) := by
  intro n
  induction n with
  | zero => intros; exact sb_none
  | succ n ih =>
    intro γ x46 x47 x48 hx46 hx47 hx48
    unfold f_Od_reaches_L32
    refine sb_iload 3 d_Od_reaches_32 rfl ?_
    refine sb_iload_n 2 d_Od_reaches_34 rfl ?_
    refine sb_icmp_ge 130 hx48 hx47 d_Od_reaches_35 (by decide) (fun _ => ?_) (fun _ => ?_)
    · exact sb_lv [0, 1] rfl (he130 γ x46 hx46)
    · refine sb_iload 3 d_Od_reaches_38 rfl ?_
      refine sb_aload_n 0 d_Od_reaches_40 rfl ?_
      refine g_Od_33 d_Od_reaches_41 ?_
      refine g_Od_37 d_Od_reaches_44 (fun c50 => ?_)
      refine sb_icmp_ge 130 hx48 c50 d_Od_reaches_47 (by decide) (fun _ => ?_) (fun _ => ?_)
      · exact sb_lv [0, 1] rfl (he130 γ x46 hx46)
      · refine sb_iconst d_Od_reaches_50 ?_
        refine sb_istore [(5, vI 0), (0, vR Γ 10), (2, vI x46), (3, vI x47), (4, vI x48)] d_Od_reaches_51 (by decide) rfl ?_
        exact sb_lv [1, 2, 3, 4, 0] rfl (s_Od_reaches_L53 (s_Od_reaches_b124 ih he130) FU γ x46 x47 x48 0 hx46 hx47 hx48 (by decide))
set_option maxHeartbeats 4000000 in
theorem c_Od_reaches {Γ : Ctx} (γ : St) (a0 : Int) (a1 : Int) (ha0 : i32 a0) (ha1 : i32 a1) : NC Γ BS y_Od_reaches mt_Od_reaches 7 262 [vR Γ 10, vI a0, vI a1] γ (f_Od_reaches γ a0 a1) := by
  refine nc_of (by decide) rfl (Nat.le_of_ble_eq_true rfl) ?_
  show SB Γ BS mt_Od_reaches (RmN 7 262) 0 0 (KN Γ BS mt_Od_reaches.2.2.2) 0 [(0, vR Γ 10), (1, vI a0), (2, vI a1)] [] γ _
  unfold f_Od_reaches
  refine sb_aload_n 0 d_Od_reaches_0 rfl ?_
  refine sb_dup d_Od_reaches_1 rfl ?_
  refine g_Od_61 d_Od_reaches_2 (fun c52 => ?_)
  refine sb_iconst d_Od_reaches_5 ?_
  refine sb_iadd d_Od_reaches_6 ?_
  refine sb_chk (fun c53 => ?_)
  refine p_Od_61 c53 d_Od_reaches_7 ?_
  refine sb_aps (fun γ54 => ?_)
  refine sb_aload_n 0 d_Od_reaches_10 rfl ?_
  refine g_Od_24 d_Od_reaches_11 ?_
  refine sb_iconst d_Od_reaches_14 ?_
  refine sb_iload_n 1 d_Od_reaches_15 rfl ?_
  refine as_S_73 ha0 d_Od_reaches_16 (fun _ => ?_)
  refine sb_aps (fun γ56 => ?_)
  refine sb_aload_n 0 d_Od_reaches_17 rfl ?_
  refine g_Od_27 d_Od_reaches_18 ?_
  refine sb_iload_n 1 d_Od_reaches_21 rfl ?_
  refine sb_aload_n 0 d_Od_reaches_22 rfl ?_
  refine g_Od_61 d_Od_reaches_23 (fun c58 => ?_)
  refine as_S_74 c58 d_Od_reaches_26 (fun _ => ?_)
  refine sb_aps (fun γ59 => ?_)
  refine sb_iconst d_Od_reaches_27 ?_
  refine sb_istore_n [(3, vI 1), (0, vR Γ 10), (1, vI a0), (2, vI a1)] d_Od_reaches_28 (by decide) rfl ?_
  refine sb_iconst d_Od_reaches_29 ?_
  refine sb_istore [(4, vI 0), (3, vI 1), (0, vR Γ 10), (1, vI a0), (2, vI a1)] d_Od_reaches_30 (by decide) rfl ?_
  exact sb_lv [2, 4, 1, 0] rfl (s_Od_reaches_L32 (s_Od_reaches_b130) FU γ59 a1 1 0 ha1 (by decide) (by decide))
