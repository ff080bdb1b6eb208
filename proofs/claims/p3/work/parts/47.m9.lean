/-! the reference as functions: calls -/
theorem d_M_fault_0 : decode b_M_fault 0 = .ok (.aload_n 0, 1) := by decide +kernel
theorem d_M_fault_1 : decode b_M_fault 1 = .ok (.iconst 0, 1) := by decide +kernel
theorem d_M_fault_2 : decode b_M_fault 2 = .ok (.putfield 18, 3) := by decide +kernel
theorem d_M_fault_5 : decode b_M_fault 5 = .ok (.iload_n 1, 1) := by decide +kernel
theorem d_M_fault_6 : decode b_M_fault 6 = .ok (.ifCond .ne 10, 3) := by decide +kernel
theorem d_M_fault_9 : decode b_M_fault 9 = .ok (.aload_n 0, 1) := by decide +kernel
theorem d_M_fault_10 : decode b_M_fault 10 = .ok (.getfield 21, 3) := by decide +kernel
theorem d_M_fault_13 : decode b_M_fault 13 = .ok (.goto 16, 3) := by decide +kernel
theorem d_M_fault_16 : decode b_M_fault 16 = .ok (.iload_n 1, 1) := by decide +kernel
theorem d_M_fault_17 : decode b_M_fault 17 = .ok (.iconst 1, 1) := by decide +kernel
theorem d_M_fault_18 : decode b_M_fault 18 = .ok (.if_icmp .ne 10, 3) := by decide +kernel
theorem d_M_fault_21 : decode b_M_fault 21 = .ok (.aload_n 0, 1) := by decide +kernel
theorem d_M_fault_22 : decode b_M_fault 22 = .ok (.getfield 24, 3) := by decide +kernel
theorem d_M_fault_25 : decode b_M_fault 25 = .ok (.goto 4, 3) := by decide +kernel
theorem d_M_fault_28 : decode b_M_fault 28 = .ok (.iconst (-1), 1) := by decide +kernel
theorem d_M_fault_29 : decode b_M_fault 29 = .ok (.ireturn, 1) := by decide +kernel
abbrev mt_M_fault : MT := (R_M, b_M_fault, 2, some .int)
theorem vf_M_fault : VF y_M_fault mt_M_fault 12 1 := ⟨im_M_fault, se_M_fault, in_M, co_M_fault, by decide +kernel, _, _, rfl⟩
def f_M_fault (γ : St) (a0 : Int) : Option (Int × St) :=
  ap (setA γ 0 2 0) fun γ1 =>
  if a0 ≠ 0 then
  (if a0 ≠ 1 then
  (some ((-1), γ1))
  else
  (some (γ1 0 4, γ1)))
  else
  (some (γ1 0 3, γ1))
set_option maxHeartbeats 4000000 in
theorem c_M_fault {Γ : Ctx} (γ : St) (a0 : Int) (ha0 : i32 a0) : NC Γ BM y_M_fault mt_M_fault 6 240 [vR Γ 0, vI a0] γ (f_M_fault γ a0) := by
  refine nc_of (by decide) rfl (Nat.le_of_ble_eq_true rfl) ?_
  show SB Γ BM mt_M_fault (RmN 6 240) 0 0 (KN Γ BM mt_M_fault.2.2.2) 0 [(0, vR Γ 0), (1, vI a0)] [] γ _
  unfold f_M_fault
  refine sb_aload_n 0 d_M_fault_0 rfl ?_
  refine sb_iconst d_M_fault_1 ?_
  refine p_M_18 (by decide) d_M_fault_2 ?_
  refine sb_aps (fun γ1 => ?_)
  refine sb_iload_n 1 d_M_fault_5 rfl ?_
  refine sb_if_ne 16 ha0 d_M_fault_6 (by decide) (fun _ => ?_) (fun _ => ?_)
  · refine sb_iload_n 1 d_M_fault_16 rfl ?_
    refine sb_iconst d_M_fault_17 ?_
    refine sb_icmp_ne 28 ha0 (by decide) d_M_fault_18 (by decide) (fun _ => ?_) (fun _ => ?_)
    · refine sb_iconst d_M_fault_28 ?_
      exact sn_i rfl (by decide) d_M_fault_29
    · refine sb_aload_n 0 d_M_fault_21 rfl ?_
      refine g_M_24 d_M_fault_22 (fun c2 => ?_)
      refine sb_goto 29 d_M_fault_25 (by decide) ?_
      exact sn_i rfl c2 d_M_fault_29
  · refine sb_aload_n 0 d_M_fault_9 rfl ?_
    refine g_M_21 d_M_fault_10 (fun c3 => ?_)
    refine sb_goto 29 d_M_fault_13 (by decide) ?_
    exact sn_i rfl c3 d_M_fault_29
theorem d_M_mainVariables_0 : decode b_M_mainVariables 0 = .ok (.aload_n 0, 1) := by decide +kernel
theorem d_M_mainVariables_1 : decode b_M_mainVariables 1 = .ok (.getfield 163, 3) := by decide +kernel
theorem d_M_mainVariables_4 : decode b_M_mainVariables 4 = .ok (.ifCond .ge 7, 3) := by decide +kernel
theorem d_M_mainVariables_7 : decode b_M_mainVariables 7 = .ok (.iconst 0, 1) := by decide +kernel
theorem d_M_mainVariables_8 : decode b_M_mainVariables 8 = .ok (.goto 24, 3) := by decide +kernel
theorem d_M_mainVariables_11 : decode b_M_mainVariables 11 = .ok (.aload_n 0, 1) := by decide +kernel
theorem d_M_mainVariables_12 : decode b_M_mainVariables 12 = .ok (.getfield 50, 3) := by decide +kernel
theorem d_M_mainVariables_15 : decode b_M_mainVariables 15 = .ok (.aload_n 0, 1) := by decide +kernel
theorem d_M_mainVariables_16 : decode b_M_mainVariables 16 = .ok (.getfield 163, 3) := by decide +kernel
theorem d_M_mainVariables_19 : decode b_M_mainVariables 19 = .ok (.iconst 1, 1) := by decide +kernel
theorem d_M_mainVariables_20 : decode b_M_mainVariables 20 = .ok (.iadd, 1) := by decide +kernel
theorem d_M_mainVariables_21 : decode b_M_mainVariables 21 = .ok (.iaload, 1) := by decide +kernel
theorem d_M_mainVariables_22 : decode b_M_mainVariables 22 = .ok (.aload_n 0, 1) := by decide +kernel
theorem d_M_mainVariables_23 : decode b_M_mainVariables 23 = .ok (.getfield 50, 3) := by decide +kernel
theorem d_M_mainVariables_26 : decode b_M_mainVariables 26 = .ok (.aload_n 0, 1) := by decide +kernel
theorem d_M_mainVariables_27 : decode b_M_mainVariables 27 = .ok (.getfield 163, 3) := by decide +kernel
theorem d_M_mainVariables_30 : decode b_M_mainVariables 30 = .ok (.iaload, 1) := by decide +kernel
theorem d_M_mainVariables_31 : decode b_M_mainVariables 31 = .ok (.isub, 1) := by decide +kernel
theorem d_M_mainVariables_32 : decode b_M_mainVariables 32 = .ok (.ireturn, 1) := by decide +kernel
abbrev mt_M_mainVariables : MT := (R_M, b_M_mainVariables, 1, some .int)
theorem vf_M_mainVariables : VF y_M_mainVariables mt_M_mainVariables 12 0 := ⟨im_M_mainVariables, se_M_mainVariables, in_M, co_M_mainVariables, by decide +kernel, _, _, rfl⟩
def f_M_mainVariables (γ : St) : Option (Int × St) :=
  if 0 ≤ (γ 0 49) then
  (chk (i32 ((γ 0 49) + 1)) (chk (inb ((γ 0 49) + 1) 61) (chk (inb (γ 0 49) 61) (chk (i32 ((γ 4 ((γ 0 49) + 1)) - (γ 4 (γ 0 49)))) (some ((γ 4 ((γ 0 49) + 1)) - (γ 4 (γ 0 49)), γ))))))
  else
  (some (0, γ))
set_option maxHeartbeats 4000000 in
theorem c_M_mainVariables {Γ : Ctx} (γ : St) : NC Γ BM y_M_mainVariables mt_M_mainVariables 6 240 [vR Γ 0] γ (f_M_mainVariables γ) := by
  refine nc_of (by decide) rfl (Nat.le_of_ble_eq_true rfl) ?_
  show SB Γ BM mt_M_mainVariables (RmN 6 240) 0 0 (KN Γ BM mt_M_mainVariables.2.2.2) 0 [(0, vR Γ 0)] [] γ _
  unfold f_M_mainVariables
  refine sb_aload_n 0 d_M_mainVariables_0 rfl ?_
  refine g_M_163 d_M_mainVariables_1 (fun c1 => ?_)
  refine sb_if_ge 11 c1 d_M_mainVariables_4 (by decide) (fun _ => ?_) (fun _ => ?_)
  · refine sb_aload_n 0 d_M_mainVariables_11 rfl ?_
    refine g_M_50 d_M_mainVariables_12 ?_
    refine sb_aload_n 0 d_M_mainVariables_15 rfl ?_
    refine g_M_163 d_M_mainVariables_16 (fun c3 => ?_)
    refine sb_iconst d_M_mainVariables_19 ?_
    refine sb_iadd d_M_mainVariables_20 ?_
    refine sb_chk (fun c4 => ?_)
    refine al_M_4 d_M_mainVariables_21 (fun _ c5 => ?_)
    refine sb_aload_n 0 d_M_mainVariables_22 rfl ?_
    refine g_M_50 d_M_mainVariables_23 ?_
    refine sb_aload_n 0 d_M_mainVariables_26 rfl ?_
    refine g_M_163 d_M_mainVariables_27 (fun c7 => ?_)
    refine al_M_4 d_M_mainVariables_30 (fun _ c8 => ?_)
    refine sb_isub d_M_mainVariables_31 ?_
    refine sb_chk (fun c9 => ?_)
    exact sn_i rfl c9 d_M_mainVariables_32
  · refine sb_iconst d_M_mainVariables_7 ?_
    refine sb_goto 32 d_M_mainVariables_8 (by decide) ?_
    exact sn_i rfl (by decide) d_M_mainVariables_32
theorem d_M_input_0 : decode b_M_input 0 = .ok (.aload_n 0, 1) := by decide +kernel
theorem d_M_input_1 : decode b_M_input 1 = .ok (.iconst 0, 1) := by decide +kernel
theorem d_M_input_2 : decode b_M_input 2 = .ok (.putfield 18, 3) := by decide +kernel
theorem d_M_input_5 : decode b_M_input 5 = .ok (.aload_n 0, 1) := by decide +kernel
theorem d_M_input_6 : decode b_M_input 6 = .ok (.iconst 1, 1) := by decide +kernel
theorem d_M_input_7 : decode b_M_input 7 = .ok (.aload_n 0, 1) := by decide +kernel
theorem d_M_input_8 : decode b_M_input 8 = .ok (.getfield 163, 3) := by decide +kernel
theorem d_M_input_11 : decode b_M_input 11 = .ok (.ifCond .lt 7, 3) := by decide +kernel
theorem d_M_input_14 : decode b_M_input 14 = .ok (.iload_n 1, 1) := by decide +kernel
theorem d_M_input_15 : decode b_M_input 15 = .ok (.ifCond .ge 7, 3) := by decide +kernel
theorem d_M_input_18 : decode b_M_input 18 = .ok (.iconst 1, 1) := by decide +kernel
theorem d_M_input_19 : decode b_M_input 19 = .ok (.goto 4, 3) := by decide +kernel
theorem d_M_input_22 : decode b_M_input 22 = .ok (.iconst 0, 1) := by decide +kernel
theorem d_M_input_23 : decode b_M_input 23 = .ok (.invokevirtual 270, 3) := by decide +kernel
theorem d_M_input_26 : decode b_M_input 26 = .ok (.ifCond .ne 70, 3) := by decide +kernel
theorem d_M_input_29 : decode b_M_input 29 = .ok (.aload_n 0, 1) := by decide +kernel
theorem d_M_input_30 : decode b_M_input 30 = .ok (.iconst 1, 1) := by decide +kernel
theorem d_M_input_31 : decode b_M_input 31 = .ok (.iload_n 1, 1) := by decide +kernel
theorem d_M_input_32 : decode b_M_input 32 = .ok (.aload_n 0, 1) := by decide +kernel
theorem d_M_input_33 : decode b_M_input 33 = .ok (.getfield 53, 3) := by decide +kernel
theorem d_M_input_36 : decode b_M_input 36 = .ok (.aload_n 0, 1) := by decide +kernel
theorem d_M_input_37 : decode b_M_input 37 = .ok (.getfield 163, 3) := by decide +kernel
theorem d_M_input_40 : decode b_M_input 40 = .ok (.iaload, 1) := by decide +kernel
theorem d_M_input_41 : decode b_M_input 41 = .ok (.if_icmp .lt 7, 3) := by decide +kernel
theorem d_M_input_44 : decode b_M_input 44 = .ok (.iconst 1, 1) := by decide +kernel
theorem d_M_input_45 : decode b_M_input 45 = .ok (.goto 4, 3) := by decide +kernel
theorem d_M_input_48 : decode b_M_input 48 = .ok (.iconst 0, 1) := by decide +kernel
theorem d_M_input_49 : decode b_M_input 49 = .ok (.invokevirtual 270, 3) := by decide +kernel
theorem d_M_input_52 : decode b_M_input 52 = .ok (.ifCond .ne 44, 3) := by decide +kernel
theorem d_M_input_55 : decode b_M_input 55 = .ok (.aload_n 0, 1) := by decide +kernel
theorem d_M_input_56 : decode b_M_input 56 = .ok (.iconst 2, 1) := by decide +kernel
theorem d_M_input_57 : decode b_M_input 57 = .ok (.aload_n 0, 1) := by decide +kernel
theorem d_M_input_58 : decode b_M_input 58 = .ok (.getfield 86, 3) := by decide +kernel
theorem d_M_input_61 : decode b_M_input 61 = .ok (.aload_n 0, 1) := by decide +kernel
theorem d_M_input_62 : decode b_M_input 62 = .ok (.getfield 50, 3) := by decide +kernel
theorem d_M_input_65 : decode b_M_input 65 = .ok (.aload_n 0, 1) := by decide +kernel
theorem d_M_input_66 : decode b_M_input 66 = .ok (.getfield 163, 3) := by decide +kernel
theorem d_M_input_69 : decode b_M_input 69 = .ok (.iaload, 1) := by decide +kernel
theorem d_M_input_70 : decode b_M_input 70 = .ok (.iload_n 1, 1) := by decide +kernel
theorem d_M_input_71 : decode b_M_input 71 = .ok (.iadd, 1) := by decide +kernel
theorem d_M_input_72 : decode b_M_input 72 = .ok (.baload, 1) := by decide +kernel
theorem d_M_input_73 : decode b_M_input 73 = .ok (.ifCond .eq 16, 3) := by decide +kernel
theorem d_M_input_76 : decode b_M_input 76 = .ok (.iload_n 2, 1) := by decide +kernel
theorem d_M_input_77 : decode b_M_input 77 = .ok (.ifCond .lt 8, 3) := by decide +kernel
theorem d_M_input_80 : decode b_M_input 80 = .ok (.iload_n 2, 1) := by decide +kernel
theorem d_M_input_81 : decode b_M_input 81 = .ok (.iconst 1, 1) := by decide +kernel
theorem d_M_input_82 : decode b_M_input 82 = .ok (.if_icmp .le 7, 3) := by decide +kernel
theorem d_M_input_85 : decode b_M_input 85 = .ok (.iconst 1, 1) := by decide +kernel
theorem d_M_input_86 : decode b_M_input 86 = .ok (.goto 4, 3) := by decide +kernel
theorem d_M_input_89 : decode b_M_input 89 = .ok (.iconst 0, 1) := by decide +kernel
theorem d_M_input_90 : decode b_M_input 90 = .ok (.invokevirtual 270, 3) := by decide +kernel
theorem d_M_input_93 : decode b_M_input 93 = .ok (.ifCond .eq 5, 3) := by decide +kernel
theorem d_M_input_96 : decode b_M_input 96 = .ok (.iconst 0, 1) := by decide +kernel
theorem d_M_input_97 : decode b_M_input 97 = .ok (.ireturn, 1) := by decide +kernel
theorem d_M_input_98 : decode b_M_input 98 = .ok (.aload_n 0, 1) := by decide +kernel
theorem d_M_input_99 : decode b_M_input 99 = .ok (.getfield 236, 3) := by decide +kernel
theorem d_M_input_102 : decode b_M_input 102 = .ok (.iload_n 1, 1) := by decide +kernel
theorem d_M_input_103 : decode b_M_input 103 = .ok (.iaload, 1) := by decide +kernel
theorem d_M_input_104 : decode b_M_input 104 = .ok (.istore_n 3, 1) := by decide +kernel
theorem d_M_input_105 : decode b_M_input 105 = .ok (.aload_n 0, 1) := by decide +kernel
theorem d_M_input_106 : decode b_M_input 106 = .ok (.getfield 236, 3) := by decide +kernel
theorem d_M_input_109 : decode b_M_input 109 = .ok (.iload_n 1, 1) := by decide +kernel
theorem d_M_input_110 : decode b_M_input 110 = .ok (.iload_n 2, 1) := by decide +kernel
theorem d_M_input_111 : decode b_M_input 111 = .ok (.iastore, 1) := by decide +kernel
theorem d_M_input_112 : decode b_M_input 112 = .ok (.iload_n 3, 1) := by decide +kernel
theorem d_M_input_113 : decode b_M_input 113 = .ok (.ireturn, 1) := by decide +kernel
abbrev mt_M_input : MT := (R_M, b_M_input, 4, some .int)
theorem vf_M_input : VF y_M_input mt_M_input 12 2 := ⟨im_M_input, se_M_input, in_M, co_M_input, by decide +kernel, _, _, rfl⟩
def f_M_input_b90 (γ : St) (x1 : Int) (x2 : Int) (x3 : Int) (x4 : Int) : Option (Int × St) :=
  bndN (f_M_refuse γ x4 x3) fun r5 γ6 =>
  if r5 = 0 then
  (chk (inb x1 100) (ap (γ6 50 x1) fun x9 =>
  chk (inb x1 100) (ap (setA γ6 50 x1 x2) fun γ11 =>
  some (x9, γ11))))
  else
  (some (0, γ6))
def f_M_input_b85 (γ : St) (x12 : Int) (x13 : Int) (x14 : Int) : Option (Int × St) :=
  f_M_input_b90 γ x12 x13 1 x14
def f_M_input_b89 (γ : St) (x15 : Int) (x16 : Int) (x17 : Int) : Option (Int × St) :=
  f_M_input_b90 γ x15 x16 0 x17
def f_M_input_b49 (γ : St) (x18 : Int) (x19 : Int) (x20 : Int) (x21 : Int) : Option (Int × St) :=
  bndN (f_M_refuse γ x21 x20) fun r22 γ23 =>
  if r22 ≠ 0 then
  (some (0, γ23))
  else
  (chk (inb (γ23 0 49) 61) (chk (i32 ((γ23 4 (γ23 0 49)) + x18)) (chk (inb ((γ23 4 (γ23 0 49)) + x18) 6000) (if (γ23 14 ((γ23 4 (γ23 0 49)) + x18)) = 0 then
  (f_M_input_b89 γ23 x18 x19 2)
  else
  (if x19 < 0 then
  (f_M_input_b85 γ23 x18 x19 2)
  else
  (if x19 ≤ 1 then
  (f_M_input_b89 γ23 x18 x19 2)
  else
  (f_M_input_b85 γ23 x18 x19 2)))))))
def f_M_input_b23 (γ : St) (x30 : Int) (x31 : Int) (x32 : Int) (x33 : Int) : Option (Int × St) :=
  bndN (f_M_refuse γ x33 x32) fun r34 γ35 =>
  if r34 ≠ 0 then
  (some (0, γ35))
  else
  (chk (inb (γ35 0 49) 60) (if x30 < (γ35 5 (γ35 0 49)) then
  (f_M_input_b49 γ35 x30 x31 0 1)
  else
  (f_M_input_b49 γ35 x30 x31 1 1)))
def f_M_input_b18 (γ : St) (x39 : Int) (x40 : Int) (x41 : Int) : Option (Int × St) :=
  f_M_input_b23 γ x39 x40 1 x41
def f_M_input (γ : St) (a0 : Int) (a1 : Int) : Option (Int × St) :=
  ap (setA γ 0 2 0) fun γ42 =>
  if (γ42 0 49) < 0 then
  (f_M_input_b18 γ42 a0 a1 1)
  else
  (if 0 ≤ a0 then
  (f_M_input_b23 γ42 a0 a1 0 1)
  else
  (f_M_input_b18 γ42 a0 a1 1))
set_option maxHeartbeats 4000000 in
theorem s_M_input_b90 {Γ : Ctx} : ∀ (γ : St) (x1 : Int) (x2 : Int) (x3 : Int) (x4 : Int), i32 x1 → i32 x2 → i32 x3 → i32 x4 → SB Γ BM mt_M_input (RmN 7 262) 0 0 (KN Γ BM mt_M_input.2.2.2) 90 [(0, vR Γ 0), (1, vI x1), (2, vI x2)] [vI x3, vI x4, vR Γ 0] γ (f_M_input_b90 γ x1 x2 x3 x4) := by
  intro γ x1 x2 x3 x4 hx1 hx2 hx3 hx4
  unfold f_M_input_b90
  refine sb_cVz vf_M_refuse (c_M_refuse γ x4 x3 hx4 hx3) rfl ml_M_270 (As := [vI x4, vI x3]) rfl rfl (Nat.le_of_ble_eq_true rfl) ⟨by decide, by decide⟩ d_M_input_90 (fun r5 γ6 hr5 => ?_)
  refine sb_if_eq 98 (z2i hr5) d_M_input_93 (by decide) (fun _ => ?_) (fun _ => ?_)
  · refine sb_aload_n 0 d_M_input_98 rfl ?_
    refine g_M_236 d_M_input_99 ?_
    refine sb_iload_n 1 d_M_input_102 rfl ?_
    refine al_M_50 d_M_input_103 (fun _ c8 => ?_)
    refine sb_istore_n [(3, vI (γ6 50 x1)), (0, vR Γ 0), (1, vI x1), (2, vI x2)] d_M_input_104 (by decide) rfl ?_
    refine sb_nme (e := γ6 50 x1) (fun x9 => [(3, vI x9), (0, vR Γ 0), (1, vI x1), (2, vI x2)]) c8 (fun x9 hx9 => ?_)
    refine sb_aload_n 1 d_M_input_105 rfl ?_
    refine g_M_236 d_M_input_106 ?_
    refine sb_iload_n 2 d_M_input_109 rfl ?_
    refine sb_iload_n 3 d_M_input_110 rfl ?_
    refine as_M_50 hx2 d_M_input_111 (fun _ => ?_)
    refine sb_aps (fun γ11 => ?_)
    refine sb_iload_n 0 d_M_input_112 rfl ?_
    exact sn_i rfl hx9 d_M_input_113
  · refine sb_iconst d_M_input_96 ?_
    exact sn_i rfl (by decide) d_M_input_97
set_option maxHeartbeats 4000000 in
theorem s_M_input_b85 {Γ : Ctx} : ∀ (γ : St) (x12 : Int) (x13 : Int) (x14 : Int), i32 x12 → i32 x13 → i32 x14 → SB Γ BM mt_M_input (RmN 7 262) 0 0 (KN Γ BM mt_M_input.2.2.2) 85 [(0, vR Γ 0), (1, vI x12), (2, vI x13)] [vI x14, vR Γ 0] γ (f_M_input_b85 γ x12 x13 x14) := by
  intro γ x12 x13 x14 hx12 hx13 hx14
  unfold f_M_input_b85
  refine sb_iconst d_M_input_85 ?_
  refine sb_goto 90 d_M_input_86 (by decide) ?_
  exact sb_lv [0, 1, 2] rfl (s_M_input_b90 γ x12 x13 1 x14 hx12 hx13 (by decide) hx14)
set_option maxHeartbeats 4000000 in
theorem s_M_input_b89 {Γ : Ctx} : ∀ (γ : St) (x15 : Int) (x16 : Int) (x17 : Int), i32 x15 → i32 x16 → i32 x17 → SB Γ BM mt_M_input (RmN 7 262) 0 0 (KN Γ BM mt_M_input.2.2.2) 89 [(0, vR Γ 0), (1, vI x15), (2, vI x16)] [vI x17, vR Γ 0] γ (f_M_input_b89 γ x15 x16 x17) := by
  intro γ x15 x16 x17 hx15 hx16 hx17
  unfold f_M_input_b89
  refine sb_iconst d_M_input_89 ?_
  exact sb_lv [0, 1, 2] rfl (s_M_input_b90 γ x15 x16 0 x17 hx15 hx16 (by decide) hx17)
set_option maxHeartbeats 4000000 in
theorem s_M_input_b49 {Γ : Ctx} : ∀ (γ : St) (x18 : Int) (x19 : Int) (x20 : Int) (x21 : Int), i32 x18 → i32 x19 → i32 x20 → i32 x21 → SB Γ BM mt_M_input (RmN 7 262) 0 0 (KN Γ BM mt_M_input.2.2.2) 49 [(0, vR Γ 0), (1, vI x18), (2, vI x19)] [vI x20, vI x21, vR Γ 0] γ (f_M_input_b49 γ x18 x19 x20 x21) := by
  intro γ x18 x19 x20 x21 hx18 hx19 hx20 hx21
  unfold f_M_input_b49
  refine sb_cVz vf_M_refuse (c_M_refuse γ x21 x20 hx21 hx20) rfl ml_M_270 (As := [vI x21, vI x20]) rfl rfl (Nat.le_of_ble_eq_true rfl) ⟨by decide, by decide⟩ d_M_input_49 (fun r22 γ23 hr22 => ?_)
  refine sb_if_ne 96 (z2i hr22) d_M_input_52 (by decide) (fun _ => ?_) (fun _ => ?_)
  · refine sb_iconst d_M_input_96 ?_
    exact sn_i rfl (by decide) d_M_input_97
  · refine sb_aload_n 0 d_M_input_55 rfl ?_
    refine sb_iconst d_M_input_56 ?_
    refine sb_aload_n 0 d_M_input_57 rfl ?_
    refine g_M_86 d_M_input_58 ?_
    refine sb_aload_n 0 d_M_input_61 rfl ?_
    refine g_M_50 d_M_input_62 ?_
    refine sb_aload_n 0 d_M_input_65 rfl ?_
    refine g_M_163 d_M_input_66 (fun c26 => ?_)
    refine al_M_4 d_M_input_69 (fun _ c27 => ?_)
    refine sb_iload_n 1 d_M_input_70 rfl ?_
    refine sb_iadd d_M_input_71 ?_
    refine sb_chk (fun c28 => ?_)
    refine al_M_14 d_M_input_72 (fun _ c29 => ?_)
    refine sb_if_eq 89 c29 d_M_input_73 (by decide) (fun _ => ?_) (fun _ => ?_)
    · exact sb_lv [0, 1, 2] rfl (s_M_input_b89 γ23 x18 x19 2 hx18 hx19 (by decide))
    · refine sb_iload_n 2 d_M_input_76 rfl ?_
      refine sb_if_lt 85 hx19 d_M_input_77 (by decide) (fun _ => ?_) (fun _ => ?_)
      · exact sb_lv [0, 1, 2] rfl (s_M_input_b85 γ23 x18 x19 2 hx18 hx19 (by decide))
      · refine sb_iload_n 2 d_M_input_80 rfl ?_
        refine sb_iconst d_M_input_81 ?_
        refine sb_icmp_le 89 hx19 (by decide) d_M_input_82 (by decide) (fun _ => ?_) (fun _ => ?_)
        · exact sb_lv [0, 1, 2] rfl (s_M_input_b89 γ23 x18 x19 2 hx18 hx19 (by decide))
        · exact sb_lv [0, 1, 2] rfl (s_M_input_b85 γ23 x18 x19 2 hx18 hx19 (by decide))
set_option maxHeartbeats 4000000 in
theorem s_M_input_b23 {Γ : Ctx} : ∀ (γ : St) (x30 : Int) (x31 : Int) (x32 : Int) (x33 : Int), i32 x30 → i32 x31 → i32 x32 → i32 x33 → SB Γ BM mt_M_input (RmN 7 262) 0 0 (KN Γ BM mt_M_input.2.2.2) 23 [(0, vR Γ 0), (1, vI x30), (2, vI x31)] [vI x32, vI x33, vR Γ 0] γ (f_M_input_b23 γ x30 x31 x32 x33) := by
  intro γ x30 x31 x32 x33 hx30 hx31 hx32 hx33
  unfold f_M_input_b23
  refine sb_cVz vf_M_refuse (c_M_refuse γ x33 x32 hx33 hx32) rfl ml_M_270 (As := [vI x33, vI x32]) rfl rfl (Nat.le_of_ble_eq_true rfl) ⟨by decide, by decide⟩ d_M_input_23 (fun r34 γ35 hr34 => ?_)
  refine sb_if_ne 96 (z2i hr34) d_M_input_26 (by decide) (fun _ => ?_) (fun _ => ?_)
  · refine sb_iconst d_M_input_96 ?_
    exact sn_i rfl (by decide) d_M_input_97
  · refine sb_aload_n 0 d_M_input_29 rfl ?_
    refine sb_iconst d_M_input_30 ?_
    refine sb_iload_n 1 d_M_input_31 rfl ?_
    refine sb_aload_n 0 d_M_input_32 rfl ?_
    refine g_M_53 d_M_input_33 ?_
    refine sb_aload_n 0 d_M_input_36 rfl ?_
    refine g_M_163 d_M_input_37 (fun c37 => ?_)
    refine al_M_5 d_M_input_40 (fun _ c38 => ?_)
    refine sb_icmp_lt 48 hx30 c38 d_M_input_41 (by decide) (fun _ => ?_) (fun _ => ?_)
    · refine sb_iconst d_M_input_48 ?_
      exact sb_lv [0, 1, 2] rfl (s_M_input_b49 γ35 x30 x31 0 1 hx30 hx31 (by decide) (by decide))
    · refine sb_iconst d_M_input_44 ?_
      refine sb_goto 49 d_M_input_45 (by decide) ?_
      exact sb_lv [0, 1, 2] rfl (s_M_input_b49 γ35 x30 x31 1 1 hx30 hx31 (by decide) (by decide))
set_option maxHeartbeats 4000000 in
theorem s_M_input_b18 {Γ : Ctx} : ∀ (γ : St) (x39 : Int) (x40 : Int) (x41 : Int), i32 x39 → i32 x40 → i32 x41 → SB Γ BM mt_M_input (RmN 7 262) 0 0 (KN Γ BM mt_M_input.2.2.2) 18 [(0, vR Γ 0), (1, vI x39), (2, vI x40)] [vI x41, vR Γ 0] γ (f_M_input_b18 γ x39 x40 x41) := by
  intro γ x39 x40 x41 hx39 hx40 hx41
  unfold f_M_input_b18
  refine sb_iconst d_M_input_18 ?_
  refine sb_goto 23 d_M_input_19 (by decide) ?_
  exact sb_lv [0, 1, 2] rfl (s_M_input_b23 γ x39 x40 1 x41 hx39 hx40 (by decide) hx41)
set_option maxHeartbeats 4000000 in
theorem c_M_input {Γ : Ctx} (γ : St) (a0 : Int) (a1 : Int) (ha0 : i32 a0) (ha1 : i32 a1) : NC Γ BM y_M_input mt_M_input 7 262 [vR Γ 0, vI a0, vI a1] γ (f_M_input γ a0 a1) := by
  refine nc_of (by decide) rfl (Nat.le_of_ble_eq_true rfl) ?_
  show SB Γ BM mt_M_input (RmN 7 262) 0 0 (KN Γ BM mt_M_input.2.2.2) 0 [(0, vR Γ 0), (1, vI a0), (2, vI a1)] [] γ _
  unfold f_M_input
  refine sb_aload_n 0 d_M_input_0 rfl ?_
  refine sb_iconst d_M_input_1 ?_
  refine p_M_18 (by decide) d_M_input_2 ?_
  refine sb_aps (fun γ42 => ?_)
  refine sb_aload_n 0 d_M_input_5 rfl ?_
  refine sb_iconst d_M_input_6 ?_
  refine sb_aload_n 0 d_M_input_7 rfl ?_
  refine g_M_163 d_M_input_8 (fun c43 => ?_)
  refine sb_if_lt 18 c43 d_M_input_11 (by decide) (fun _ => ?_) (fun _ => ?_)
  · exact sb_lv [0, 1, 2] rfl (s_M_input_b18 γ42 a0 a1 1 ha0 ha1 (by decide))
  · refine sb_iload_n 1 d_M_input_14 rfl ?_
    refine sb_if_ge 22 ha0 d_M_input_15 (by decide) (fun _ => ?_) (fun _ => ?_)
    · refine sb_iconst d_M_input_22 ?_
      exact sb_lv [0, 1, 2] rfl (s_M_input_b23 γ42 a0 a1 0 1 ha0 ha1 (by decide) (by decide))
    · exact sb_lv [0, 1, 2] rfl (s_M_input_b18 γ42 a0 a1 1 ha0 ha1 (by decide))
theorem d_M_value_0 : decode b_M_value 0 = .ok (.aload_n 0, 1) := by decide +kernel
theorem d_M_value_1 : decode b_M_value 1 = .ok (.iconst 0, 1) := by decide +kernel
theorem d_M_value_2 : decode b_M_value 2 = .ok (.putfield 18, 3) := by decide +kernel
theorem d_M_value_5 : decode b_M_value 5 = .ok (.aload_n 0, 1) := by decide +kernel
theorem d_M_value_6 : decode b_M_value 6 = .ok (.iconst 1, 1) := by decide +kernel
theorem d_M_value_7 : decode b_M_value 7 = .ok (.iload_n 1, 1) := by decide +kernel
theorem d_M_value_8 : decode b_M_value 8 = .ok (.ifCond .lt 11, 3) := by decide +kernel
theorem d_M_value_11 : decode b_M_value 11 = .ok (.iload_n 1, 1) := by decide +kernel
theorem d_M_value_12 : decode b_M_value 12 = .ok (.aload_n 0, 1) := by decide +kernel
theorem d_M_value_13 : decode b_M_value 13 = .ok (.invokevirtual 554, 3) := by decide +kernel
theorem d_M_value_16 : decode b_M_value 16 = .ok (.if_icmp .lt 7, 3) := by decide +kernel
theorem d_M_value_19 : decode b_M_value 19 = .ok (.iconst 1, 1) := by decide +kernel
theorem d_M_value_20 : decode b_M_value 20 = .ok (.goto 4, 3) := by decide +kernel
theorem d_M_value_23 : decode b_M_value 23 = .ok (.iconst 0, 1) := by decide +kernel
theorem d_M_value_24 : decode b_M_value 24 = .ok (.invokevirtual 270, 3) := by decide +kernel
theorem d_M_value_27 : decode b_M_value 27 = .ok (.ifCond .ne 23, 3) := by decide +kernel
theorem d_M_value_30 : decode b_M_value 30 = .ok (.aload_n 0, 1) := by decide +kernel
theorem d_M_value_31 : decode b_M_value 31 = .ok (.iconst 2, 1) := by decide +kernel
theorem d_M_value_32 : decode b_M_value 32 = .ok (.aload_n 0, 1) := by decide +kernel
theorem d_M_value_33 : decode b_M_value 33 = .ok (.getfield 233, 3) := by decide +kernel
theorem d_M_value_36 : decode b_M_value 36 = .ok (.ifCond .ne 7, 3) := by decide +kernel
theorem d_M_value_39 : decode b_M_value 39 = .ok (.iconst 1, 1) := by decide +kernel
theorem d_M_value_40 : decode b_M_value 40 = .ok (.goto 4, 3) := by decide +kernel
theorem d_M_value_43 : decode b_M_value 43 = .ok (.iconst 0, 1) := by decide +kernel
theorem d_M_value_44 : decode b_M_value 44 = .ok (.invokevirtual 270, 3) := by decide +kernel
theorem d_M_value_47 : decode b_M_value 47 = .ok (.ifCond .eq 5, 3) := by decide +kernel
theorem d_M_value_50 : decode b_M_value 50 = .ok (.lconst 0, 1) := by decide +kernel
theorem d_M_value_51 : decode b_M_value 51 = .ok (.lreturn, 1) := by decide +kernel
theorem d_M_value_52 : decode b_M_value 52 = .ok (.aload_n 0, 1) := by decide +kernel
theorem d_M_value_53 : decode b_M_value 53 = .ok (.getfield 251, 3) := by decide +kernel
theorem d_M_value_56 : decode b_M_value 56 = .ok (.iload_n 1, 1) := by decide +kernel
theorem d_M_value_57 : decode b_M_value 57 = .ok (.baload, 1) := by decide +kernel
theorem d_M_value_58 : decode b_M_value 58 = .ok (.ifCond .eq 13, 3) := by decide +kernel
theorem d_M_value_61 : decode b_M_value 61 = .ok (.aload_n 0, 1) := by decide +kernel
theorem d_M_value_62 : decode b_M_value 62 = .ok (.getfield 239, 3) := by decide +kernel
theorem d_M_value_65 : decode b_M_value 65 = .ok (.iload_n 1, 1) := by decide +kernel
theorem d_M_value_66 : decode b_M_value 66 = .ok (.iaload, 1) := by decide +kernel
theorem d_M_value_67 : decode b_M_value 67 = .ok (.i2l, 1) := by decide +kernel
theorem d_M_value_68 : decode b_M_value 68 = .ok (.goto 6, 3) := by decide +kernel
theorem d_M_value_71 : decode b_M_value 71 = .ok (.ldc2_w 557, 3) := by decide +kernel
theorem d_M_value_74 : decode b_M_value 74 = .ok (.lreturn, 1) := by decide +kernel
abbrev mt_M_value : MT := (R_M, b_M_value, 2, some .long)
theorem vf_M_value : VF y_M_value mt_M_value 12 1 := ⟨im_M_value, se_M_value, in_M, co_M_value, by decide +kernel, _, _, rfl⟩
def f_M_value_b44 (γ : St) (x1 : Int) (x2 : Int) (x3 : Int) : Option (Int × St) :=
  bndN (f_M_refuse γ x3 x2) fun r4 γ5 =>
  if r4 = 0 then
  (chk (inb x1 6100) (if (γ5 55 x1) = 0 then
  (some (1099511627776, γ5))
  else
  (chk (inb x1 6100) (some (γ5 51 x1, γ5)))))
  else
  (some (0, γ5))
def f_M_value_b24 (γ : St) (x10 : Int) (x11 : Int) (x12 : Int) : Option (Int × St) :=
  bndN (f_M_refuse γ x12 x11) fun r13 γ14 =>
  if r13 ≠ 0 then
  (some (0, γ14))
  else
  (if (γ14 0 72) ≠ 0 then
  (f_M_value_b44 γ14 x10 0 2)
  else
  (f_M_value_b44 γ14 x10 1 2))
def f_M_value_b19 (γ : St) (x16 : Int) (x17 : Int) : Option (Int × St) :=
  f_M_value_b24 γ x16 1 x17
def f_M_value (γ : St) (a0 : Int) : Option (Int × St) :=
  ap (setA γ 0 2 0) fun γ18 =>
  if a0 < 0 then
  (f_M_value_b19 γ18 a0 1)
  else
  (bndN (f_M_mainVariables γ18) fun r19 γ20 =>
  if a0 < r19 then
  (f_M_value_b24 γ20 a0 0 1)
  else
  (f_M_value_b19 γ20 a0 1))
set_option maxHeartbeats 4000000 in
theorem s_M_value_b44 {Γ : Ctx} : ∀ (γ : St) (x1 : Int) (x2 : Int) (x3 : Int), i32 x1 → i32 x2 → i32 x3 → SB Γ BM mt_M_value (RmN 7 262) 0 0 (KN Γ BM mt_M_value.2.2.2) 44 [(0, vR Γ 0), (1, vI x1)] [vI x2, vI x3, vR Γ 0] γ (f_M_value_b44 γ x1 x2 x3) := by
  intro γ x1 x2 x3 hx1 hx2 hx3
  unfold f_M_value_b44
  refine sb_cVz vf_M_refuse (c_M_refuse γ x3 x2 hx3 hx2) rfl ml_M_270 (As := [vI x3, vI x2]) rfl rfl (Nat.le_of_ble_eq_true rfl) ⟨by decide, by decide⟩ d_M_value_44 (fun r4 γ5 hr4 => ?_)
  refine sb_if_eq 52 (z2i hr4) d_M_value_47 (by decide) (fun _ => ?_) (fun _ => ?_)
  · refine sb_aload_n 0 d_M_value_52 rfl ?_
    refine g_M_251 d_M_value_53 ?_
    refine sb_iload_n 1 d_M_value_56 rfl ?_
    refine al_M_55 d_M_value_57 (fun _ c7 => ?_)
    refine sb_if_eq 71 c7 d_M_value_58 (by decide) (fun _ => ?_) (fun _ => ?_)
    · refine sb_ldc2M 1099511627776 (by decide +kernel) rfl d_M_value_71 ?_
      exact sn_l rfl d_M_value_74
    · refine sb_aload_n 0 d_M_value_61 rfl ?_
      refine g_M_239 d_M_value_62 ?_
      refine sb_iload_n 1 d_M_value_65 rfl ?_
      refine al_M_51 d_M_value_66 (fun _ c9 => ?_)
      refine sb_i2l c9 d_M_value_67 ?_
      refine sb_goto 74 d_M_value_68 (by decide) ?_
      exact sn_l rfl d_M_value_74
  · refine sb_lconst 0 d_M_value_50 (by decide) ?_
    exact sn_l rfl d_M_value_51
set_option maxHeartbeats 4000000 in
theorem s_M_value_b24 {Γ : Ctx} : ∀ (γ : St) (x10 : Int) (x11 : Int) (x12 : Int), i32 x10 → i32 x11 → i32 x12 → SB Γ BM mt_M_value (RmN 7 262) 0 0 (KN Γ BM mt_M_value.2.2.2) 24 [(0, vR Γ 0), (1, vI x10)] [vI x11, vI x12, vR Γ 0] γ (f_M_value_b24 γ x10 x11 x12) := by
  intro γ x10 x11 x12 hx10 hx11 hx12
  unfold f_M_value_b24
  refine sb_cVz vf_M_refuse (c_M_refuse γ x12 x11 hx12 hx11) rfl ml_M_270 (As := [vI x12, vI x11]) rfl rfl (Nat.le_of_ble_eq_true rfl) ⟨by decide, by decide⟩ d_M_value_24 (fun r13 γ14 hr13 => ?_)
  refine sb_if_ne 50 (z2i hr13) d_M_value_27 (by decide) (fun _ => ?_) (fun _ => ?_)
  · refine sb_lconst 0 d_M_value_50 (by decide) ?_
    exact sn_l rfl d_M_value_51
  · refine sb_aload_n 0 d_M_value_30 rfl ?_
    refine sb_iconst d_M_value_31 ?_
    refine sb_aload_n 0 d_M_value_32 rfl ?_
    refine g_M_233 d_M_value_33 (fun c15 => ?_)
    refine sb_if_ne 43 c15 d_M_value_36 (by decide) (fun _ => ?_) (fun _ => ?_)
    · refine sb_iconst d_M_value_43 ?_
      exact sb_lv [0, 1] rfl (s_M_value_b44 γ14 x10 0 2 hx10 (by decide) (by decide))
    · refine sb_iconst d_M_value_39 ?_
      refine sb_goto 44 d_M_value_40 (by decide) ?_
      exact sb_lv [0, 1] rfl (s_M_value_b44 γ14 x10 1 2 hx10 (by decide) (by decide))
set_option maxHeartbeats 4000000 in
theorem s_M_value_b19 {Γ : Ctx} : ∀ (γ : St) (x16 : Int) (x17 : Int), i32 x16 → i32 x17 → SB Γ BM mt_M_value (RmN 7 262) 0 0 (KN Γ BM mt_M_value.2.2.2) 19 [(0, vR Γ 0), (1, vI x16)] [vI x17, vR Γ 0] γ (f_M_value_b19 γ x16 x17) := by
  intro γ x16 x17 hx16 hx17
  unfold f_M_value_b19
  refine sb_iconst d_M_value_19 ?_
  refine sb_goto 24 d_M_value_20 (by decide) ?_
  exact sb_lv [0, 1] rfl (s_M_value_b24 γ x16 1 x17 hx16 (by decide) hx17)
set_option maxHeartbeats 4000000 in
theorem c_M_value {Γ : Ctx} (γ : St) (a0 : Int) (ha0 : i32 a0) : NC Γ BM y_M_value mt_M_value 7 262 [vR Γ 0, vI a0] γ (f_M_value γ a0) := by
  refine nc_of (by decide) rfl (Nat.le_of_ble_eq_true rfl) ?_
  show SB Γ BM mt_M_value (RmN 7 262) 0 0 (KN Γ BM mt_M_value.2.2.2) 0 [(0, vR Γ 0), (1, vI a0)] [] γ _
  unfold f_M_value
  refine sb_aload_n 0 d_M_value_0 rfl ?_
  refine sb_iconst d_M_value_1 ?_
  refine p_M_18 (by decide) d_M_value_2 ?_
  refine sb_aps (fun γ18 => ?_)
  refine sb_aload_n 0 d_M_value_5 rfl ?_
  refine sb_iconst d_M_value_6 ?_
  refine sb_iload_n 1 d_M_value_7 rfl ?_
  refine sb_if_lt 19 ha0 d_M_value_8 (by decide) (fun _ => ?_) (fun _ => ?_)
  · exact sb_lv [0, 1] rfl (s_M_value_b19 γ18 a0 1 ha0 (by decide))
  · refine sb_iload_n 1 d_M_value_11 rfl ?_
    refine sb_aload_n 0 d_M_value_12 rfl ?_
    refine sb_cVi vf_M_mainVariables (c_M_mainVariables γ18  ) rfl ml_M_554 (As := []) rfl rfl (Nat.le_of_ble_eq_true rfl) ⟨by decide, by decide⟩ d_M_value_13 (fun r19 γ20 hr19 => ?_)
    refine sb_icmp_lt 23 ha0 hr19 d_M_value_16 (by decide) (fun _ => ?_) (fun _ => ?_)
    · refine sb_iconst d_M_value_23 ?_
      exact sb_lv [0, 1] rfl (s_M_value_b24 γ20 a0 0 1 ha0 (by decide) (by decide))
    · exact sb_lv [0, 1] rfl (s_M_value_b19 γ20 a0 1 ha0 (by decide))
theorem d_M_about_0 : decode b_M_about 0 = .ok (.aload_n 0, 1) := by decide +kernel
theorem d_M_about_1 : decode b_M_about 1 = .ok (.iconst 0, 1) := by decide +kernel
theorem d_M_about_2 : decode b_M_about 2 = .ok (.putfield 18, 3) := by decide +kernel
theorem d_M_about_5 : decode b_M_about 5 = .ok (.aload_n 0, 1) := by decide +kernel
theorem d_M_about_6 : decode b_M_about 6 = .ok (.iconst 1, 1) := by decide +kernel
theorem d_M_about_7 : decode b_M_about 7 = .ok (.iload_n 1, 1) := by decide +kernel
theorem d_M_about_8 : decode b_M_about 8 = .ok (.ifCond .lt 11, 3) := by decide +kernel
theorem d_M_about_11 : decode b_M_about 11 = .ok (.iload_n 1, 1) := by decide +kernel
theorem d_M_about_12 : decode b_M_about 12 = .ok (.aload_n 0, 1) := by decide +kernel
theorem d_M_about_13 : decode b_M_about 13 = .ok (.invokevirtual 554, 3) := by decide +kernel
theorem d_M_about_16 : decode b_M_about 16 = .ok (.if_icmp .lt 7, 3) := by decide +kernel
theorem d_M_about_19 : decode b_M_about 19 = .ok (.iconst 1, 1) := by decide +kernel
theorem d_M_about_20 : decode b_M_about 20 = .ok (.goto 4, 3) := by decide +kernel
theorem d_M_about_23 : decode b_M_about 23 = .ok (.iconst 0, 1) := by decide +kernel
theorem d_M_about_24 : decode b_M_about 24 = .ok (.invokevirtual 270, 3) := by decide +kernel
theorem d_M_about_27 : decode b_M_about 27 = .ok (.ifCond .ne 25, 3) := by decide +kernel
theorem d_M_about_30 : decode b_M_about 30 = .ok (.aload_n 0, 1) := by decide +kernel
theorem d_M_about_31 : decode b_M_about 31 = .ok (.iconst 2, 1) := by decide +kernel
theorem d_M_about_32 : decode b_M_about 32 = .ok (.iload_n 2, 1) := by decide +kernel
theorem d_M_about_33 : decode b_M_about 33 = .ok (.ifCond .lt 8, 3) := by decide +kernel
theorem d_M_about_36 : decode b_M_about 36 = .ok (.iload_n 2, 1) := by decide +kernel
theorem d_M_about_37 : decode b_M_about 37 = .ok (.iconst 3, 1) := by decide +kernel
theorem d_M_about_38 : decode b_M_about 38 = .ok (.if_icmp .le 7, 3) := by decide +kernel
theorem d_M_about_41 : decode b_M_about 41 = .ok (.iconst 1, 1) := by decide +kernel
theorem d_M_about_42 : decode b_M_about 42 = .ok (.goto 4, 3) := by decide +kernel
theorem d_M_about_45 : decode b_M_about 45 = .ok (.iconst 0, 1) := by decide +kernel
theorem d_M_about_46 : decode b_M_about 46 = .ok (.invokevirtual 270, 3) := by decide +kernel
theorem d_M_about_49 : decode b_M_about 49 = .ok (.ifCond .eq 5, 3) := by decide +kernel
theorem d_M_about_52 : decode b_M_about 52 = .ok (.iconst 0, 1) := by decide +kernel
theorem d_M_about_53 : decode b_M_about 53 = .ok (.ireturn, 1) := by decide +kernel
theorem d_M_about_54 : decode b_M_about 54 = .ok (.aload_n 0, 1) := by decide +kernel
theorem d_M_about_55 : decode b_M_about 55 = .ok (.getfield 50, 3) := by decide +kernel
theorem d_M_about_58 : decode b_M_about 58 = .ok (.aload_n 0, 1) := by decide +kernel
theorem d_M_about_59 : decode b_M_about 59 = .ok (.getfield 163, 3) := by decide +kernel
theorem d_M_about_62 : decode b_M_about 62 = .ok (.iaload, 1) := by decide +kernel
theorem d_M_about_63 : decode b_M_about 63 = .ok (.iload_n 1, 1) := by decide +kernel
theorem d_M_about_64 : decode b_M_about 64 = .ok (.iadd, 1) := by decide +kernel
theorem d_M_about_65 : decode b_M_about 65 = .ok (.istore_n 3, 1) := by decide +kernel
theorem d_M_about_66 : decode b_M_about 66 = .ok (.iload_n 2, 1) := by decide +kernel
theorem d_M_about_67 : decode b_M_about 67 = .ok (.tableswitch 103 0 2 #[25, 71, 81], 25) := by decide +kernel
theorem d_M_about_92 : decode b_M_about 92 = .ok (.iload_n 1, 1) := by decide +kernel
theorem d_M_about_93 : decode b_M_about 93 = .ok (.aload_n 0, 1) := by decide +kernel
theorem d_M_about_94 : decode b_M_about 94 = .ok (.getfield 53, 3) := by decide +kernel
theorem d_M_about_97 : decode b_M_about 97 = .ok (.aload_n 0, 1) := by decide +kernel
theorem d_M_about_98 : decode b_M_about 98 = .ok (.getfield 163, 3) := by decide +kernel
theorem d_M_about_101 : decode b_M_about 101 = .ok (.iaload, 1) := by decide +kernel
theorem d_M_about_102 : decode b_M_about 102 = .ok (.if_icmp .ge 7, 3) := by decide +kernel
theorem d_M_about_105 : decode b_M_about 105 = .ok (.iconst 0, 1) := by decide +kernel
theorem d_M_about_106 : decode b_M_about 106 = .ok (.goto 31, 3) := by decide +kernel
theorem d_M_about_109 : decode b_M_about 109 = .ok (.iload_n 1, 1) := by decide +kernel
theorem d_M_about_110 : decode b_M_about 110 = .ok (.aload_n 0, 1) := by decide +kernel
theorem d_M_about_111 : decode b_M_about 111 = .ok (.getfield 53, 3) := by decide +kernel
theorem d_M_about_114 : decode b_M_about 114 = .ok (.aload_n 0, 1) := by decide +kernel
theorem d_M_about_115 : decode b_M_about 115 = .ok (.getfield 163, 3) := by decide +kernel
theorem d_M_about_118 : decode b_M_about 118 = .ok (.iaload, 1) := by decide +kernel
theorem d_M_about_119 : decode b_M_about 119 = .ok (.aload_n 0, 1) := by decide +kernel
theorem d_M_about_120 : decode b_M_about 120 = .ok (.getfield 56, 3) := by decide +kernel
theorem d_M_about_123 : decode b_M_about 123 = .ok (.aload_n 0, 1) := by decide +kernel
theorem d_M_about_124 : decode b_M_about 124 = .ok (.getfield 163, 3) := by decide +kernel
theorem d_M_about_127 : decode b_M_about 127 = .ok (.iaload, 1) := by decide +kernel
theorem d_M_about_128 : decode b_M_about 128 = .ok (.iadd, 1) := by decide +kernel
theorem d_M_about_129 : decode b_M_about 129 = .ok (.if_icmp .ge 7, 3) := by decide +kernel
theorem d_M_about_132 : decode b_M_about 132 = .ok (.iconst 1, 1) := by decide +kernel
theorem d_M_about_133 : decode b_M_about 133 = .ok (.goto 4, 3) := by decide +kernel
theorem d_M_about_136 : decode b_M_about 136 = .ok (.iconst 2, 1) := by decide +kernel
theorem d_M_about_137 : decode b_M_about 137 = .ok (.ireturn, 1) := by decide +kernel
theorem d_M_about_138 : decode b_M_about 138 = .ok (.aload_n 0, 1) := by decide +kernel
theorem d_M_about_139 : decode b_M_about 139 = .ok (.getfield 86, 3) := by decide +kernel
theorem d_M_about_142 : decode b_M_about 142 = .ok (.iload_n 3, 1) := by decide +kernel
theorem d_M_about_143 : decode b_M_about 143 = .ok (.baload, 1) := by decide +kernel
theorem d_M_about_144 : decode b_M_about 144 = .ok (.invokestatic 533, 3) := by decide +kernel
theorem d_M_about_147 : decode b_M_about 147 = .ok (.ireturn, 1) := by decide +kernel
theorem d_M_about_148 : decode b_M_about 148 = .ok (.aload_n 0, 1) := by decide +kernel
theorem d_M_about_149 : decode b_M_about 149 = .ok (.getfield 80, 3) := by decide +kernel
theorem d_M_about_152 : decode b_M_about 152 = .ok (.iload_n 3, 1) := by decide +kernel
theorem d_M_about_153 : decode b_M_about 153 = .ok (.iaload, 1) := by decide +kernel
theorem d_M_about_154 : decode b_M_about 154 = .ok (.ifCond .ge 7, 3) := by decide +kernel
theorem d_M_about_157 : decode b_M_about 157 = .ok (.iconst (-1), 1) := by decide +kernel
theorem d_M_about_158 : decode b_M_about 158 = .ok (.goto 11, 3) := by decide +kernel
theorem d_M_about_161 : decode b_M_about 161 = .ok (.aload_n 0, 1) := by decide +kernel
theorem d_M_about_162 : decode b_M_about 162 = .ok (.getfield 80, 3) := by decide +kernel
theorem d_M_about_165 : decode b_M_about 165 = .ok (.iload_n 3, 1) := by decide +kernel
theorem d_M_about_166 : decode b_M_about 166 = .ok (.iaload, 1) := by decide +kernel
theorem d_M_about_167 : decode b_M_about 167 = .ok (.iconst 2, 1) := by decide +kernel
theorem d_M_about_168 : decode b_M_about 168 = .ok (.idiv, 1) := by decide +kernel
theorem d_M_about_169 : decode b_M_about 169 = .ok (.ireturn, 1) := by decide +kernel
theorem d_M_about_170 : decode b_M_about 170 = .ok (.aload_n 0, 1) := by decide +kernel
theorem d_M_about_171 : decode b_M_about 171 = .ok (.getfield 80, 3) := by decide +kernel
theorem d_M_about_174 : decode b_M_about 174 = .ok (.iload_n 3, 1) := by decide +kernel
theorem d_M_about_175 : decode b_M_about 175 = .ok (.iaload, 1) := by decide +kernel
theorem d_M_about_176 : decode b_M_about 176 = .ok (.ifCond .ge 7, 3) := by decide +kernel
theorem d_M_about_179 : decode b_M_about 179 = .ok (.iconst 0, 1) := by decide +kernel
theorem d_M_about_180 : decode b_M_about 180 = .ok (.goto 11, 3) := by decide +kernel
theorem d_M_about_183 : decode b_M_about 183 = .ok (.aload_n 0, 1) := by decide +kernel
theorem d_M_about_184 : decode b_M_about 184 = .ok (.getfield 80, 3) := by decide +kernel
theorem d_M_about_187 : decode b_M_about 187 = .ok (.iload_n 3, 1) := by decide +kernel
theorem d_M_about_188 : decode b_M_about 188 = .ok (.iaload, 1) := by decide +kernel
theorem d_M_about_189 : decode b_M_about 189 = .ok (.iconst 1, 1) := by decide +kernel
theorem d_M_about_190 : decode b_M_about 190 = .ok (.iand, 1) := by decide +kernel
theorem d_M_about_191 : decode b_M_about 191 = .ok (.ireturn, 1) := by decide +kernel
abbrev mt_M_about : MT := (R_M, b_M_about, 4, some .int)
theorem vf_M_about : VF y_M_about mt_M_about 12 2 := ⟨im_M_about, se_M_about, in_M, co_M_about, by decide +kernel, _, _, rfl⟩
def f_M_about_b46 (γ : St) (x1 : Int) (x2 : Int) (x3 : Int) (x4 : Int) : Option (Int × St) :=
  bndN (f_M_refuse γ x4 x3) fun r5 γ6 =>
  if r5 = 0 then
  (chk (inb (γ6 0 49) 61) (chk (i32 ((γ6 4 (γ6 0 49)) + x1)) (ap ((γ6 4 (γ6 0 49)) + x1) fun x11 =>
  if x2 = 0 then
  (chk (inb (γ6 0 49) 60) (if (γ6 5 (γ6 0 49)) ≤ x1 then
  (chk (inb (γ6 0 49) 60) (chk (inb (γ6 0 49) 60) (chk (i32 ((γ6 5 (γ6 0 49)) + (γ6 6 (γ6 0 49)))) (if ((γ6 5 (γ6 0 49)) + (γ6 6 (γ6 0 49))) ≤ x1 then
  (some (2, γ6))
  else
  (some (1, γ6))))))
  else
  (some (0, γ6))))
  else if x2 = 1 then
  (chk (inb x11 6000) (bndN (f_M_truth γ6 (γ6 14 x11)) fun r25 γ26 =>
  some (r25, γ26)))
  else if x2 = 2 then
  (chk (inb x11 6000) (if 0 ≤ (γ6 12 x11) then
  (chk (inb x11 6000) (chk ((2 : Int) ≠ 0) (some (idiv (γ6 12 x11) 2, γ6))))
  else
  (some ((-1), γ6))))
  else (chk (inb x11 6000) (if 0 ≤ (γ6 12 x11) then
  (chk (inb x11 6000) (some (iand (γ6 12 x11) 1, γ6)))
  else
  (some (0, γ6)))))))
  else
  (some (0, γ6))
def f_M_about_b41 (γ : St) (x37 : Int) (x38 : Int) (x39 : Int) : Option (Int × St) :=
  f_M_about_b46 γ x37 x38 1 x39
def f_M_about_b24 (γ : St) (x40 : Int) (x41 : Int) (x42 : Int) (x43 : Int) : Option (Int × St) :=
  bndN (f_M_refuse γ x43 x42) fun r44 γ45 =>
  if r44 ≠ 0 then
  (some (0, γ45))
  else
  (if x41 < 0 then
  (f_M_about_b41 γ45 x40 x41 2)
  else
  (if x41 ≤ 3 then
  (f_M_about_b46 γ45 x40 x41 0 2)
  else
  (f_M_about_b41 γ45 x40 x41 2)))
def f_M_about_b19 (γ : St) (x46 : Int) (x47 : Int) (x48 : Int) : Option (Int × St) :=
  f_M_about_b24 γ x46 x47 1 x48
def f_M_about (γ : St) (a0 : Int) (a1 : Int) : Option (Int × St) :=
  ap (setA γ 0 2 0) fun γ49 =>
  if a0 < 0 then
  (f_M_about_b19 γ49 a0 a1 1)
  else
  (bndN (f_M_mainVariables γ49) fun r50 γ51 =>
  if a0 < r50 then
  (f_M_about_b24 γ51 a0 a1 0 1)
  else
  (f_M_about_b19 γ51 a0 a1 1))
set_option maxHeartbeats 4000000 in
theorem s_M_about_b46 {Γ : Ctx} : ∀ (γ : St) (x1 : Int) (x2 : Int) (x3 : Int) (x4 : Int), i32 x1 → i32 x2 → i32 x3 → i32 x4 → SB Γ BM mt_M_about (RmN 7 262) 0 0 (KN Γ BM mt_M_about.2.2.2) 46 [(0, vR Γ 0), (1, vI x1), (2, vI x2)] [vI x3, vI x4, vR Γ 0] γ (f_M_about_b46 γ x1 x2 x3 x4) := by
  intro γ x1 x2 x3 x4 hx1 hx2 hx3 hx4
  unfold f_M_about_b46
  refine sb_cVz vf_M_refuse (c_M_refuse γ x4 x3 hx4 hx3) rfl ml_M_270 (As := [vI x4, vI x3]) rfl rfl (Nat.le_of_ble_eq_true rfl) ⟨by decide, by decide⟩ d_M_about_46 (fun r5 γ6 hr5 => ?_)
  refine sb_if_eq 54 (z2i hr5) d_M_about_49 (by decide) (fun _ => ?_) (fun _ => ?_)
  · refine sb_aload_n 0 d_M_about_54 rfl ?_
    refine g_M_50 d_M_about_55 ?_
    refine sb_aload_n 0 d_M_about_58 rfl ?_
    refine g_M_163 d_M_about_59 (fun c8 => ?_)
    refine al_M_4 d_M_about_62 (fun _ c9 => ?_)
    refine sb_iload_n 1 d_M_about_63 rfl ?_
    refine sb_iadd d_M_about_64 ?_
    refine sb_chk (fun c10 => ?_)
    refine sb_istore_n [(3, vI ((γ6 4 (γ6 0 49)) + x1)), (0, vR Γ 0), (1, vI x1), (2, vI x2)] d_M_about_65 (by decide) rfl ?_
    refine sb_nme (e := (γ6 4 (γ6 0 49)) + x1) (fun x11 => [(3, vI x11), (0, vR Γ 0), (1, vI x1), (2, vI x2)]) c10 (fun x11 hx11 => ?_)
    refine sb_iload_n 3 d_M_about_66 rfl ?_
    refine sb_tc (off := 25) 0 92 hx2 d_M_about_67 (by decide) (by decide) (fun _ => ?_) (fun n22 => ?_)
    · refine sb_iload_n 2 d_M_about_92 rfl ?_
      refine sb_aload_n 1 d_M_about_93 rfl ?_
      refine g_M_53 d_M_about_94 ?_
      refine sb_aload_n 1 d_M_about_97 rfl ?_
      refine g_M_163 d_M_about_98 (fun c13 => ?_)
      refine al_M_5 d_M_about_101 (fun _ c14 => ?_)
      refine sb_icmp_ge 109 hx1 c14 d_M_about_102 (by decide) (fun _ => ?_) (fun _ => ?_)
      · refine sb_iload_n 2 d_M_about_109 rfl ?_
        refine sb_aload_n 1 d_M_about_110 rfl ?_
        refine g_M_53 d_M_about_111 ?_
        refine sb_aload_n 1 d_M_about_114 rfl ?_
        refine g_M_163 d_M_about_115 (fun c16 => ?_)
        refine al_M_5 d_M_about_118 (fun _ c17 => ?_)
        refine sb_aload_n 1 d_M_about_119 rfl ?_
        refine g_M_56 d_M_about_120 ?_
        refine sb_aload_n 1 d_M_about_123 rfl ?_
        refine g_M_163 d_M_about_124 (fun c19 => ?_)
        refine al_M_6 d_M_about_127 (fun _ c20 => ?_)
        refine sb_iadd d_M_about_128 ?_
        refine sb_chk (fun c21 => ?_)
        refine sb_icmp_ge 136 hx1 c21 d_M_about_129 (by decide) (fun _ => ?_) (fun _ => ?_)
        · refine sb_iconst d_M_about_136 ?_
          exact sn_i rfl (by decide) d_M_about_137
        · refine sb_iconst d_M_about_132 ?_
          refine sb_goto 137 d_M_about_133 (by decide) ?_
          exact sn_i rfl (by decide) d_M_about_137
      · refine sb_iconst d_M_about_105 ?_
        refine sb_goto 137 d_M_about_106 (by decide) ?_
        exact sn_i rfl (by decide) d_M_about_137
    refine sb_tc (off := 71) 1 138 hx2 d_M_about_67 (by decide) (by decide) (fun _ => ?_) (fun n27 => ?_)
    · refine sb_aload_n 1 d_M_about_138 rfl ?_
      refine g_M_86 d_M_about_139 ?_
      refine sb_iload_n 0 d_M_about_142 rfl ?_
      refine al_M_14 d_M_about_143 (fun _ c24 => ?_)
      refine sb_cSi vf_M_truth rfl (c_M_truth γ6 (γ6 14 x11) c24) ml_M_533 (As := [vI (γ6 14 x11)]) rfl rfl (Nat.le_of_ble_eq_true rfl) ⟨by decide, by decide⟩ d_M_about_144 (fun r25 γ26 hr25 => ?_)
      exact sn_i rfl hr25 d_M_about_147
    refine sb_tc (off := 81) 2 148 hx2 d_M_about_67 (by decide) (by decide) (fun _ => ?_) (fun n32 => ?_)
    · refine sb_aload_n 1 d_M_about_148 rfl ?_
      refine g_M_80 d_M_about_149 ?_
      refine sb_iload_n 0 d_M_about_152 rfl ?_
      refine al_M_12 d_M_about_153 (fun _ c29 => ?_)
      refine sb_if_ge 161 c29 d_M_about_154 (by decide) (fun _ => ?_) (fun _ => ?_)
      · refine sb_aload_n 1 d_M_about_161 rfl ?_
        refine g_M_80 d_M_about_162 ?_
        refine sb_iload_n 0 d_M_about_165 rfl ?_
        refine al_M_12 d_M_about_166 (fun _ c31 => ?_)
        refine sb_iconst d_M_about_167 ?_
        refine sb_idiv (by decide) d_M_about_168 (fun _ => ?_)
        exact sn_i rfl (idiv_b _ _) d_M_about_169
      · refine sb_iconst d_M_about_157 ?_
        refine sb_goto 169 d_M_about_158 (by decide) ?_
        exact sn_i rfl (by decide) d_M_about_169
    refine sb_td 170 hx2 d_M_about_67 (by omega) (by decide) ?_
    refine sb_aload_n 1 d_M_about_170 rfl ?_
    refine g_M_80 d_M_about_171 ?_
    refine sb_iload_n 0 d_M_about_174 rfl ?_
    refine al_M_12 d_M_about_175 (fun _ c34 => ?_)
    refine sb_if_ge 183 c34 d_M_about_176 (by decide) (fun _ => ?_) (fun _ => ?_)
    · refine sb_aload_n 1 d_M_about_183 rfl ?_
      refine g_M_80 d_M_about_184 ?_
      refine sb_iload_n 0 d_M_about_187 rfl ?_
      refine al_M_12 d_M_about_188 (fun _ c36 => ?_)
      refine sb_iconst d_M_about_189 ?_
      refine sb_iand d_M_about_190 ?_
      exact sn_i rfl (iand_b _ _) d_M_about_191
    · refine sb_iconst d_M_about_179 ?_
      refine sb_goto 191 d_M_about_180 (by decide) ?_
      exact sn_i rfl (by decide) d_M_about_191
  · refine sb_iconst d_M_about_52 ?_
    exact sn_i rfl (by decide) d_M_about_53
set_option maxHeartbeats 4000000 in
theorem s_M_about_b41 {Γ : Ctx} : ∀ (γ : St) (x37 : Int) (x38 : Int) (x39 : Int), i32 x37 → i32 x38 → i32 x39 → SB Γ BM mt_M_about (RmN 7 262) 0 0 (KN Γ BM mt_M_about.2.2.2) 41 [(0, vR Γ 0), (1, vI x37), (2, vI x38)] [vI x39, vR Γ 0] γ (f_M_about_b41 γ x37 x38 x39) := by
  intro γ x37 x38 x39 hx37 hx38 hx39
  unfold f_M_about_b41
  refine sb_iconst d_M_about_41 ?_
  refine sb_goto 46 d_M_about_42 (by decide) ?_
  exact sb_lv [0, 1, 2] rfl (s_M_about_b46 γ x37 x38 1 x39 hx37 hx38 (by decide) hx39)
set_option maxHeartbeats 4000000 in
theorem s_M_about_b24 {Γ : Ctx} : ∀ (γ : St) (x40 : Int) (x41 : Int) (x42 : Int) (x43 : Int), i32 x40 → i32 x41 → i32 x42 → i32 x43 → SB Γ BM mt_M_about (RmN 7 262) 0 0 (KN Γ BM mt_M_about.2.2.2) 24 [(0, vR Γ 0), (1, vI x40), (2, vI x41)] [vI x42, vI x43, vR Γ 0] γ (f_M_about_b24 γ x40 x41 x42 x43) := by
  intro γ x40 x41 x42 x43 hx40 hx41 hx42 hx43
  unfold f_M_about_b24
  refine sb_cVz vf_M_refuse (c_M_refuse γ x43 x42 hx43 hx42) rfl ml_M_270 (As := [vI x43, vI x42]) rfl rfl (Nat.le_of_ble_eq_true rfl) ⟨by decide, by decide⟩ d_M_about_24 (fun r44 γ45 hr44 => ?_)
  refine sb_if_ne 52 (z2i hr44) d_M_about_27 (by decide) (fun _ => ?_) (fun _ => ?_)
  · refine sb_iconst d_M_about_52 ?_
    exact sn_i rfl (by decide) d_M_about_53
  · refine sb_aload_n 0 d_M_about_30 rfl ?_
    refine sb_iconst d_M_about_31 ?_
    refine sb_iload_n 2 d_M_about_32 rfl ?_
    refine sb_if_lt 41 hx41 d_M_about_33 (by decide) (fun _ => ?_) (fun _ => ?_)
    · exact sb_lv [0, 1, 2] rfl (s_M_about_b41 γ45 x40 x41 2 hx40 hx41 (by decide))
    · refine sb_iload_n 2 d_M_about_36 rfl ?_
      refine sb_iconst d_M_about_37 ?_
      refine sb_icmp_le 45 hx41 (by decide) d_M_about_38 (by decide) (fun _ => ?_) (fun _ => ?_)
      · refine sb_iconst d_M_about_45 ?_
        exact sb_lv [0, 1, 2] rfl (s_M_about_b46 γ45 x40 x41 0 2 hx40 hx41 (by decide) (by decide))
      · exact sb_lv [0, 1, 2] rfl (s_M_about_b41 γ45 x40 x41 2 hx40 hx41 (by decide))
set_option maxHeartbeats 4000000 in
theorem s_M_about_b19 {Γ : Ctx} : ∀ (γ : St) (x46 : Int) (x47 : Int) (x48 : Int), i32 x46 → i32 x47 → i32 x48 → SB Γ BM mt_M_about (RmN 7 262) 0 0 (KN Γ BM mt_M_about.2.2.2) 19 [(0, vR Γ 0), (1, vI x46), (2, vI x47)] [vI x48, vR Γ 0] γ (f_M_about_b19 γ x46 x47 x48) := by
  intro γ x46 x47 x48 hx46 hx47 hx48
  unfold f_M_about_b19
  refine sb_iconst d_M_about_19 ?_
  refine sb_goto 24 d_M_about_20 (by decide) ?_
  exact sb_lv [0, 1, 2] rfl (s_M_about_b24 γ x46 x47 1 x48 hx46 hx47 (by decide) hx48)
set_option maxHeartbeats 4000000 in
theorem c_M_about {Γ : Ctx} (γ : St) (a0 : Int) (a1 : Int) (ha0 : i32 a0) (ha1 : i32 a1) : NC Γ BM y_M_about mt_M_about 7 262 [vR Γ 0, vI a0, vI a1] γ (f_M_about γ a0 a1) := by
  refine nc_of (by decide) rfl (Nat.le_of_ble_eq_true rfl) ?_
  show SB Γ BM mt_M_about (RmN 7 262) 0 0 (KN Γ BM mt_M_about.2.2.2) 0 [(0, vR Γ 0), (1, vI a0), (2, vI a1)] [] γ _
  unfold f_M_about
  refine sb_aload_n 0 d_M_about_0 rfl ?_
  refine sb_iconst d_M_about_1 ?_
  refine p_M_18 (by decide) d_M_about_2 ?_
  refine sb_aps (fun γ49 => ?_)
  refine sb_aload_n 0 d_M_about_5 rfl ?_
  refine sb_iconst d_M_about_6 ?_
  refine sb_iload_n 1 d_M_about_7 rfl ?_
  refine sb_if_lt 19 ha0 d_M_about_8 (by decide) (fun _ => ?_) (fun _ => ?_)
  · exact sb_lv [0, 1, 2] rfl (s_M_about_b19 γ49 a0 a1 1 ha0 ha1 (by decide))
  · refine sb_iload_n 1 d_M_about_11 rfl ?_
    refine sb_aload_n 0 d_M_about_12 rfl ?_
    refine sb_cVi vf_M_mainVariables (c_M_mainVariables γ49  ) rfl ml_M_554 (As := []) rfl rfl (Nat.le_of_ble_eq_true rfl) ⟨by decide, by decide⟩ d_M_about_13 (fun r50 γ51 hr50 => ?_)
    refine sb_icmp_lt 23 ha0 hr50 d_M_about_16 (by decide) (fun _ => ?_) (fun _ => ?_)
    · refine sb_iconst d_M_about_23 ?_
      exact sb_lv [0, 1, 2] rfl (s_M_about_b24 γ51 a0 a1 0 1 ha0 ha1 (by decide) (by decide))
    · exact sb_lv [0, 1, 2] rfl (s_M_about_b19 γ51 a0 a1 1 ha0 ha1 (by decide))
theorem d_M_causes_1_0 : decode b_M_causes_1 0 = .ok (.aload_n 0, 1) := by decide +kernel
theorem d_M_causes_1_1 : decode b_M_causes_1 1 = .ok (.iconst 0, 1) := by decide +kernel
theorem d_M_causes_1_2 : decode b_M_causes_1 2 = .ok (.putfield 18, 3) := by decide +kernel
theorem d_M_causes_1_5 : decode b_M_causes_1 5 = .ok (.aload_n 0, 1) := by decide +kernel
theorem d_M_causes_1_6 : decode b_M_causes_1 6 = .ok (.iconst 1, 1) := by decide +kernel
theorem d_M_causes_1_7 : decode b_M_causes_1 7 = .ok (.iload_n 1, 1) := by decide +kernel
theorem d_M_causes_1_8 : decode b_M_causes_1 8 = .ok (.ifCond .lt 23, 3) := by decide +kernel
theorem d_M_causes_1_11 : decode b_M_causes_1 11 = .ok (.iload_n 2, 1) := by decide +kernel
theorem d_M_causes_1_12 : decode b_M_causes_1 12 = .ok (.ifCond .lt 19, 3) := by decide +kernel
theorem d_M_causes_1_15 : decode b_M_causes_1 15 = .ok (.iload_n 1, 1) := by decide +kernel
theorem d_M_causes_1_16 : decode b_M_causes_1 16 = .ok (.aload_n 0, 1) := by decide +kernel
theorem d_M_causes_1_17 : decode b_M_causes_1 17 = .ok (.invokevirtual 554, 3) := by decide +kernel
theorem d_M_causes_1_20 : decode b_M_causes_1 20 = .ok (.if_icmp .ge 11, 3) := by decide +kernel
theorem d_M_causes_1_23 : decode b_M_causes_1 23 = .ok (.iload_n 2, 1) := by decide +kernel
theorem d_M_causes_1_24 : decode b_M_causes_1 24 = .ok (.aload_n 0, 1) := by decide +kernel
theorem d_M_causes_1_25 : decode b_M_causes_1 25 = .ok (.invokevirtual 554, 3) := by decide +kernel
theorem d_M_causes_1_28 : decode b_M_causes_1 28 = .ok (.if_icmp .lt 7, 3) := by decide +kernel
theorem d_M_causes_1_31 : decode b_M_causes_1 31 = .ok (.iconst 1, 1) := by decide +kernel
theorem d_M_causes_1_32 : decode b_M_causes_1 32 = .ok (.goto 4, 3) := by decide +kernel
theorem d_M_causes_1_35 : decode b_M_causes_1 35 = .ok (.iconst 0, 1) := by decide +kernel
theorem d_M_causes_1_36 : decode b_M_causes_1 36 = .ok (.invokevirtual 270, 3) := by decide +kernel
theorem d_M_causes_1_39 : decode b_M_causes_1 39 = .ok (.ifCond .eq 5, 3) := by decide +kernel
theorem d_M_causes_1_42 : decode b_M_causes_1 42 = .ok (.iconst 0, 1) := by decide +kernel
theorem d_M_causes_1_43 : decode b_M_causes_1 43 = .ok (.ireturn, 1) := by decide +kernel
theorem d_M_causes_1_44 : decode b_M_causes_1 44 = .ok (.iload_n 1, 1) := by decide +kernel
theorem d_M_causes_1_45 : decode b_M_causes_1 45 = .ok (.iload_n 2, 1) := by decide +kernel
theorem d_M_causes_1_46 : decode b_M_causes_1 46 = .ok (.if_icmp .eq 12, 3) := by decide +kernel
theorem d_M_causes_1_49 : decode b_M_causes_1 49 = .ok (.aload_n 0, 1) := by decide +kernel
theorem d_M_causes_1_50 : decode b_M_causes_1 50 = .ok (.iload_n 1, 1) := by decide +kernel
theorem d_M_causes_1_51 : decode b_M_causes_1 51 = .ok (.iload_n 2, 1) := by decide +kernel
theorem d_M_causes_1_52 : decode b_M_causes_1 52 = .ok (.invokevirtual 495, 3) := by decide +kernel
theorem d_M_causes_1_55 : decode b_M_causes_1 55 = .ok (.ifCond .eq 7, 3) := by decide +kernel
theorem d_M_causes_1_58 : decode b_M_causes_1 58 = .ok (.iconst 1, 1) := by decide +kernel
theorem d_M_causes_1_59 : decode b_M_causes_1 59 = .ok (.goto 4, 3) := by decide +kernel
theorem d_M_causes_1_62 : decode b_M_causes_1 62 = .ok (.iconst 0, 1) := by decide +kernel
theorem d_M_causes_1_63 : decode b_M_causes_1 63 = .ok (.ireturn, 1) := by decide +kernel
abbrev mt_M_causes_1 : MT := (R_M, b_M_causes_1, 3, some .boolean)
theorem vf_M_causes_1 : VF y_M_causes_1 mt_M_causes_1 12 2 := ⟨im_M_causes_1, se_M_causes_1, in_M, co_M_causes_1, by decide +kernel, _, _, rfl⟩
def f_M_causes_1_b36 (γ : St) (x1 : Int) (x2 : Int) (x3 : Int) (x4 : Int) : Option (Int × St) :=
  bndN (f_M_refuse γ x4 x3) fun r5 γ6 =>
  if r5 = 0 then
  (if x1 = x2 then
  (some (1, γ6))
  else
  (bndN (f_M_caused γ6 x1 x2) fun r7 γ8 =>
  if r7 = 0 then
  (some (0, γ8))
  else
  (some (1, γ8))))
  else
  (some (0, γ6))
def f_M_causes_1_b31 (γ : St) (x9 : Int) (x10 : Int) (x11 : Int) : Option (Int × St) :=
  f_M_causes_1_b36 γ x9 x10 1 x11
def f_M_causes_1 (γ : St) (a0 : Int) (a1 : Int) : Option (Int × St) :=
  ap (setA γ 0 2 0) fun γ12 =>
  if a0 < 0 then
  (f_M_causes_1_b31 γ12 a0 a1 1)
  else
  (if a1 < 0 then
  (f_M_causes_1_b31 γ12 a0 a1 1)
  else
  (bndN (f_M_mainVariables γ12) fun r13 γ14 =>
  if r13 ≤ a0 then
  (f_M_causes_1_b31 γ14 a0 a1 1)
  else
  (bndN (f_M_mainVariables γ14) fun r15 γ16 =>
  if a1 < r15 then
  (f_M_causes_1_b36 γ16 a0 a1 0 1)
  else
  (f_M_causes_1_b31 γ16 a0 a1 1))))
set_option maxHeartbeats 4000000 in
theorem s_M_causes_1_b36 {Γ : Ctx} : ∀ (γ : St) (x1 : Int) (x2 : Int) (x3 : Int) (x4 : Int), i32 x1 → i32 x2 → i32 x3 → i32 x4 → SB Γ BM mt_M_causes_1 (RmN 7 266) 0 0 (KN Γ BM mt_M_causes_1.2.2.2) 36 [(0, vR Γ 0), (1, vI x1), (2, vI x2)] [vI x3, vI x4, vR Γ 0] γ (f_M_causes_1_b36 γ x1 x2 x3 x4) := by
  intro γ x1 x2 x3 x4 hx1 hx2 hx3 hx4
  unfold f_M_causes_1_b36
  refine sb_cVz vf_M_refuse (c_M_refuse γ x4 x3 hx4 hx3) rfl ml_M_270 (As := [vI x4, vI x3]) rfl rfl (Nat.le_of_ble_eq_true rfl) ⟨by decide, by decide⟩ d_M_causes_1_36 (fun r5 γ6 hr5 => ?_)
  refine sb_if_eq 44 (z2i hr5) d_M_causes_1_39 (by decide) (fun _ => ?_) (fun _ => ?_)
  · refine sb_iload_n 1 d_M_causes_1_44 rfl ?_
    refine sb_iload_n 2 d_M_causes_1_45 rfl ?_
    refine sb_icmp_eq 58 hx1 hx2 d_M_causes_1_46 (by decide) (fun _ => ?_) (fun _ => ?_)
    · refine sb_iconst d_M_causes_1_58 ?_
      refine sb_goto 63 d_M_causes_1_59 (by decide) ?_
      exact sn_z rfl (by decide) d_M_causes_1_63
    · refine sb_aload_n 0 d_M_causes_1_49 rfl ?_
      refine sb_iload_n 1 d_M_causes_1_50 rfl ?_
      refine sb_iload_n 2 d_M_causes_1_51 rfl ?_
      refine sb_cVz vf_M_caused (c_M_caused γ6 x1 x2 hx1 hx2) rfl ml_M_495 (As := [vI x1, vI x2]) rfl rfl (Nat.le_of_ble_eq_true rfl) ⟨by decide, by decide⟩ d_M_causes_1_52 (fun r7 γ8 hr7 => ?_)
      refine sb_if_eq 62 (z2i hr7) d_M_causes_1_55 (by decide) (fun _ => ?_) (fun _ => ?_)
      · refine sb_iconst d_M_causes_1_62 ?_
        exact sn_z rfl (by decide) d_M_causes_1_63
      · refine sb_iconst d_M_causes_1_58 ?_
        refine sb_goto 63 d_M_causes_1_59 (by decide) ?_
        exact sn_z rfl (by decide) d_M_causes_1_63
  · refine sb_iconst d_M_causes_1_42 ?_
    exact sn_z rfl (by decide) d_M_causes_1_43
set_option maxHeartbeats 4000000 in
theorem s_M_causes_1_b31 {Γ : Ctx} : ∀ (γ : St) (x9 : Int) (x10 : Int) (x11 : Int), i32 x9 → i32 x10 → i32 x11 → SB Γ BM mt_M_causes_1 (RmN 7 266) 0 0 (KN Γ BM mt_M_causes_1.2.2.2) 31 [(0, vR Γ 0), (1, vI x9), (2, vI x10)] [vI x11, vR Γ 0] γ (f_M_causes_1_b31 γ x9 x10 x11) := by
  intro γ x9 x10 x11 hx9 hx10 hx11
  unfold f_M_causes_1_b31
  refine sb_iconst d_M_causes_1_31 ?_
  refine sb_goto 36 d_M_causes_1_32 (by decide) ?_
  exact sb_lv [0, 1, 2] rfl (s_M_causes_1_b36 γ x9 x10 1 x11 hx9 hx10 (by decide) hx11)
set_option maxHeartbeats 4000000 in
theorem c_M_causes_1 {Γ : Ctx} (γ : St) (a0 : Int) (a1 : Int) (ha0 : i32 a0) (ha1 : i32 a1) : NC Γ BM y_M_causes_1 mt_M_causes_1 7 266 [vR Γ 0, vI a0, vI a1] γ (f_M_causes_1 γ a0 a1) := by
  refine nc_of (by decide) rfl (Nat.le_of_ble_eq_true rfl) ?_
  show SB Γ BM mt_M_causes_1 (RmN 7 266) 0 0 (KN Γ BM mt_M_causes_1.2.2.2) 0 [(0, vR Γ 0), (1, vI a0), (2, vI a1)] [] γ _
  unfold f_M_causes_1
  refine sb_aload_n 0 d_M_causes_1_0 rfl ?_
  refine sb_iconst d_M_causes_1_1 ?_
  refine p_M_18 (by decide) d_M_causes_1_2 ?_
  refine sb_aps (fun γ12 => ?_)
  refine sb_aload_n 0 d_M_causes_1_5 rfl ?_
  refine sb_iconst d_M_causes_1_6 ?_
  refine sb_iload_n 1 d_M_causes_1_7 rfl ?_
  refine sb_if_lt 31 ha0 d_M_causes_1_8 (by decide) (fun _ => ?_) (fun _ => ?_)
  · exact sb_lv [0, 1, 2] rfl (s_M_causes_1_b31 γ12 a0 a1 1 ha0 ha1 (by decide))
  · refine sb_iload_n 2 d_M_causes_1_11 rfl ?_
    refine sb_if_lt 31 ha1 d_M_causes_1_12 (by decide) (fun _ => ?_) (fun _ => ?_)
    · exact sb_lv [0, 1, 2] rfl (s_M_causes_1_b31 γ12 a0 a1 1 ha0 ha1 (by decide))
    · refine sb_iload_n 1 d_M_causes_1_15 rfl ?_
      refine sb_aload_n 0 d_M_causes_1_16 rfl ?_
      refine sb_cVi vf_M_mainVariables (c_M_mainVariables γ12  ) rfl ml_M_554 (As := []) rfl rfl (Nat.le_of_ble_eq_true rfl) ⟨by decide, by decide⟩ d_M_causes_1_17 (fun r13 γ14 hr13 => ?_)
      refine sb_icmp_ge 31 ha0 hr13 d_M_causes_1_20 (by decide) (fun _ => ?_) (fun _ => ?_)
      · exact sb_lv [0, 1, 2] rfl (s_M_causes_1_b31 γ14 a0 a1 1 ha0 ha1 (by decide))
      · refine sb_iload_n 2 d_M_causes_1_23 rfl ?_
        refine sb_aload_n 0 d_M_causes_1_24 rfl ?_
        refine sb_cVi vf_M_mainVariables (c_M_mainVariables γ14  ) rfl ml_M_554 (As := []) rfl rfl (Nat.le_of_ble_eq_true rfl) ⟨by decide, by decide⟩ d_M_causes_1_25 (fun r15 γ16 hr15 => ?_)
        refine sb_icmp_lt 35 ha1 hr15 d_M_causes_1_28 (by decide) (fun _ => ?_) (fun _ => ?_)
        · refine sb_iconst d_M_causes_1_35 ?_
          exact sb_lv [0, 1, 2] rfl (s_M_causes_1_b36 γ16 a0 a1 0 1 ha0 ha1 (by decide) (by decide))
        · exact sb_lv [0, 1, 2] rfl (s_M_causes_1_b31 γ16 a0 a1 1 ha0 ha1 (by decide))
theorem d_M_restart_0 : decode b_M_restart 0 = .ok (.aload_n 0, 1) := by decide +kernel
theorem d_M_restart_1 : decode b_M_restart 1 = .ok (.iconst 0, 1) := by decide +kernel
theorem d_M_restart_2 : decode b_M_restart 2 = .ok (.putfield 18, 3) := by decide +kernel
theorem d_M_restart_5 : decode b_M_restart 5 = .ok (.aload_n 0, 1) := by decide +kernel
theorem d_M_restart_6 : decode b_M_restart 6 = .ok (.iconst 1, 1) := by decide +kernel
theorem d_M_restart_7 : decode b_M_restart 7 = .ok (.aload_n 0, 1) := by decide +kernel
theorem d_M_restart_8 : decode b_M_restart 8 = .ok (.getfield 163, 3) := by decide +kernel
theorem d_M_restart_11 : decode b_M_restart 11 = .ok (.ifCond .ge 7, 3) := by decide +kernel
theorem d_M_restart_14 : decode b_M_restart 14 = .ok (.iconst 1, 1) := by decide +kernel
theorem d_M_restart_15 : decode b_M_restart 15 = .ok (.goto 4, 3) := by decide +kernel
theorem d_M_restart_18 : decode b_M_restart 18 = .ok (.iconst 0, 1) := by decide +kernel
theorem d_M_restart_19 : decode b_M_restart 19 = .ok (.invokevirtual 270, 3) := by decide +kernel
theorem d_M_restart_22 : decode b_M_restart 22 = .ok (.ifCond .eq 5, 3) := by decide +kernel
theorem d_M_restart_25 : decode b_M_restart 25 = .ok (.iconst 0, 1) := by decide +kernel
theorem d_M_restart_26 : decode b_M_restart 26 = .ok (.ireturn, 1) := by decide +kernel
theorem d_M_restart_27 : decode b_M_restart 27 = .ok (.aload_n 0, 1) := by decide +kernel
theorem d_M_restart_28 : decode b_M_restart 28 = .ok (.getfield 233, 3) := by decide +kernel
theorem d_M_restart_31 : decode b_M_restart 31 = .ok (.istore_n 1, 1) := by decide +kernel
theorem d_M_restart_32 : decode b_M_restart 32 = .ok (.aload_n 0, 1) := by decide +kernel
theorem d_M_restart_33 : decode b_M_restart 33 = .ok (.iconst 0, 1) := by decide +kernel
theorem d_M_restart_34 : decode b_M_restart 34 = .ok (.putfield 233, 3) := by decide +kernel
theorem d_M_restart_37 : decode b_M_restart 37 = .ok (.aload_n 0, 1) := by decide +kernel
theorem d_M_restart_38 : decode b_M_restart 38 = .ok (.getfield 242, 3) := by decide +kernel
theorem d_M_restart_41 : decode b_M_restart 41 = .ok (.iconst 0, 1) := by decide +kernel
theorem d_M_restart_42 : decode b_M_restart 42 = .ok (.invokestatic 521, 3) := by decide +kernel
theorem d_M_restart_45 : decode b_M_restart 45 = .ok (.iload_n 1, 1) := by decide +kernel
theorem d_M_restart_46 : decode b_M_restart 46 = .ok (.ireturn, 1) := by decide +kernel
abbrev mt_M_restart : MT := (R_M, b_M_restart, 2, some .int)
theorem vf_M_restart : VF y_M_restart mt_M_restart 12 0 := ⟨im_M_restart, se_M_restart, in_M, co_M_restart, by decide +kernel, _, _, rfl⟩
def f_M_restart_b19 (γ : St) (x1 : Int) (x2 : Int) : Option (Int × St) :=
  bndN (f_M_refuse γ x2 x1) fun r3 γ4 =>
  if r3 = 0 then
  (ap (γ4 0 72) fun x6 =>
  ap (setA γ4 0 72 0) fun γ7 =>
  ap (flA γ7 52 0 6600 0) fun γ9 =>
  some (x6, γ9))
  else
  (some (0, γ4))
def f_M_restart (γ : St) : Option (Int × St) :=
  ap (setA γ 0 2 0) fun γ10 =>
  if 0 ≤ (γ10 0 49) then
  (f_M_restart_b19 γ10 0 1)
  else
  (f_M_restart_b19 γ10 1 1)
set_option maxHeartbeats 4000000 in
theorem s_M_restart_b19 {Γ : Ctx} : ∀ (γ : St) (x1 : Int) (x2 : Int), i32 x1 → i32 x2 → SB Γ BM mt_M_restart (RmN 7 262) 0 0 (KN Γ BM mt_M_restart.2.2.2) 19 [(0, vR Γ 0)] [vI x1, vI x2, vR Γ 0] γ (f_M_restart_b19 γ x1 x2) := by
  intro γ x1 x2 hx1 hx2
  unfold f_M_restart_b19
  refine sb_cVz vf_M_refuse (c_M_refuse γ x2 x1 hx2 hx1) rfl ml_M_270 (As := [vI x2, vI x1]) rfl rfl (Nat.le_of_ble_eq_true rfl) ⟨by decide, by decide⟩ d_M_restart_19 (fun r3 γ4 hr3 => ?_)
  refine sb_if_eq 27 (z2i hr3) d_M_restart_22 (by decide) (fun _ => ?_) (fun _ => ?_)
  · refine sb_aload_n 0 d_M_restart_27 rfl ?_
    refine g_M_233 d_M_restart_28 (fun c5 => ?_)
    refine sb_istore_n [(1, vI (γ4 0 72)), (0, vR Γ 0)] d_M_restart_31 (by decide) rfl ?_
    refine sb_nme (e := γ4 0 72) (fun x6 => [(1, vI x6), (0, vR Γ 0)]) c5 (fun x6 hx6 => ?_)
    refine sb_aload_n 1 d_M_restart_32 rfl ?_
    refine sb_iconst d_M_restart_33 ?_
    refine p_M_233 (by decide) d_M_restart_34 ?_
    refine sb_aps (fun γ7 => ?_)
    refine sb_aload_n 1 d_M_restart_37 rfl ?_
    refine g_M_242 d_M_restart_38 ?_
    refine sb_iconst d_M_restart_41 ?_
    refine sb_fill0 rfl rfl (by decide) (by decide) ml_M_521 (Nat.le_of_ble_eq_true rfl) ⟨by decide, by decide⟩ d_M_restart_42 (fun γ9 => ?_)
    refine sb_iload_n 0 d_M_restart_45 rfl ?_
    exact sn_i rfl hx6 d_M_restart_46
  · refine sb_iconst d_M_restart_25 ?_
    exact sn_i rfl (by decide) d_M_restart_26
set_option maxHeartbeats 4000000 in
theorem c_M_restart {Γ : Ctx} (γ : St) : NC Γ BM y_M_restart mt_M_restart 7 262 [vR Γ 0] γ (f_M_restart γ) := by
  refine nc_of (by decide) rfl (Nat.le_of_ble_eq_true rfl) ?_
  show SB Γ BM mt_M_restart (RmN 7 262) 0 0 (KN Γ BM mt_M_restart.2.2.2) 0 [(0, vR Γ 0)] [] γ _
  unfold f_M_restart
  refine sb_aload_n 0 d_M_restart_0 rfl ?_
  refine sb_iconst d_M_restart_1 ?_
  refine p_M_18 (by decide) d_M_restart_2 ?_
  refine sb_aps (fun γ10 => ?_)
  refine sb_aload_n 0 d_M_restart_5 rfl ?_
  refine sb_iconst d_M_restart_6 ?_
  refine sb_aload_n 0 d_M_restart_7 rfl ?_
  refine g_M_163 d_M_restart_8 (fun c11 => ?_)
  refine sb_if_ge 18 c11 d_M_restart_11 (by decide) (fun _ => ?_) (fun _ => ?_)
  · refine sb_iconst d_M_restart_18 ?_
    exact sb_lv [0] rfl (s_M_restart_b19 γ10 0 1 (by decide) (by decide))
  · refine sb_iconst d_M_restart_14 ?_
    refine sb_goto 19 d_M_restart_15 (by decide) ?_
    exact sb_lv [0] rfl (s_M_restart_b19 γ10 1 1 (by decide) (by decide))
theorem d_M_keep_0 : decode b_M_keep 0 = .ok (.aload_n 0, 1) := by decide +kernel
theorem d_M_keep_1 : decode b_M_keep 1 = .ok (.iconst 0, 1) := by decide +kernel
theorem d_M_keep_2 : decode b_M_keep 2 = .ok (.putfield 18, 3) := by decide +kernel
theorem d_M_keep_5 : decode b_M_keep 5 = .ok (.aload_n 0, 1) := by decide +kernel
theorem d_M_keep_6 : decode b_M_keep 6 = .ok (.iconst 1, 1) := by decide +kernel
theorem d_M_keep_7 : decode b_M_keep 7 = .ok (.aload_n 0, 1) := by decide +kernel
theorem d_M_keep_8 : decode b_M_keep 8 = .ok (.getfield 163, 3) := by decide +kernel
theorem d_M_keep_11 : decode b_M_keep 11 = .ok (.ifCond .lt 10, 3) := by decide +kernel
theorem d_M_keep_14 : decode b_M_keep 14 = .ok (.aload_n 0, 1) := by decide +kernel
theorem d_M_keep_15 : decode b_M_keep 15 = .ok (.getfield 233, 3) := by decide +kernel
theorem d_M_keep_18 : decode b_M_keep 18 = .ok (.ifCond .ne 7, 3) := by decide +kernel
theorem d_M_keep_21 : decode b_M_keep 21 = .ok (.iconst 1, 1) := by decide +kernel
theorem d_M_keep_22 : decode b_M_keep 22 = .ok (.goto 4, 3) := by decide +kernel
theorem d_M_keep_25 : decode b_M_keep 25 = .ok (.iconst 0, 1) := by decide +kernel
theorem d_M_keep_26 : decode b_M_keep 26 = .ok (.invokevirtual 270, 3) := by decide +kernel
theorem d_M_keep_29 : decode b_M_keep 29 = .ok (.ifCond .eq 4, 3) := by decide +kernel
theorem d_M_keep_32 : decode b_M_keep 32 = .ok (.return_, 1) := by decide +kernel
theorem d_M_keep_33 : decode b_M_keep 33 = .ok (.aload_n 0, 1) := by decide +kernel
theorem d_M_keep_34 : decode b_M_keep 34 = .ok (.iconst 1, 1) := by decide +kernel
theorem d_M_keep_35 : decode b_M_keep 35 = .ok (.putfield 266, 3) := by decide +kernel
theorem d_M_keep_38 : decode b_M_keep 38 = .ok (.aload_n 0, 1) := by decide +kernel
theorem d_M_keep_39 : decode b_M_keep 39 = .ok (.aload_n 0, 1) := by decide +kernel
theorem d_M_keep_40 : decode b_M_keep 40 = .ok (.getfield 233, 3) := by decide +kernel
theorem d_M_keep_43 : decode b_M_keep 43 = .ok (.putfield 263, 3) := by decide +kernel
theorem d_M_keep_46 : decode b_M_keep 46 = .ok (.aload_n 0, 1) := by decide +kernel
theorem d_M_keep_47 : decode b_M_keep 47 = .ok (.getfield 242, 3) := by decide +kernel
theorem d_M_keep_50 : decode b_M_keep 50 = .ok (.iconst 0, 1) := by decide +kernel
theorem d_M_keep_51 : decode b_M_keep 51 = .ok (.aload_n 0, 1) := by decide +kernel
theorem d_M_keep_52 : decode b_M_keep 52 = .ok (.getfield 254, 3) := by decide +kernel
theorem d_M_keep_55 : decode b_M_keep 55 = .ok (.iconst 0, 1) := by decide +kernel
theorem d_M_keep_56 : decode b_M_keep 56 = .ok (.aload_n 0, 1) := by decide +kernel
theorem d_M_keep_57 : decode b_M_keep 57 = .ok (.getfield 172, 3) := by decide +kernel
theorem d_M_keep_60 : decode b_M_keep 60 = .ok (.invokestatic 542, 3) := by decide +kernel
theorem d_M_keep_63 : decode b_M_keep 63 = .ok (.aload_n 0, 1) := by decide +kernel
theorem d_M_keep_64 : decode b_M_keep 64 = .ok (.getfield 239, 3) := by decide +kernel
theorem d_M_keep_67 : decode b_M_keep 67 = .ok (.iconst 0, 1) := by decide +kernel
theorem d_M_keep_68 : decode b_M_keep 68 = .ok (.aload_n 0, 1) := by decide +kernel
theorem d_M_keep_69 : decode b_M_keep 69 = .ok (.getfield 257, 3) := by decide +kernel
theorem d_M_keep_72 : decode b_M_keep 72 = .ok (.iconst 0, 1) := by decide +kernel
theorem d_M_keep_73 : decode b_M_keep 73 = .ok (.aload_n 0, 1) := by decide +kernel
theorem d_M_keep_74 : decode b_M_keep 74 = .ok (.getfield 169, 3) := by decide +kernel
theorem d_M_keep_77 : decode b_M_keep 77 = .ok (.invokestatic 542, 3) := by decide +kernel
theorem d_M_keep_80 : decode b_M_keep 80 = .ok (.aload_n 0, 1) := by decide +kernel
theorem d_M_keep_81 : decode b_M_keep 81 = .ok (.getfield 251, 3) := by decide +kernel
theorem d_M_keep_84 : decode b_M_keep 84 = .ok (.iconst 0, 1) := by decide +kernel
theorem d_M_keep_85 : decode b_M_keep 85 = .ok (.aload_n 0, 1) := by decide +kernel
theorem d_M_keep_86 : decode b_M_keep 86 = .ok (.getfield 260, 3) := by decide +kernel
theorem d_M_keep_89 : decode b_M_keep 89 = .ok (.iconst 0, 1) := by decide +kernel
theorem d_M_keep_90 : decode b_M_keep 90 = .ok (.aload_n 0, 1) := by decide +kernel
theorem d_M_keep_91 : decode b_M_keep 91 = .ok (.getfield 169, 3) := by decide +kernel
theorem d_M_keep_94 : decode b_M_keep 94 = .ok (.invokestatic 542, 3) := by decide +kernel
theorem d_M_keep_97 : decode b_M_keep 97 = .ok (.return_, 1) := by decide +kernel
abbrev mt_M_keep : MT := (R_M, b_M_keep, 1, none)
theorem vf_M_keep : VF y_M_keep mt_M_keep 12 0 := ⟨im_M_keep, se_M_keep, in_M, co_M_keep, by decide +kernel, _, _, rfl⟩
noncomputable def f_M_keep_b26 (γ : St) (x1 : Int) (x2 : Int) : Option (Int × St) :=
  bndN (f_M_refuse γ x2 x1) fun r3 γ4 =>
  if r3 = 0 then
  (ap (setA γ4 0 83 1) fun γ5 =>
  ap (setA γ5 0 82 (γ5 0 72)) fun γ7 =>
  chk (0 ≤ (γ7 0 52) ∧ (γ7 0 52) ≤ 6600 ∧ (γ7 0 52) ≤ 6600) (ap (cpA γ7 52 56 (γ7 0 52)) fun γ11 =>
  chk (0 ≤ (γ11 0 51) ∧ (γ11 0 51) ≤ 6100 ∧ (γ11 0 51) ≤ 6100) (ap (cpA γ11 51 57 (γ11 0 51)) fun γ15 =>
  @chk (0 ≤ (γ15 0 51) ∧ (γ15 0 51) ≤ 6100 ∧ (γ15 0 51) ≤ 6100 ∧ ∀ i, 0 ≤ i → i < (γ15 0 51) → γ15 55 i = 0 ∨ γ15 55 i = 1) _ (Classical.propDecidable _) (ap (cpA γ15 55 58 (γ15 0 51)) fun γ19 =>
  some (0, γ19)))))
  else
  (some (0, γ4))
noncomputable def f_M_keep_b21 (γ : St) (x20 : Int) : Option (Int × St) :=
  f_M_keep_b26 γ 1 x20
noncomputable def f_M_keep (γ : St) : Option (Int × St) :=
  ap (setA γ 0 2 0) fun γ21 =>
  if (γ21 0 49) < 0 then
  (f_M_keep_b21 γ21 1)
  else
  (if (γ21 0 72) ≠ 0 then
  (f_M_keep_b26 γ21 0 1)
  else
  (f_M_keep_b21 γ21 1))
set_option maxHeartbeats 4000000 in
theorem s_M_keep_b26 {Γ : Ctx} : ∀ (γ : St) (x1 : Int) (x2 : Int), i32 x1 → i32 x2 → SB Γ BM mt_M_keep (RmN 7 262) 0 0 (KN Γ BM mt_M_keep.2.2.2) 26 [(0, vR Γ 0)] [vI x1, vI x2, vR Γ 0] γ (f_M_keep_b26 γ x1 x2) := by
  intro γ x1 x2 hx1 hx2
  unfold f_M_keep_b26
  refine sb_cVz vf_M_refuse (c_M_refuse γ x2 x1 hx2 hx1) rfl ml_M_270 (As := [vI x2, vI x1]) rfl rfl (Nat.le_of_ble_eq_true rfl) ⟨by decide, by decide⟩ d_M_keep_26 (fun r3 γ4 hr3 => ?_)
  refine sb_if_eq 33 (z2i hr3) d_M_keep_29 (by decide) (fun _ => ?_) (fun _ => ?_)
  · refine sb_aload_n 0 d_M_keep_33 rfl ?_
    refine sb_iconst d_M_keep_34 ?_
    refine p_M_266 (by decide) d_M_keep_35 ?_
    refine sb_aps (fun γ5 => ?_)
    refine sb_aload_n 0 d_M_keep_38 rfl ?_
    refine sb_aload_n 0 d_M_keep_39 rfl ?_
    refine g_M_233 d_M_keep_40 (fun c6 => ?_)
    refine p_M_263 c6 d_M_keep_43 ?_
    refine sb_aps (fun γ7 => ?_)
    refine sb_aload_n 0 d_M_keep_46 rfl ?_
    refine g_M_242 d_M_keep_47 ?_
    refine sb_iconst d_M_keep_50 ?_
    refine sb_aload_n 0 d_M_keep_51 rfl ?_
    refine g_M_254 d_M_keep_52 ?_
    refine sb_iconst d_M_keep_55 ?_
    refine sb_aload_n 0 d_M_keep_56 rfl ?_
    refine g_M_172 d_M_keep_57 (fun c10 => ?_)
    refine sb_cpI rfl rfl rfl rfl (by decide) ml_M_542 ⟨by decide, by decide⟩ d_M_keep_60 (fun γ11 => ?_)
    refine sb_aload_n 0 d_M_keep_63 rfl ?_
    refine g_M_239 d_M_keep_64 ?_
    refine sb_iconst d_M_keep_67 ?_
    refine sb_aload_n 0 d_M_keep_68 rfl ?_
    refine g_M_257 d_M_keep_69 ?_
    refine sb_iconst d_M_keep_72 ?_
    refine sb_aload_n 0 d_M_keep_73 rfl ?_
    refine g_M_169 d_M_keep_74 (fun c14 => ?_)
    refine sb_cpI rfl rfl rfl rfl (by decide) ml_M_542 ⟨by decide, by decide⟩ d_M_keep_77 (fun γ15 => ?_)
    refine sb_aload_n 0 d_M_keep_80 rfl ?_
    refine g_M_251 d_M_keep_81 ?_
    refine sb_iconst d_M_keep_84 ?_
    refine sb_aload_n 0 d_M_keep_85 rfl ?_
    refine g_M_260 d_M_keep_86 ?_
    refine sb_iconst d_M_keep_89 ?_
    refine sb_aload_n 0 d_M_keep_90 rfl ?_
    refine g_M_169 d_M_keep_91 (fun c18 => ?_)
    refine sb_cpZ rfl rfl rfl rfl (by decide) ml_M_542 ⟨by decide, by decide⟩ d_M_keep_94 (fun γ19 => ?_)
    exact sn_v rfl d_M_keep_97
  · exact sn_v rfl d_M_keep_32
set_option maxHeartbeats 4000000 in
theorem s_M_keep_b21 {Γ : Ctx} : ∀ (γ : St) (x20 : Int), i32 x20 → SB Γ BM mt_M_keep (RmN 7 262) 0 0 (KN Γ BM mt_M_keep.2.2.2) 21 [(0, vR Γ 0)] [vI x20, vR Γ 0] γ (f_M_keep_b21 γ x20) := by
  intro γ x20 hx20
  unfold f_M_keep_b21
  refine sb_iconst d_M_keep_21 ?_
  refine sb_goto 26 d_M_keep_22 (by decide) ?_
  exact sb_lv [0] rfl (s_M_keep_b26 γ 1 x20 (by decide) hx20)
set_option maxHeartbeats 4000000 in
theorem c_M_keep {Γ : Ctx} (γ : St) : NC Γ BM y_M_keep mt_M_keep 7 262 [vR Γ 0] γ (f_M_keep γ) := by
  refine nc_of (by decide) rfl (Nat.le_of_ble_eq_true rfl) ?_
  show SB Γ BM mt_M_keep (RmN 7 262) 0 0 (KN Γ BM mt_M_keep.2.2.2) 0 [(0, vR Γ 0)] [] γ _
  unfold f_M_keep
  refine sb_aload_n 0 d_M_keep_0 rfl ?_
  refine sb_iconst d_M_keep_1 ?_
  refine p_M_18 (by decide) d_M_keep_2 ?_
  refine sb_aps (fun γ21 => ?_)
  refine sb_aload_n 0 d_M_keep_5 rfl ?_
  refine sb_iconst d_M_keep_6 ?_
  refine sb_aload_n 0 d_M_keep_7 rfl ?_
  refine g_M_163 d_M_keep_8 (fun c22 => ?_)
  refine sb_if_lt 21 c22 d_M_keep_11 (by decide) (fun _ => ?_) (fun _ => ?_)
  · exact sb_lv [0] rfl (s_M_keep_b21 γ21 1 (by decide))
  · refine sb_aload_n 0 d_M_keep_14 rfl ?_
    refine g_M_233 d_M_keep_15 (fun c23 => ?_)
    refine sb_if_ne 25 c23 d_M_keep_18 (by decide) (fun _ => ?_) (fun _ => ?_)
    · refine sb_iconst d_M_keep_25 ?_
      exact sb_lv [0] rfl (s_M_keep_b26 γ21 0 1 (by decide) (by decide))
    · exact sb_lv [0] rfl (s_M_keep_b21 γ21 1 (by decide))
theorem d_M_back_0 : decode b_M_back 0 = .ok (.aload_n 0, 1) := by decide +kernel
theorem d_M_back_1 : decode b_M_back 1 = .ok (.iconst 0, 1) := by decide +kernel
theorem d_M_back_2 : decode b_M_back 2 = .ok (.putfield 18, 3) := by decide +kernel
theorem d_M_back_5 : decode b_M_back 5 = .ok (.aload_n 0, 1) := by decide +kernel
theorem d_M_back_6 : decode b_M_back 6 = .ok (.iconst 1, 1) := by decide +kernel
theorem d_M_back_7 : decode b_M_back 7 = .ok (.aload_n 0, 1) := by decide +kernel
theorem d_M_back_8 : decode b_M_back 8 = .ok (.getfield 266, 3) := by decide +kernel
theorem d_M_back_11 : decode b_M_back 11 = .ok (.ifCond .ne 7, 3) := by decide +kernel
theorem d_M_back_14 : decode b_M_back 14 = .ok (.iconst 1, 1) := by decide +kernel
theorem d_M_back_15 : decode b_M_back 15 = .ok (.goto 4, 3) := by decide +kernel
theorem d_M_back_18 : decode b_M_back 18 = .ok (.iconst 0, 1) := by decide +kernel
theorem d_M_back_19 : decode b_M_back 19 = .ok (.invokevirtual 270, 3) := by decide +kernel
theorem d_M_back_22 : decode b_M_back 22 = .ok (.ifCond .eq 5, 3) := by decide +kernel
theorem d_M_back_25 : decode b_M_back 25 = .ok (.iconst 0, 1) := by decide +kernel
theorem d_M_back_26 : decode b_M_back 26 = .ok (.ireturn, 1) := by decide +kernel
theorem d_M_back_27 : decode b_M_back 27 = .ok (.aload_n 0, 1) := by decide +kernel
theorem d_M_back_28 : decode b_M_back 28 = .ok (.getfield 233, 3) := by decide +kernel
theorem d_M_back_31 : decode b_M_back 31 = .ok (.istore_n 1, 1) := by decide +kernel
theorem d_M_back_32 : decode b_M_back 32 = .ok (.aload_n 0, 1) := by decide +kernel
theorem d_M_back_33 : decode b_M_back 33 = .ok (.aload_n 0, 1) := by decide +kernel
theorem d_M_back_34 : decode b_M_back 34 = .ok (.getfield 263, 3) := by decide +kernel
theorem d_M_back_37 : decode b_M_back 37 = .ok (.putfield 233, 3) := by decide +kernel
theorem d_M_back_40 : decode b_M_back 40 = .ok (.aload_n 0, 1) := by decide +kernel
theorem d_M_back_41 : decode b_M_back 41 = .ok (.getfield 254, 3) := by decide +kernel
theorem d_M_back_44 : decode b_M_back 44 = .ok (.iconst 0, 1) := by decide +kernel
theorem d_M_back_45 : decode b_M_back 45 = .ok (.aload_n 0, 1) := by decide +kernel
theorem d_M_back_46 : decode b_M_back 46 = .ok (.getfield 242, 3) := by decide +kernel
theorem d_M_back_49 : decode b_M_back 49 = .ok (.iconst 0, 1) := by decide +kernel
theorem d_M_back_50 : decode b_M_back 50 = .ok (.aload_n 0, 1) := by decide +kernel
theorem d_M_back_51 : decode b_M_back 51 = .ok (.getfield 172, 3) := by decide +kernel
theorem d_M_back_54 : decode b_M_back 54 = .ok (.invokestatic 542, 3) := by decide +kernel
theorem d_M_back_57 : decode b_M_back 57 = .ok (.aload_n 0, 1) := by decide +kernel
theorem d_M_back_58 : decode b_M_back 58 = .ok (.getfield 257, 3) := by decide +kernel
theorem d_M_back_61 : decode b_M_back 61 = .ok (.iconst 0, 1) := by decide +kernel
theorem d_M_back_62 : decode b_M_back 62 = .ok (.aload_n 0, 1) := by decide +kernel
theorem d_M_back_63 : decode b_M_back 63 = .ok (.getfield 239, 3) := by decide +kernel
theorem d_M_back_66 : decode b_M_back 66 = .ok (.iconst 0, 1) := by decide +kernel
theorem d_M_back_67 : decode b_M_back 67 = .ok (.aload_n 0, 1) := by decide +kernel
theorem d_M_back_68 : decode b_M_back 68 = .ok (.getfield 169, 3) := by decide +kernel
theorem d_M_back_71 : decode b_M_back 71 = .ok (.invokestatic 542, 3) := by decide +kernel
theorem d_M_back_74 : decode b_M_back 74 = .ok (.aload_n 0, 1) := by decide +kernel
theorem d_M_back_75 : decode b_M_back 75 = .ok (.getfield 260, 3) := by decide +kernel
theorem d_M_back_78 : decode b_M_back 78 = .ok (.iconst 0, 1) := by decide +kernel
theorem d_M_back_79 : decode b_M_back 79 = .ok (.aload_n 0, 1) := by decide +kernel
theorem d_M_back_80 : decode b_M_back 80 = .ok (.getfield 251, 3) := by decide +kernel
theorem d_M_back_83 : decode b_M_back 83 = .ok (.iconst 0, 1) := by decide +kernel
theorem d_M_back_84 : decode b_M_back 84 = .ok (.aload_n 0, 1) := by decide +kernel
theorem d_M_back_85 : decode b_M_back 85 = .ok (.getfield 169, 3) := by decide +kernel
theorem d_M_back_88 : decode b_M_back 88 = .ok (.invokestatic 542, 3) := by decide +kernel
theorem d_M_back_91 : decode b_M_back 91 = .ok (.iload_n 1, 1) := by decide +kernel
theorem d_M_back_92 : decode b_M_back 92 = .ok (.ireturn, 1) := by decide +kernel
abbrev mt_M_back : MT := (R_M, b_M_back, 2, some .int)
theorem vf_M_back : VF y_M_back mt_M_back 12 0 := ⟨im_M_back, se_M_back, in_M, co_M_back, by decide +kernel, _, _, rfl⟩
noncomputable def f_M_back_b19 (γ : St) (x1 : Int) (x2 : Int) : Option (Int × St) :=
  bndN (f_M_refuse γ x2 x1) fun r3 γ4 =>
  if r3 = 0 then
  (ap (γ4 0 72) fun x6 =>
  ap (setA γ4 0 72 (γ4 0 82)) fun γ8 =>
  chk (0 ≤ (γ8 0 52) ∧ (γ8 0 52) ≤ 6600 ∧ (γ8 0 52) ≤ 6600) (ap (cpA γ8 56 52 (γ8 0 52)) fun γ12 =>
  chk (0 ≤ (γ12 0 51) ∧ (γ12 0 51) ≤ 6100 ∧ (γ12 0 51) ≤ 6100) (ap (cpA γ12 57 51 (γ12 0 51)) fun γ16 =>
  @chk (0 ≤ (γ16 0 51) ∧ (γ16 0 51) ≤ 6100 ∧ (γ16 0 51) ≤ 6100 ∧ ∀ i, 0 ≤ i → i < (γ16 0 51) → γ16 58 i = 0 ∨ γ16 58 i = 1) _ (Classical.propDecidable _) (ap (cpA γ16 58 55 (γ16 0 51)) fun γ20 =>
  some (x6, γ20)))))
  else
  (some (0, γ4))
noncomputable def f_M_back (γ : St) : Option (Int × St) :=
  ap (setA γ 0 2 0) fun γ21 =>
  if (γ21 0 83) ≠ 0 then
  (f_M_back_b19 γ21 0 1)
  else
  (f_M_back_b19 γ21 1 1)
set_option maxHeartbeats 4000000 in
theorem s_M_back_b19 {Γ : Ctx} : ∀ (γ : St) (x1 : Int) (x2 : Int), i32 x1 → i32 x2 → SB Γ BM mt_M_back (RmN 7 262) 0 0 (KN Γ BM mt_M_back.2.2.2) 19 [(0, vR Γ 0)] [vI x1, vI x2, vR Γ 0] γ (f_M_back_b19 γ x1 x2) := by
  intro γ x1 x2 hx1 hx2
  unfold f_M_back_b19
  refine sb_cVz vf_M_refuse (c_M_refuse γ x2 x1 hx2 hx1) rfl ml_M_270 (As := [vI x2, vI x1]) rfl rfl (Nat.le_of_ble_eq_true rfl) ⟨by decide, by decide⟩ d_M_back_19 (fun r3 γ4 hr3 => ?_)
  refine sb_if_eq 27 (z2i hr3) d_M_back_22 (by decide) (fun _ => ?_) (fun _ => ?_)
  · refine sb_aload_n 0 d_M_back_27 rfl ?_
    refine g_M_233 d_M_back_28 (fun c5 => ?_)
    refine sb_istore_n [(1, vI (γ4 0 72)), (0, vR Γ 0)] d_M_back_31 (by decide) rfl ?_
    refine sb_nme (e := γ4 0 72) (fun x6 => [(1, vI x6), (0, vR Γ 0)]) c5 (fun x6 hx6 => ?_)
    refine sb_aload_n 1 d_M_back_32 rfl ?_
    refine sb_aload_n 1 d_M_back_33 rfl ?_
    refine g_M_263 d_M_back_34 (fun c7 => ?_)
    refine p_M_233 c7 d_M_back_37 ?_
    refine sb_aps (fun γ8 => ?_)
    refine sb_aload_n 1 d_M_back_40 rfl ?_
    refine g_M_254 d_M_back_41 ?_
    refine sb_iconst d_M_back_44 ?_
    refine sb_aload_n 1 d_M_back_45 rfl ?_
    refine g_M_242 d_M_back_46 ?_
    refine sb_iconst d_M_back_49 ?_
    refine sb_aload_n 1 d_M_back_50 rfl ?_
    refine g_M_172 d_M_back_51 (fun c11 => ?_)
    refine sb_cpI rfl rfl rfl rfl (by decide) ml_M_542 ⟨by decide, by decide⟩ d_M_back_54 (fun γ12 => ?_)
    refine sb_aload_n 1 d_M_back_57 rfl ?_
    refine g_M_257 d_M_back_58 ?_
    refine sb_iconst d_M_back_61 ?_
    refine sb_aload_n 1 d_M_back_62 rfl ?_
    refine g_M_239 d_M_back_63 ?_
    refine sb_iconst d_M_back_66 ?_
    refine sb_aload_n 1 d_M_back_67 rfl ?_
    refine g_M_169 d_M_back_68 (fun c15 => ?_)
    refine sb_cpI rfl rfl rfl rfl (by decide) ml_M_542 ⟨by decide, by decide⟩ d_M_back_71 (fun γ16 => ?_)
    refine sb_aload_n 1 d_M_back_74 rfl ?_
    refine g_M_260 d_M_back_75 ?_
    refine sb_iconst d_M_back_78 ?_
    refine sb_aload_n 1 d_M_back_79 rfl ?_
    refine g_M_251 d_M_back_80 ?_
    refine sb_iconst d_M_back_83 ?_
    refine sb_aload_n 1 d_M_back_84 rfl ?_
    refine g_M_169 d_M_back_85 (fun c19 => ?_)
    refine sb_cpZ rfl rfl rfl rfl (by decide) ml_M_542 ⟨by decide, by decide⟩ d_M_back_88 (fun γ20 => ?_)
    refine sb_iload_n 0 d_M_back_91 rfl ?_
    exact sn_i rfl hx6 d_M_back_92
  · refine sb_iconst d_M_back_25 ?_
    exact sn_i rfl (by decide) d_M_back_26
set_option maxHeartbeats 4000000 in
theorem c_M_back {Γ : Ctx} (γ : St) : NC Γ BM y_M_back mt_M_back 7 262 [vR Γ 0] γ (f_M_back γ) := by
  refine nc_of (by decide) rfl (Nat.le_of_ble_eq_true rfl) ?_
  show SB Γ BM mt_M_back (RmN 7 262) 0 0 (KN Γ BM mt_M_back.2.2.2) 0 [(0, vR Γ 0)] [] γ _
  unfold f_M_back
  refine sb_aload_n 0 d_M_back_0 rfl ?_
  refine sb_iconst d_M_back_1 ?_
  refine p_M_18 (by decide) d_M_back_2 ?_
  refine sb_aps (fun γ21 => ?_)
  refine sb_aload_n 0 d_M_back_5 rfl ?_
  refine sb_iconst d_M_back_6 ?_
  refine sb_aload_n 0 d_M_back_7 rfl ?_
  refine g_M_266 d_M_back_8 (fun c22 => ?_)
  refine sb_if_ne 18 c22 d_M_back_11 (by decide) (fun _ => ?_) (fun _ => ?_)
  · refine sb_iconst d_M_back_18 ?_
    exact sb_lv [0] rfl (s_M_back_b19 γ21 0 1 (by decide) (by decide))
  · refine sb_iconst d_M_back_14 ?_
    refine sb_goto 19 d_M_back_15 (by decide) ?_
    exact sb_lv [0] rfl (s_M_back_b19 γ21 1 1 (by decide) (by decide))
theorem d_M_count_0 : decode b_M_count 0 = .ok (.aload_n 0, 1) := by decide +kernel
theorem d_M_count_1 : decode b_M_count 1 = .ok (.iconst 0, 1) := by decide +kernel
theorem d_M_count_2 : decode b_M_count 2 = .ok (.putfield 18, 3) := by decide +kernel
theorem d_M_count_5 : decode b_M_count 5 = .ok (.iload_n 1, 1) := by decide +kernel
theorem d_M_count_6 : decode b_M_count 6 = .ok (.tableswitch 176 0 8 #[50, 55, 76, 97, 113, 134, 139, 155, 160], 50) := by decide +kernel
theorem d_M_count_56 : decode b_M_count 56 = .ok (.aload_n 0, 1) := by decide +kernel
theorem d_M_count_57 : decode b_M_count 57 = .ok (.invokevirtual 554, 3) := by decide +kernel
theorem d_M_count_60 : decode b_M_count 60 = .ok (.ireturn, 1) := by decide +kernel
theorem d_M_count_61 : decode b_M_count 61 = .ok (.aload_n 0, 1) := by decide +kernel
theorem d_M_count_62 : decode b_M_count 62 = .ok (.getfield 163, 3) := by decide +kernel
theorem d_M_count_65 : decode b_M_count 65 = .ok (.ifCond .ge 7, 3) := by decide +kernel
theorem d_M_count_68 : decode b_M_count 68 = .ok (.iconst 0, 1) := by decide +kernel
theorem d_M_count_69 : decode b_M_count 69 = .ok (.goto 12, 3) := by decide +kernel
theorem d_M_count_72 : decode b_M_count 72 = .ok (.aload_n 0, 1) := by decide +kernel
theorem d_M_count_73 : decode b_M_count 73 = .ok (.getfield 53, 3) := by decide +kernel
theorem d_M_count_76 : decode b_M_count 76 = .ok (.aload_n 0, 1) := by decide +kernel
theorem d_M_count_77 : decode b_M_count 77 = .ok (.getfield 163, 3) := by decide +kernel
theorem d_M_count_80 : decode b_M_count 80 = .ok (.iaload, 1) := by decide +kernel
theorem d_M_count_81 : decode b_M_count 81 = .ok (.ireturn, 1) := by decide +kernel
theorem d_M_count_82 : decode b_M_count 82 = .ok (.aload_n 0, 1) := by decide +kernel
theorem d_M_count_83 : decode b_M_count 83 = .ok (.getfield 163, 3) := by decide +kernel
theorem d_M_count_86 : decode b_M_count 86 = .ok (.ifCond .ge 7, 3) := by decide +kernel
theorem d_M_count_89 : decode b_M_count 89 = .ok (.iconst 0, 1) := by decide +kernel
theorem d_M_count_90 : decode b_M_count 90 = .ok (.goto 12, 3) := by decide +kernel
theorem d_M_count_93 : decode b_M_count 93 = .ok (.aload_n 0, 1) := by decide +kernel
theorem d_M_count_94 : decode b_M_count 94 = .ok (.getfield 56, 3) := by decide +kernel
theorem d_M_count_97 : decode b_M_count 97 = .ok (.aload_n 0, 1) := by decide +kernel
theorem d_M_count_98 : decode b_M_count 98 = .ok (.getfield 163, 3) := by decide +kernel
theorem d_M_count_101 : decode b_M_count 101 = .ok (.iaload, 1) := by decide +kernel
theorem d_M_count_102 : decode b_M_count 102 = .ok (.ireturn, 1) := by decide +kernel
theorem d_M_count_103 : decode b_M_count 103 = .ok (.aload_n 0, 1) := by decide +kernel
theorem d_M_count_104 : decode b_M_count 104 = .ok (.getfield 163, 3) := by decide +kernel
theorem d_M_count_107 : decode b_M_count 107 = .ok (.ifCond .ge 7, 3) := by decide +kernel
theorem d_M_count_110 : decode b_M_count 110 = .ok (.iconst 0, 1) := by decide +kernel
theorem d_M_count_111 : decode b_M_count 111 = .ok (.goto 7, 3) := by decide +kernel
theorem d_M_count_114 : decode b_M_count 114 = .ok (.aload_n 0, 1) := by decide +kernel
theorem d_M_count_115 : decode b_M_count 115 = .ok (.getfield 169, 3) := by decide +kernel
theorem d_M_count_118 : decode b_M_count 118 = .ok (.ireturn, 1) := by decide +kernel
theorem d_M_count_119 : decode b_M_count 119 = .ok (.aload_n 0, 1) := by decide +kernel
theorem d_M_count_120 : decode b_M_count 120 = .ok (.getfield 163, 3) := by decide +kernel
theorem d_M_count_123 : decode b_M_count 123 = .ok (.ifCond .ge 7, 3) := by decide +kernel
theorem d_M_count_126 : decode b_M_count 126 = .ok (.iconst 0, 1) := by decide +kernel
theorem d_M_count_127 : decode b_M_count 127 = .ok (.goto 12, 3) := by decide +kernel
theorem d_M_count_130 : decode b_M_count 130 = .ok (.aload_n 0, 1) := by decide +kernel
theorem d_M_count_131 : decode b_M_count 131 = .ok (.getfield 160, 3) := by decide +kernel
theorem d_M_count_134 : decode b_M_count 134 = .ok (.aload_n 0, 1) := by decide +kernel
theorem d_M_count_135 : decode b_M_count 135 = .ok (.getfield 163, 3) := by decide +kernel
theorem d_M_count_138 : decode b_M_count 138 = .ok (.iaload, 1) := by decide +kernel
theorem d_M_count_139 : decode b_M_count 139 = .ok (.ireturn, 1) := by decide +kernel
theorem d_M_count_140 : decode b_M_count 140 = .ok (.aload_n 0, 1) := by decide +kernel
theorem d_M_count_141 : decode b_M_count 141 = .ok (.getfield 233, 3) := by decide +kernel
theorem d_M_count_144 : decode b_M_count 144 = .ok (.ireturn, 1) := by decide +kernel
theorem d_M_count_145 : decode b_M_count 145 = .ok (.aload_n 0, 1) := by decide +kernel
theorem d_M_count_146 : decode b_M_count 146 = .ok (.getfield 163, 3) := by decide +kernel
theorem d_M_count_149 : decode b_M_count 149 = .ok (.ifCond .ge 7, 3) := by decide +kernel
theorem d_M_count_152 : decode b_M_count 152 = .ok (.iconst 0, 1) := by decide +kernel
theorem d_M_count_153 : decode b_M_count 153 = .ok (.goto 7, 3) := by decide +kernel
theorem d_M_count_156 : decode b_M_count 156 = .ok (.aload_n 0, 1) := by decide +kernel
theorem d_M_count_157 : decode b_M_count 157 = .ok (.getfield 175, 3) := by decide +kernel
theorem d_M_count_160 : decode b_M_count 160 = .ok (.ireturn, 1) := by decide +kernel
theorem d_M_count_161 : decode b_M_count 161 = .ok (.aload_n 0, 1) := by decide +kernel
theorem d_M_count_162 : decode b_M_count 162 = .ok (.getfield 14, 3) := by decide +kernel
theorem d_M_count_165 : decode b_M_count 165 = .ok (.ireturn, 1) := by decide +kernel
theorem d_M_count_166 : decode b_M_count 166 = .ok (.aload_n 0, 1) := by decide +kernel
theorem d_M_count_167 : decode b_M_count 167 = .ok (.getfield 163, 3) := by decide +kernel
theorem d_M_count_170 : decode b_M_count 170 = .ok (.ifCond .ge 7, 3) := by decide +kernel
theorem d_M_count_173 : decode b_M_count 173 = .ok (.iconst 0, 1) := by decide +kernel
theorem d_M_count_174 : decode b_M_count 174 = .ok (.goto 7, 3) := by decide +kernel
theorem d_M_count_177 : decode b_M_count 177 = .ok (.aload_n 0, 1) := by decide +kernel
theorem d_M_count_178 : decode b_M_count 178 = .ok (.getfield 68, 3) := by decide +kernel
theorem d_M_count_181 : decode b_M_count 181 = .ok (.ireturn, 1) := by decide +kernel
theorem d_M_count_182 : decode b_M_count 182 = .ok (.iconst (-1), 1) := by decide +kernel
theorem d_M_count_183 : decode b_M_count 183 = .ok (.ireturn, 1) := by decide +kernel
abbrev mt_M_count : MT := (R_M, b_M_count, 2, some .int)
theorem vf_M_count : VF y_M_count mt_M_count 12 1 := ⟨im_M_count, se_M_count, in_M, co_M_count, by decide +kernel, _, _, rfl⟩
def f_M_count (γ : St) (a0 : Int) : Option (Int × St) :=
  ap (setA γ 0 2 0) fun γ1 =>
  if a0 = 0 then
  (bndN (f_M_mainVariables γ1) fun r2 γ3 =>
  some (r2, γ3))
  else if a0 = 1 then
  (if 0 ≤ (γ1 0 49) then
  (chk (inb (γ1 0 49) 60) (some (γ1 5 (γ1 0 49), γ1)))
  else
  (some (0, γ1)))
  else if a0 = 2 then
  (if 0 ≤ (γ1 0 49) then
  (chk (inb (γ1 0 49) 60) (some (γ1 6 (γ1 0 49), γ1)))
  else
  (some (0, γ1)))
  else if a0 = 3 then
  (if 0 ≤ (γ1 0 49) then
  (some (γ1 0 51, γ1))
  else
  (some (0, γ1)))
  else if a0 = 4 then
  (if 0 ≤ (γ1 0 49) then
  (chk (inb (γ1 0 49) 60) (some (γ1 34 (γ1 0 49), γ1)))
  else
  (some (0, γ1)))
  else if a0 = 5 then
  (some (γ1 0 72, γ1))
  else if a0 = 6 then
  (if 0 ≤ (γ1 0 49) then
  (some (γ1 0 53, γ1))
  else
  (some (0, γ1)))
  else if a0 = 7 then
  (some (γ1 0 1, γ1))
  else if a0 = 8 then
  (if 0 ≤ (γ1 0 49) then
  (some (γ1 0 18, γ1))
  else
  (some (0, γ1)))
  else (some ((-1), γ1))
set_option maxHeartbeats 4000000 in
theorem c_M_count {Γ : Ctx} (γ : St) (a0 : Int) (ha0 : i32 a0) : NC Γ BM y_M_count mt_M_count 7 260 [vR Γ 0, vI a0] γ (f_M_count γ a0) := by
  refine nc_of (by decide) rfl (Nat.le_of_ble_eq_true rfl) ?_
  show SB Γ BM mt_M_count (RmN 7 260) 0 0 (KN Γ BM mt_M_count.2.2.2) 0 [(0, vR Γ 0), (1, vI a0)] [] γ _
  unfold f_M_count
  refine sb_aload_n 0 d_M_count_0 rfl ?_
  refine sb_iconst d_M_count_1 ?_
  refine p_M_18 (by decide) d_M_count_2 ?_
  refine sb_aps (fun γ1 => ?_)
  refine sb_iload_n 1 d_M_count_5 rfl ?_
  refine sb_tc (off := 50) 0 56 ha0 d_M_count_6 (by decide) (by decide) (fun _ => ?_) (fun n4 => ?_)
  · refine sb_aload_n 0 d_M_count_56 rfl ?_
    refine sb_cVi vf_M_mainVariables (c_M_mainVariables γ1  ) rfl ml_M_554 (As := []) rfl rfl (Nat.le_of_ble_eq_true rfl) ⟨by decide, by decide⟩ d_M_count_57 (fun r2 γ3 hr2 => ?_)
    exact sn_i rfl hr2 d_M_count_60
  refine sb_tc (off := 55) 1 61 ha0 d_M_count_6 (by decide) (by decide) (fun _ => ?_) (fun n9 => ?_)
  · refine sb_aload_n 0 d_M_count_61 rfl ?_
    refine g_M_163 d_M_count_62 (fun c5 => ?_)
    refine sb_if_ge 72 c5 d_M_count_65 (by decide) (fun _ => ?_) (fun _ => ?_)
    · refine sb_aload_n 0 d_M_count_72 rfl ?_
      refine g_M_53 d_M_count_73 ?_
      refine sb_aload_n 0 d_M_count_76 rfl ?_
      refine g_M_163 d_M_count_77 (fun c7 => ?_)
      refine al_M_5 d_M_count_80 (fun _ c8 => ?_)
      exact sn_i rfl c8 d_M_count_81
    · refine sb_iconst d_M_count_68 ?_
      refine sb_goto 81 d_M_count_69 (by decide) ?_
      exact sn_i rfl (by decide) d_M_count_81
  refine sb_tc (off := 76) 2 82 ha0 d_M_count_6 (by decide) (by decide) (fun _ => ?_) (fun n14 => ?_)
  · refine sb_aload_n 0 d_M_count_82 rfl ?_
    refine g_M_163 d_M_count_83 (fun c10 => ?_)
    refine sb_if_ge 93 c10 d_M_count_86 (by decide) (fun _ => ?_) (fun _ => ?_)
    · refine sb_aload_n 0 d_M_count_93 rfl ?_
      refine g_M_56 d_M_count_94 ?_
      refine sb_aload_n 0 d_M_count_97 rfl ?_
      refine g_M_163 d_M_count_98 (fun c12 => ?_)
      refine al_M_6 d_M_count_101 (fun _ c13 => ?_)
      exact sn_i rfl c13 d_M_count_102
    · refine sb_iconst d_M_count_89 ?_
      refine sb_goto 102 d_M_count_90 (by decide) ?_
      exact sn_i rfl (by decide) d_M_count_102
  refine sb_tc (off := 97) 3 103 ha0 d_M_count_6 (by decide) (by decide) (fun _ => ?_) (fun n17 => ?_)
  · refine sb_aload_n 0 d_M_count_103 rfl ?_
    refine g_M_163 d_M_count_104 (fun c15 => ?_)
    refine sb_if_ge 114 c15 d_M_count_107 (by decide) (fun _ => ?_) (fun _ => ?_)
    · refine sb_aload_n 0 d_M_count_114 rfl ?_
      refine g_M_169 d_M_count_115 (fun c16 => ?_)
      exact sn_i rfl c16 d_M_count_118
    · refine sb_iconst d_M_count_110 ?_
      refine sb_goto 118 d_M_count_111 (by decide) ?_
      exact sn_i rfl (by decide) d_M_count_118
  refine sb_tc (off := 113) 4 119 ha0 d_M_count_6 (by decide) (by decide) (fun _ => ?_) (fun n22 => ?_)
  · refine sb_aload_n 0 d_M_count_119 rfl ?_
    refine g_M_163 d_M_count_120 (fun c18 => ?_)
    refine sb_if_ge 130 c18 d_M_count_123 (by decide) (fun _ => ?_) (fun _ => ?_)
    · refine sb_aload_n 0 d_M_count_130 rfl ?_
      refine g_M_160 d_M_count_131 ?_
      refine sb_aload_n 0 d_M_count_134 rfl ?_
      refine g_M_163 d_M_count_135 (fun c20 => ?_)
      refine al_M_34 d_M_count_138 (fun _ c21 => ?_)
      exact sn_i rfl c21 d_M_count_139
    · refine sb_iconst d_M_count_126 ?_
      refine sb_goto 139 d_M_count_127 (by decide) ?_
      exact sn_i rfl (by decide) d_M_count_139
  refine sb_tc (off := 134) 5 140 ha0 d_M_count_6 (by decide) (by decide) (fun _ => ?_) (fun n24 => ?_)
  · refine sb_aload_n 0 d_M_count_140 rfl ?_
    refine g_M_233 d_M_count_141 (fun c23 => ?_)
    exact sn_i rfl c23 d_M_count_144
  refine sb_tc (off := 139) 6 145 ha0 d_M_count_6 (by decide) (by decide) (fun _ => ?_) (fun n27 => ?_)
  · refine sb_aload_n 0 d_M_count_145 rfl ?_
    refine g_M_163 d_M_count_146 (fun c25 => ?_)
    refine sb_if_ge 156 c25 d_M_count_149 (by decide) (fun _ => ?_) (fun _ => ?_)
    · refine sb_aload_n 0 d_M_count_156 rfl ?_
      refine g_M_175 d_M_count_157 (fun c26 => ?_)
      exact sn_i rfl c26 d_M_count_160
    · refine sb_iconst d_M_count_152 ?_
      refine sb_goto 160 d_M_count_153 (by decide) ?_
      exact sn_i rfl (by decide) d_M_count_160
  refine sb_tc (off := 155) 7 161 ha0 d_M_count_6 (by decide) (by decide) (fun _ => ?_) (fun n29 => ?_)
  · refine sb_aload_n 0 d_M_count_161 rfl ?_
    refine g_M_14 d_M_count_162 (fun c28 => ?_)
    exact sn_i rfl c28 d_M_count_165
  refine sb_tc (off := 160) 8 166 ha0 d_M_count_6 (by decide) (by decide) (fun _ => ?_) (fun n32 => ?_)
  · refine sb_aload_n 0 d_M_count_166 rfl ?_
    refine g_M_163 d_M_count_167 (fun c30 => ?_)
    refine sb_if_ge 177 c30 d_M_count_170 (by decide) (fun _ => ?_) (fun _ => ?_)
    · refine sb_aload_n 0 d_M_count_177 rfl ?_
      refine g_M_68 d_M_count_178 (fun c31 => ?_)
      exact sn_i rfl c31 d_M_count_181
    · refine sb_iconst d_M_count_173 ?_
      refine sb_goto 181 d_M_count_174 (by decide) ?_
      exact sn_i rfl (by decide) d_M_count_181
  refine sb_td 182 ha0 d_M_count_6 (by omega) (by decide) ?_
  refine sb_iconst d_M_count_182 ?_
  exact sn_i rfl (by decide) d_M_count_183
